theorem x_stop {d : Nat} {x : Int32} {iv : zI} {rv : zR} {lv : zJ} (hT : zTop rv) : Ci mX6_stop d [.ref 1, .int x] iv rv lv (zP 0 (zu iv 1 2 x) rv lv) := eX6_stop _ (bX6_stop_0 _ hT (fun u e => by subst e; exact zP.mk rfl))
theorem x_ww {tp : Nat → Nat} {n d lo c : Nat} {x1 x2 : Int32} {st : PS} {iv : zI} {rv : zR} {lv : zJ} (hT : zTop rv) (hS : TS iv tp n st) (hP : PO n st) (h1 : x1 = nI lo) (hl : lo ≤ 9999) (h2 : ∀ v, v ≤ 9999 → (nI v ≤ x2 ↔ v < c)) :
    Ci mX6_wholeWithin (d + 1) [.ref 1, .int x1, .int x2] iv rv lv (zP (bI (wW st lo c == 0)) (if wW st lo c = 0 then iv else zu iv 1 2 (nI (wW st lo c))) rv lv) := by
  obtain ⟨s1, s2, s3, s4⟩ := hS
  have v9 := hP.2.2.2.1
  have k5 := hP.2.2.1
  refine eX6_wholeWithin _ _ (bX6_wholeWithin_0 _ _ hT ?_)
  rw [s2.1, z_2, nI_eq (by omega) (by omega), h1]
  refine ⟨fun k => ?_, fun k => ?_⟩
  rw [s2.2.2.2 k, nI_ltI (by omega) (by omega), h2 _ v9]
  refine ⟨fun z => ?_, fun z => ⟨fun y => ?_, fun y => ?_⟩⟩
  · have e : wW st lo c = 2 := by unfold wW; rw [if_pos k, if_pos (Or.inl z)]
    rw [e]
    exact zcall (x_stop hT) hT ⟨fun _ => zP.mk rfl, fun z => absurd rfl z⟩
  · have e : wW st lo c = 0 := by unfold wW; rw [if_pos k, if_neg (by omega)]
    rw [e]
    exact zP.mk rfl
  · have e : wW st lo c = 2 := by unfold wW; rw [if_pos k, if_pos (by omega)]
    rw [e]
    exact zcall (x_stop hT) hT ⟨fun _ => zP.mk rfl, fun z => absurd rfl z⟩
  · have e : wW st lo c = 1 := by unfold wW; rw [if_neg k]
    rw [e]
    exact zcall (x_stop hT) hT ⟨Or.inl rfl, zP.mk rfl⟩
theorem ww_lit {c : Nat} (hc : c < 2 ^ 31) : ∀ v, v ≤ 9999 → (nI v ≤ nI c ↔ v < c + 1) := fun v hv => by
  rw [nI_leI (by omega) hc]
  omega
theorem ww_cnt {c : Nat} (hc : c ≤ 10) : ∀ v, v ≤ 9999 → (nI v ≤ nI c - 1 ↔ v < c) := fun v hv => by
  rcases Nat.eq_zero_or_pos c with z | z
  · subst z
    refine ⟨fun q => ?_, fun q => absurd q (Nat.not_lt_zero _)⟩
    have : (0 : Int32) ≤ nI v := nI_pos' (by omega)
    exact absurd (Int32.le_trans this q) (by decide)
  · rw [z_1, pk_sub z, nI_leI (by omega) (by omega)]
    omega
/-- the words of the class -/
def wds (i : Nat) : List Nat := if i = 0 then wNum else if i = 1 then wHps else if i = 2 then wKp else if i = 3 then wIn else wApt
def XWd : Prop := ∀ {d n i : Nat} {tp : Nat → Nat} {st : PS} {iv : zI} {rv : zR} {lv : zJ}, zTop rv → TX tp n → TS iv tp n st → PO n st → i < 5 → Ci mX6_isWord (d + 12) [.ref 1, .ref (1000000 + i)] iv rv lv (zP (bI (tw tp st.1 (wds i))) iv rv lv)
theorem RQA.fail {iv w : zI} {rv : zR} {lv : zJ} {tp : Nat → Nat} {n f : Nat} {st : PS} {y : Int32} (hf : f ≠ 0) (hy : y = 0) (hS : TS w tp n st) (hF : FR iv w) : RQA iv rv lv tp n (f, st) y (zu w 1 2 (nI f)) rv lv := by
  refine ⟨?_, rfl, rfl, fun _ => ⟨zu_eq, by rw [zu_k (by decide)]; exact hS.2.1.2.1⟩, fun z => absurd z hf, fun p hp => by rw [zu_row (by omega)]; exact hF.1 p hp, by rw [zu_k (by decide)]; exact hF.2⟩
  rw [hy]
  show (0 : Int32) = bI (f == 0)
  rw [beq_eq_false_iff_ne.mpr hf]
  rfl
theorem RQA.good {iv w : zI} {rv : zR} {lv : zJ} {tp : Nat → Nat} {n : Nat} {st : PS} {y : Int32} (hy : y = 1) (hS : TS w tp n st) (h2 : w 1 2 = iv 1 2) (hF : FR iv w) : RQA iv rv lv tp n (0, st) y w rv lv := ⟨hy, rfl, rfl, fun z => absurd rfl z, fun _ => ⟨hS, h2⟩, hF⟩
theorem CS.add2 {w w1 : zI} {o : Nat} {s : Sn} {x : Nat} (cs : CS w o s) (vs : VU s) (a0 : w1 o = zu w o 0 (nI (s.1 + 1)) o) (a1 : w1 (o + 1) = zu w (o + 1) s.1 (nI x) (o + 1)) (a2 : w1 (o + 2) = zu w (o + 2) s.1 (-2) (o + 2)) (a3 : w1 (o + 3) = zu w (o + 3) s.1 0 (o + 3)) : CS w1 o (addS s x) := by
  obtain ⟨b1, b2, b3, b4, b5⟩ := cs
  refine ⟨by rw [a0, zu_eq]; rfl, by rw [a0, zu_k (by decide)]; exact b2, fun i hi => ?_, fun i hi => ?_, fun i hi => ?_⟩
  · have hi : i < s.1 + 1 := hi
    rw [a1]
    show zu w (o + 1) s.1 (nI x) (o + 1) i = nI (if i = s.1 then x else s.2.2.1 i)
    by_cases q : i = s.1
    · rw [q, zu_eq, if_pos rfl]
    · rw [zu_k q, if_neg q]; exact b3 i (by omega)
  · have hi : i < s.1 + 1 := hi
    rw [a2]
    show zu w (o + 2) s.1 (-2) (o + 2) i = kpI (if i = s.1 then 0 else s.2.2.2.1 i)
    by_cases q : i = s.1
    · rw [q, zu_eq, if_pos rfl]; rfl
    · rw [zu_k q, if_neg q]; exact b4 i (by omega)
  · have hi : i < s.1 + 1 := hi
    rw [a3]
    show zu w (o + 3) s.1 0 (o + 3) i = nI (mk (apb s.2.2.2.2 i) (s.1 + 1))
    have last : apb s.2.2.2.2 i s.1 = false := by
      cases c : apb s.2.2.2.2 i s.1 with
      | false => rfl
      | true => exact absurd (apb_lt vs.2.2.2.2.1 c).2.1 (by omega)
    by_cases q : i = s.1
    · rw [q, zu_eq]
      have : mk (apb s.2.2.2.2 s.1) (s.1 + 1) = 0 := Nat.eq_of_testBit_eq fun t => by
        rw [mk_bit]
        cases c : apb s.2.2.2.2 s.1 t with
        | false => simp
        | true => exact absurd (apb_lt vs.2.2.2.2.1 c).1 (by omega)
      rw [this]
      rfl
    · rw [zu_k q]
      have : mk (apb s.2.2.2.2 i) (s.1 + 1) = mk (apb s.2.2.2.2 i) s.1 := by simp [mk, last]
      rw [this]
      exact b5 i (by omega)
theorem x_rNum {tp : Nat → Nat} {n d : Nat} {st0 : PS} {iv : zI} {rv : zR} {lv : zJ} (hT : zTop rv) (hx : TX tp n) (hS : TS iv tp n st0) (hP : PO n st0) : Ci mX6_readNumbers (d + 3) [.ref 1] iv rv lv (RQA iv rv lv tp n (rNum tp n (n + 1) st0)) := by
  refine eX6_readNumbers (bX6_readNumbers_0 hT ?_)
  have go : ∀ (f t : Nat) (st : PS) (w : zI), t + f = n + 1 → TS w tp n st → PO n st → w 1 2 = iv 1 2 → FR iv w → Zi mX6_readNumbers (d + 3) 2 [some (.ref 1), some (.int (nI t))] [] w rv lv (RQA iv rv lv tp n (rNum tp n f st)) := by
    intro f
    induction f with
    | zero =>
      intro t st w htf hS hP h2 hF
      have hn := hx.1
      refine bX6_readNumbers_2 _ hT ?_
      rw [hS.1.1, nI_ltI (by omega) (by omega)]
      exact ⟨fun _ => zcall (x_stop hT) hT ⟨Or.inl rfl, RQA.fail (f := 1) (by omega) rfl hS hF⟩, fun z => absurd (by omega) z⟩
    | succ f ih =>
      intro t st w htf hS hP h2 hF
      have hn := hx.1
      refine bX6_readNumbers_2 _ hT ?_
      rw [hS.1.1, nI_ltI (by omega) (by omega), nI_1]
      refine ⟨fun z => absurd z (by omega), fun _ => zcallV (x_nx (d := d) hT hx hS hP) ?_⟩
      rintro u rv1 lv1 ⟨q1, q2, g1, g2, g3⟩
      have q1 := q1.symm
      have q2 := q2.symm
      subst q1 q2
      obtain ⟨p1, p2, p3⟩ := hP.nx (tp := tp)
      have f1 := hF.trans g3
      refine ⟨hT, zcall (x_ww (lo := 1) (c := 10000) (d := d + 1) hT g1 p1 rfl (by omega) (ww_lit (c := 9999) (by omega))) hT ?_⟩
      rw [rNum]
      by_cases w0 : wW (nx tp n st) 1 10000 = 0
      · simp only [w0, if_true]
        have wv := wW_0 w0
        have c20 : u 2 0 = nI st.2.2.1 := g1.2.2.2.1
        have vu : VU st.2.2 := hP.2.2.2.2
        have n10 := vu.1
        refine ⟨fun _ => ?_, fun z => absurd (show (1 : Int32) = 0 from z) (by decide)⟩
        rw [c20, z_10, nI_ltI (by omega) (by omega)]
        refine ⟨fun c => ?_, fun c => ?_⟩
        · rw [if_neg (by omega), g1.2.1.2.2.2 wv.1]
          refine zcallV (s_append (o := 2) (c := st.2.2.1) hT (by decide) c20 (by omega)) ?_
          rintro x rv1 lv1 ⟨q1, q2, a0, a1, a2, a3, a4⟩
          have q1 := q1.symm
          have q2 := q2.symm
          subst q1 q2
          have ts2 : TS x tp n ((nx tp n st).1, st.2.1, addS st.2.2 (nx tp n st).1.2.2.2) := by
            refine ⟨?_, ?_, ?_, CS.add2 g1.2.2.2 vu a0 a1 a2 a3⟩
            · unfold RT
              rw [a4 1 (by omega), a4 7 (by omega)]
              exact g1.1
            · unfold TK
              rw [a4 1 (by omega)]
              exact g1.2.1
            · rw [a4 1 (by omega)]
              exact g1.2.2.1
          have po2 : PO n ((nx tp n st).1, st.2.1, addS st.2.2 (nx tp n st).1.2.2.2) := p1.set (vu.add (by omega) (by omega))
          have f2 : FR iv x := f1.trans ⟨fun p hp => a4 p (by omega), by rw [a4 1 (by omega)]⟩
          refine ⟨hT, zcallV (x_nx (d := d) hT hx ts2 po2) ?_⟩
          rintro y rv1 lv1 ⟨q1, q2, k1, k2, k3⟩
          have q1 := q1.symm
          have q2 := q2.symm
          subst q1 q2
          obtain ⟨r1, r2, r3⟩ := po2.nx (tp := tp)
          have h2y : y 1 2 = iv 1 2 := by rw [k2, a4 1 (by omega), g2]; exact h2
          have k5 := r1.2.2.1
          rw [k1.2.1.1, z_4, nI_eq (by omega) (by omega)]
          refine ⟨hT, fun z => ?_, fun z => ?_⟩
          · rw [if_pos z]
            exact ih (t + 1) _ y (by omega) k1 r1 h2y (f2.trans k3)
          · rw [if_neg z]
            exact RQA.good rfl k1 h2y (f2.trans k3)
        · rw [if_pos (by omega)]
          exact zcall (x_stop hT) hT ⟨Or.inl rfl, RQA.fail (f := 4) (by omega) rfl g1 f1⟩
      · simp only [w0, if_false]
        rw [beq_eq_false_iff_ne.mpr w0]
        exact ⟨fun z => absurd rfl z, fun _ => RQA.fail w0 rfl g1 f1⟩
  exact go (n + 1) 0 st0 iv (by omega) hS hP rfl FR.refl
theorem x_rHps {tp : Nat → Nat} {n d : Nat} {st : PS} {iv : zI} {rv : zR} {lv : zJ} (hT : zTop rv) (hx : TX tp n) (hS : TS iv tp n st) (hP : PO n st) : Ci mX6_readHeaps (d + 3) [.ref 1] iv rv lv (RQA iv rv lv tp n (rHps tp n st)) := by
  have vu : VU st.2.2 := hP.2.2.2.2
  refine eX6_readHeaps (bX6_readHeaps_0 hT ?_)
  rw [hS.2.2.1]
  unfold rHps
  cases hb : st.2.1 with
  | true => exact ⟨fun z => absurd (show (1 : Int32) = 0 from z) (by decide), fun _ => zcall (x_stop hT) hT ⟨Or.inl rfl, RQA.fail (f := 3) (by omega) rfl hS FR.refl⟩⟩
  | false =>
    refine ⟨fun _ w e => ?_, fun z => absurd rfl z⟩
    rw [if_neg (by simp)]
    have ts : TS w tp n (st.1, true, st.2.2) := by
      refine ⟨?_, ?_, by rw [e, zu_eq]; rfl, hS.2.2.2.f2 (fun p p1 p2 => by rw [e, zu_row (by omega)])⟩
      · unfold RT
        rw [e, zu_k (by decide), zu_row (by decide)]
        exact hS.1
      · unfold TK
        rw [e, zu_k (by decide), zu_k (by decide), zu_k (by decide), zu_k (by decide)]
        exact hS.2.1
    have po : PO n (st.1, true, st.2.2) := hP.set vu
    have f0 : FR iv w := ⟨fun p hp => by rw [e, zu_row (by omega)], by rw [e, zu_k (by decide)]⟩
    have h2w : w 1 2 = iv 1 2 := by rw [e, zu_k (by decide)]
    refine zcallV (x_nx (d := d) hT hx ts po) ?_
    rintro u rv1 lv1 ⟨q1, q2, g1, g2, g3⟩
    have q1 := q1.symm
    have q2 := q2.symm
    subst q1 q2
    have p1 := (po.nx (tp := tp)).1
    have f1 := f0.trans g3
    refine ⟨hT, zcall (x_ww (lo := 2) (c := 5) (d := d + 1) hT g1 p1 rfl (by omega) (ww_lit (c := 4) (by omega))) hT ?_⟩
    generalize ea : nx tp n (st.1, true, st.2.2) = a at *
    have ea2 : a.2 = (true, st.2.2) := by rw [← ea]; rfl
    by_cases w0 : wW a 2 5 = 0
    · simp only [w0, if_true]
      have wv := wW_0 w0
      refine ⟨fun _ x ex => ?_, fun z => absurd (show (1 : Int32) = 0 from z) (by decide)⟩
      rw [g1.2.1.2.2.2 wv.1] at ex
      have cs : CS u 2 st.2.2 := by have := g1.2.2.2; rw [ea2] at this; exact this
      have ts2 : TS x tp n (a.1, true, sK st.2.2 a.1.2.2.2) := by
        refine ⟨?_, ?_, ?_, ⟨by rw [ex, zu_k (by decide)]; exact cs.1, by rw [ex, zu_eq]; rfl, fun i hi => by rw [ex, zu_row (by decide)]; exact cs.2.2.1 i hi, fun i hi => by rw [ex, zu_row (by decide)]; exact cs.2.2.2.1 i hi, fun i hi => by rw [ex, zu_row (by decide)]; exact cs.2.2.2.2 i hi⟩⟩
        · unfold RT
          rw [ex, zu_row (by decide), zu_row (by decide)]
          exact g1.1
        · unfold TK
          rw [ex, zu_row (by decide)]
          exact g1.2.1
        · rw [ex, zu_row (by decide)]
          have := g1.2.2.1
          rw [ea2] at this
          exact this
      have po2 : PO n (a.1, true, sK st.2.2 a.1.2.2.2) := p1.set (vu.k (by omega))
      refine zcallV (x_nx (d := d) hT hx ts2 po2) ?_
      rintro y _ _ ⟨rfl, rfl, k1, k2, k3⟩
      exact ⟨hT, RQA.good rfl k1 (by rw [k2, ex, zu_row (by decide), g2]; exact h2w) ((f1.trans ⟨fun p hp => by rw [ex, zu_row (by omega)], by rw [ex, zu_row (by decide)]⟩).trans k3)⟩
    · simp only [w0, if_false]
      rw [beq_eq_false_iff_ne.mpr w0]
      exact ⟨fun z => absurd rfl z, fun _ => RQA.fail w0 rfl g1 f1⟩
theorem x_rKeep {tp : Nat → Nat} {n d : Nat} {st : PS} {iv : zI} {rv : zR} {lv : zJ} (hT : zTop rv) (hW : XWd) (hx : TX tp n) (hS : TS iv tp n st) (hP : PO n st) : Ci mX6_readKeep (d + 13) [.ref 1] iv rv lv (RQA iv rv lv tp n (rKeep tp n st)) := by
  have vu : VU st.2.2 := hP.2.2.2.2
  have n10 := vu.1
  refine eX6_readKeep (bX6_readKeep_0 hT (zcallV (x_nx (d := d + 10) hT hx hS hP) ?_))
  rintro u rv1 lv1 ⟨q1, q2, g1, g2, g3⟩
  have q1 := q1.symm
  have q2 := q2.symm
  subst q1 q2
  have p1 := (hP.nx (tp := tp)).1
  unfold rKeep
  have ea2 : (nx tp n st).2 = st.2 := rfl
  generalize nx tp n st = a at *
  have cs : CS u 2 st.2.2 := by have := g1.2.2.2; rw [ea2] at this; exact this
  refine ⟨hT, ?_⟩
  rw [cs.1]
  refine zcall (x_ww (lo := 0) (c := st.2.2.1) (d := d + 11) hT g1 p1 rfl (by omega) (ww_cnt n10)) hT ?_
  by_cases w0 : wW a 0 st.2.2.1 = 0
  · simp only [w0, if_true]
    have wv := wW_0 w0
    refine ⟨fun _ => ?_, fun z => absurd (show (1 : Int32) = 0 from z) (by decide)⟩
    have kb := vu.2.2.2.1 a.1.2.2.2 wv.2.2
    rw [g1.2.1.2.2.2 wv.1, nI_clamp (by omega), cs.2.2.2.1 _ wv.2.2, kpI_f kb]
    refine ⟨vp_in_nI (by omega) (by decide), fun k => ?_, fun k => ?_⟩
    · rw [if_pos k]
      refine zcallV (x_nx (d := d + 10) hT hx g1 p1) ?_
      rintro x rv1 lv1 ⟨q1, q2, k1, k2, k3⟩
      have q1 := q1.symm
      have q2 := q2.symm
      subst q1 q2
      have p2 := (p1.nx (tp := tp)).1
      have eb2 : (nx tp n a).2 = st.2 := ea2
      generalize nx tp n a = b at *
      refine ⟨hT, zcall (hW (i := 3) (d := d) hT hx k1 p2 (by omega)) hT ?_⟩
      show (¬ bI (tw tp b.1 wIn) = 0 → _) ∧ (bI (tw tp b.1 wIn) = 0 → _)
      have f2 := g3.trans k3
      cases t : tw tp b.1 wIn with
      | false =>
        rw [if_neg (by simp)]
        exact ⟨fun z => absurd rfl z, fun _ => zcall (x_stop hT) hT ⟨Or.inl rfl, RQA.fail (f := 1) (by omega) rfl k1 f2⟩⟩
      | true =>
        rw [if_pos rfl]
        refine ⟨fun _ => zcallV (x_nx (d := d + 10) hT hx k1 p2) ?_, fun z => absurd (show (1 : Int32) = 0 from z) (by decide)⟩
        rintro y rv1 lv1 ⟨q1, q2, m1, m2, m3⟩
        have q1 := q1.symm
        have q2 := q2.symm
        subst q1 q2
        have p3 := (p2.nx (tp := tp)).1
        have ec2 : (nx tp n b).2 = st.2 := eb2
        generalize nx tp n b = c at *
        have f3 := f2.trans m3
        refine ⟨hT, zcall (x_ww (lo := 0) (c := 4) (d := d + 11) hT m1 p3 rfl (by omega) (ww_lit (c := 3) (by omega))) hT ?_⟩
        by_cases w1 : wW c 0 4 = 0
        · simp only [w1, if_true]
          have wv2 := wW_0 w1
          refine ⟨fun _ v ev => ?_, fun z => absurd (show (1 : Int32) = 0 from z) (by decide)⟩
          rw [m1.2.1.2.2.2 wv2.1] at ev
          have cs3 : CS y 2 st.2.2 := by have := m1.2.2.2; rw [ec2] at this; exact this
          have ts2 : TS v tp n (c.1, st.2.1, sKp st.2.2 a.1.2.2.2 (c.1.2.2.2 + 1)) := by
            refine ⟨?_, ?_, ?_, ⟨by rw [ev, zu_row (by decide)]; exact cs3.1, by rw [ev, zu_row (by decide)]; exact cs3.2.1, fun i hi => by rw [ev, zu_row (by decide)]; exact cs3.2.2.1 i hi, fun i hi => ?_, fun i hi => by rw [ev, zu_row (by decide)]; exact cs3.2.2.2.2 i hi⟩⟩
            · unfold RT
              rw [ev, zu_row (by decide), zu_row (by decide)]
              exact m1.1
            · unfold TK
              rw [ev, zu_row (by decide)]
              exact m1.2.1
            · rw [ev, zu_row (by decide)]
              have := m1.2.2.1
              rw [ec2] at this
              exact this
            · rw [ev]
              show zu y (2 + 2) a.1.2.2.2 (nI c.1.2.2.2) (2 + 2) i = kpI (up st.2.2.2.2.2.1 a.1.2.2.2 (c.1.2.2.2 + 1) i)
              by_cases z : i = a.1.2.2.2
              · rw [z, zu_eq, up_eq]
                rfl
              · rw [zu_k z, up_ne z]
                exact cs3.2.2.2.1 i hi
          have po2 : PO n (c.1, st.2.1, sKp st.2.2 a.1.2.2.2 (c.1.2.2.2 + 1)) := p3.set (vu.kp (by omega))
          refine zcallV (x_nx (d := d + 10) hT hx ts2 po2) ?_
          rintro t _ _ ⟨rfl, rfl, t1, t2, t3⟩
          exact ⟨hT, RQA.good rfl t1 (by rw [t2, ev, zu_row (by decide), m2, k2]; exact g2) ((f3.trans ⟨fun p hp => by rw [ev, zu_row (by omega)], by rw [ev, zu_row (by decide)]⟩).trans t3)⟩
        · simp only [w1, if_false]
          rw [beq_eq_false_iff_ne.mpr w1]
          exact ⟨fun z => absurd rfl z, fun _ => RQA.fail w1 rfl m1 f3⟩
    · rw [if_neg k]
      exact zcall (x_stop hT) hT ⟨Or.inl rfl, RQA.fail (f := 3) (by omega) rfl g1 g3⟩
  · simp only [w0, if_false]
    rw [beq_eq_false_iff_ne.mpr w0]
    exact ⟨fun z => absurd rfl z, fun _ => RQA.fail w0 rfl g1 g3⟩
theorem x_rApt {tp : Nat → Nat} {n d : Nat} {st : PS} {iv : zI} {rv : zR} {lv : zJ} (hT : zTop rv) (hx : TX tp n) (hS : TS iv tp n st) (hP : PO n st) : Ci mX6_readApart (d + 3) [.ref 1] iv rv lv (RQA iv rv lv tp n (rApt tp n st)) := by
  have vu : VU st.2.2 := hP.2.2.2.2
  have n10 := vu.1
  have cs0 : CS iv 2 st.2.2 := hS.2.2.2
  have l6 := vu.2.2.2.2.2
  refine eX6_readApart (bX6_readApart_0 hT (zcall (s_pairs (d := d + 1) (o := 2) (c := st.2.2.1) (ap := st.2.2.2.2.2.2) hT (by decide) cs0.1 n10 cs0.2.2.2.2 vu.2.2.2.2.1) hT ?_))
  rw [show (6 : Int32) = nI 6 from rfl, nI_ltI (by omega) (by omega)]
  unfold rApt
  refine ⟨fun l => ?_, fun l => ?_⟩
  · rw [if_neg (by omega)]
    refine zcallV (x_nx (d := d) hT hx hS hP) ?_
    rintro u rv1 lv1 ⟨q1, q2, g1, g2, g3⟩
    have q1 := q1.symm
    have q2 := q2.symm
    subst q1 q2
    have p1 := (hP.nx (tp := tp)).1
    have ea2 : (nx tp n st).2 = st.2 := rfl
    generalize nx tp n st = a at *
    have cs : CS u 2 st.2.2 := by have := g1.2.2.2; rw [ea2] at this; exact this
    refine ⟨hT, ?_⟩
    rw [cs.1]
    refine zcall (x_ww (lo := 0) (c := st.2.2.1) (d := d + 1) hT g1 p1 rfl (by omega) (ww_cnt n10)) hT ?_
    by_cases w0 : wW a 0 st.2.2.1 = 0
    · simp only [w0, if_true]
      have wv := wW_0 w0
      have av : u 1 8 = nI a.1.2.2.2 := g1.2.1.2.2.2 wv.1
      refine ⟨fun _ => zcallV (x_nx (d := d) hT hx g1 p1) ?_, fun z => absurd (show (1 : Int32) = 0 from z) (by decide)⟩
      rintro x rv1 lv1 ⟨q1, q2, k1, k2, k3⟩
      have q1 := q1.symm
      have q2 := q2.symm
      subst q1 q2
      have p2 := (p1.nx (tp := tp)).1
      have eb2 : (nx tp n a).2 = st.2 := ea2
      generalize nx tp n a = b at *
      have cs2 : CS x 2 st.2.2 := by have := k1.2.2.2; rw [eb2] at this; exact this
      have f2 := g3.trans k3
      refine ⟨hT, ?_⟩
      rw [cs2.1]
      refine zcall (x_ww (lo := 0) (c := st.2.2.1) (d := d + 1) hT k1 p2 rfl (by omega) (ww_cnt n10)) hT ?_
      by_cases w1 : wW b 0 st.2.2.1 = 0
      · simp only [w1, if_true]
        have wv2 := wW_0 w1
        have bv : x 1 8 = nI b.1.2.2.2 := k1.2.1.2.2.2 wv2.1
        refine ⟨fun _ => ?_, fun z => absurd (show (1 : Int32) = 0 from z) (by decide)⟩
        rw [av, bv, nI_eq (by omega) (by omega)]
        refine ⟨fun z => ?_, fun z => zcall (s_areApart (o := 2) (c := st.2.2.1) (p := apb st.2.2.2.2.2.2) hT (by decide) n10 cs2.2.2.2.2 wv.2.2 wv2.2.2) hT ?_⟩
        · rw [if_pos (Or.inl z)]
          exact zcall (x_stop hT) hT ⟨Or.inl rfl, RQA.fail (f := 3) (by omega) rfl k1 f2⟩
        · cases na : apb st.2.2.2.2.2.2 a.1.2.2.2 b.1.2.2.2 with
          | true =>
            rw [if_pos (Or.inr rfl)]
            exact ⟨fun q => absurd (show (1 : Int32) = 0 from q) (by decide), fun _ => zcall (x_stop hT) hT ⟨Or.inl rfl, RQA.fail (f := 3) (by omega) rfl k1 f2⟩⟩
          | false =>
            rw [if_neg (show ¬ (b.1.2.2.2 = a.1.2.2.2 ∨ false = true) from fun y => y.elim z (fun y => by cases y)), bv]
            have et : togP st.2.2.2.2.2.2 a.1.2.2.2 b.1.2.2.2 = st.2.2.2.2.2.2 ++ [(a.1.2.2.2, b.1.2.2.2)] := by simp [togP, na]
            refine ⟨fun _ => zcallV (s_toggle (o := 2) (c := st.2.2.1) (p := apb st.2.2.2.2.2.2) (q := apb (togP st.2.2.2.2.2.2 a.1.2.2.2 b.1.2.2.2)) hT (by decide) n10 cs2.2.2.2.2 wv.2.2 wv2.2.2 (fun y => z y.symm) (fun s t _ _ => apb_tog vu.2.2.2.2.1 s t)) ?_, fun q => absurd rfl q⟩
            rintro v rv1 lv1 ⟨q1, q2, t0, t1⟩
            have q1 := q1.symm
            have q2 := q2.symm
            subst q1 q2
            rw [et] at t0
            have ts2 : TS v tp n (b.1, st.2.1, sPr st.2.2 a.1.2.2.2 b.1.2.2.2) := by
              refine ⟨?_, ?_, ?_, ⟨by rw [t1 2 (by decide)]; exact cs2.1, by rw [t1 2 (by decide)]; exact cs2.2.1, fun i hi => by rw [t1 (2 + 1) (by decide)]; exact cs2.2.2.1 i hi, fun i hi => by rw [t1 (2 + 2) (by decide)]; exact cs2.2.2.2.1 i hi, fun i hi => t0 i hi⟩⟩
              · unfold RT
                rw [t1 1 (by decide), t1 7 (by decide)]
                exact k1.1
              · unfold TK
                rw [t1 1 (by decide)]
                exact k1.2.1
              · rw [t1 1 (by decide)]
                have := k1.2.2.1
                rw [eb2] at this
                exact this
            have po2 : PO n (b.1, st.2.1, sPr st.2.2 a.1.2.2.2 b.1.2.2.2) := p2.set (vu.pr wv.2.2 wv2.2.2 (fun y => z y.symm) na (by omega))
            refine ⟨hT, zcallV (x_nx (d := d) hT hx ts2 po2) ?_⟩
            rintro t _ _ ⟨rfl, rfl, y1, y2, y3⟩
            exact ⟨hT, RQA.good rfl y1 (by rw [y2, t1 1 (by decide), k2]; exact g2) ((f2.trans ⟨fun p hp => t1 p (by omega), by rw [t1 1 (by decide)]⟩).trans y3)⟩
      · simp only [w1, if_false]
        rw [beq_eq_false_iff_ne.mpr w1]
        exact ⟨fun z => absurd rfl z, fun _ => RQA.fail w1 rfl k1 f2⟩
    · simp only [w0, if_false]
      rw [beq_eq_false_iff_ne.mpr w0]
      exact ⟨fun z => absurd rfl z, fun _ => RQA.fail w0 rfl g1 g3⟩
  · rw [if_pos (by omega)]
    exact zcall (x_stop hT) hT ⟨Or.inl rfl, RQA.fail (f := 4) (by omega) rfl hS FR.refl⟩
