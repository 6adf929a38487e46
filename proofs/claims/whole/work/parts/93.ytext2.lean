theorem y_rHps {tp : Nat → Nat} {n d : Nat} {st : PS} {iv : zI} {rv : zR} {lv : zJ} (hT : zTop rv) (hx : TX tp n) (hS : TM iv lv tp n st) (hP : PO n st) (hh : st.2.1 = false) : Zv mX11_readLine (d + 5) 37 [some (.ref 174)] [] iv rv lv (RMA iv rv lv tp n (rHps tp n st)) := by
  have vu : VU st.2.2 := hP.2.2.2.2
  have n10 := vu.1
  have l6 := vu.2.2.2.2.2
  refine bX11_readLine_37 hT (fun w e => ?_)
  have r0 : ∀ p, p ≠ 174 → w p = iv p := fun p hp => by rw [e, zu_row hp]
  have k0 : ∀ b, b ≠ 20 → w 174 b = iv 174 b := fun b hb => by rw [e, zu_k hb]
  obtain ⟨s1, s2, s3, s4, s5, s6⟩ := hS
  have tm : TM w lv tp n (st.1, true, st.2.2) := by
    refine ⟨?_, by rw [k0 7 (by decide)]; exact s2, ?_, by rw [e, zu_eq]; rfl, ?_, fun i i1 i2 => by rw [r0 177 (by decide)]; exact s6 i i1 i2⟩
    · unfold RTm
      rw [k0 5 (by decide), r0 175 (by decide)]
      exact s1
    · unfold TKm at s3 ⊢
      rw [k0 9 (by decide), k0 10 (by decide), k0 6 (by decide), k0 12 (by decide), k0 11 (by decide)]
      exact s3
    · unfold MS
      rw [r0 177 (by decide)]
      exact s5
  have po : PO n (st.1, true, st.2.2) := hP.set vu
  have f0 : FX iv w := ⟨fun p p1 _ => r0 p p1, fun b _ b2 => k0 b b2⟩
  refine zcallV (y_nx (d := d + 2) hT hx tm po) ?_
  rintro u rv1 l1 ⟨q1, g1, g2, g3⟩
  have q1 := q1.symm
  subst q1
  have p1 := (po.nx (tp := tp)).1
  unfold rHps
  rw [hh, if_neg (by simp)]
  have ea2 : (nx tp n (st.1, true, st.2.2)).2 = (true, st.2.2) := rfl
  generalize nx tp n (st.1, true, st.2.2) = a at *
  have f1 := f0.trans g2
  refine ⟨hT, zcallQ (y_whole (d := d + 1) (lo := 2) (c0 := 5) hT hx g1 p1 rfl (by omega) (ww_lit (c := 4) (by omega))) ?_⟩
  rintro y u2 rv1 l2 ⟨q1, k1, k2, k3, k4⟩
  have q1 := q1.symm
  subst q1
  have f2 := f1.trans k3
  have l2f : ∀ p, p ≠ 174 → l2 p = lv p := fun p hp => by rw [k4 p hp]; exact g3 p hp
  refine ⟨hT, fun u3 e3 => ?_⟩
  have f3 := f2.trans (FX.s177 e3)
  by_cases w0 : wW a 2 5 = 0
  · obtain ⟨ey, t2⟩ := k1 w0
    subst ey
    have wv := wW_0 w0
    rw [if_pos w0]
    have eb2 : (nx tp n a).2 = (true, st.2.2) := ea2
    have ms2 : MS u2 177 0 st.2.2 := by have := t2.2.2.2.2.1; rw [eb2] at this; exact this
    have zz2 : ∀ i, st.2.2.1 ≤ i → i < 10 → u2 177 (12 + i) = nI 0 := by have := t2.2.2.2.2.2; rw [eb2] at this; exact this
    have r3 : ∀ p, p ≠ 177 → u3 p = u2 p := fun p hp => by rw [e3, zu_row hp]
    have q3 : ∀ b, b ≠ 1 → u3 177 b = u2 177 b := fun b hb => by rw [e3, zu_k hb]
    refine RMA.good ⟨?_, by rw [r3 174 (by decide)]; exact t2.2.1, ?_, ?_, ?_, fun i i1 i2 => by rw [q3 _ (by omega)]; exact zz2 i i1 i2⟩ f3 l2f
    · unfold RTm
      rw [r3 174 (by decide), r3 175 (by decide)]
      exact t2.1
    · have := t2.2.2.1
      unfold TKm at this ⊢
      rw [r3 174 (by decide)]
      exact this
    · rw [r3 174 (by decide)]
      have := t2.2.2.2.1
      rw [eb2] at this
      exact this
    · obtain ⟨z1, z2, z3, z4, z5, z6⟩ := ms2
      exact ⟨by rw [q3 _ (by omega)]; exact z1, by rw [Nat.zero_add, e3, zu_eq]; rfl, fun i hi => by rw [q3 _ (by omega)]; exact z3 i hi, fun i hi => by rw [q3 _ (by omega)]; exact z4 i hi, by rw [q3 _ (by omega)]; exact z5, fun p hp => by rw [q3 _ (by omega), q3 _ (by omega)]; exact z6 p hp⟩
  · rw [if_neg w0]
    have fd := k2 w0
    exact RMA.fail ⟨fd.1, fd.2.1, by rw [e3, zu_row (by decide)]; exact fd.2.2.1, by rw [e3, zu_row (by decide)]; exact fd.2.2.2⟩ f3 l2f
theorem y_rLine {tp : Nat → Nat} {n d : Nat} {st : PS} {iv : zI} {rv : zR} {lv : zJ} (hT : zTop rv) (hY : YWd) (hx : TX tp n) (hS : TM iv lv tp n st) (hP : PO n st) (hL : TL tp st.1) : Cv mX11_readLine (d + 13) [.ref 174] iv rv lv (RMA iv rv lv tp n (rLine tp n st)) := by
  refine eX11_readLine (bX11_readLine_0 hT (zcall (y_isWord (d := d + 1) (i := 0) hT hY hx hS hP hL (by omega)) hT ?_))
  show (bI (tw tp st.1 wNum) = 0 → _) ∧ (¬ bI (tw tp st.1 wNum) = 0 → _)
  unfold rLine
  cases t0 : tw tp st.1 wNum with
  | true =>
    rw [if_pos rfl]
    exact ⟨fun z => absurd (show (1 : Int32) = 0 from z) (by decide), fun _ => zcallV (y_rNum (d := d + 8) hT hx hS hP) (fun a b c h => ⟨h.1 ▸ hT, h⟩)⟩
  | false =>
    rw [if_neg (by simp)]
    refine ⟨fun _ => zcall (y_isWord (d := d + 1) (i := 1) hT hY hx hS hP hL (by omega)) hT ?_, fun z => absurd rfl z⟩
    show (bI (tw tp st.1 wHps) = 0 → _) ∧ (¬ bI (tw tp st.1 wHps) = 0 → _)
    cases t1 : tw tp st.1 wHps with
    | true =>
      rw [if_pos rfl]
      refine ⟨fun z => absurd (show (1 : Int32) = 0 from z) (by decide), fun _ => ?_⟩
      rw [hS.2.2.2.1]
      cases hh : st.2.1 with
      | false => exact ⟨fun _ => y_rHps (d := d + 8) hT hx hS hP hh, fun z => absurd rfl z⟩
      | true =>
        refine ⟨fun z => absurd (show (1 : Int32) = 0 from z) (by decide), fun _ => zcallV (y_flaw (f := 3) hT hS ⟨by omega, by omega⟩) ?_⟩
        rintro u rv1 l1 ⟨q1, q2, fd, m3, m4⟩
        have q1 := q1.symm
        have q2 := q2.symm
        subst q1 q2
        have er : rHps tp n st = (3, st) := by unfold rHps; rw [if_pos hh]
        rw [er]
        refine ⟨hT, bX11_readLine_37 hT (fun w e => ?_)⟩
        have fdw : FD5 w 3 st.1.2.1 := ⟨fd.1, fd.2.1, by rw [e, zu_k (by decide)]; exact fd.2.2.1, by rw [e, zu_k (by decide)]; exact fd.2.2.2⟩
        have f1 : FX iv w := m3.trans ⟨fun p p1 _ => by rw [e, zu_row p1], fun b _ b2 => by rw [e, zu_k b2]⟩
        refine zcallE (y_goOnF hT fdw) hT (zcallQ (y_wholeF (d := d + 10) hT fdw) ?_)
        rintro y u3 rv1 l3 ⟨q1, q2, q3⟩
        have q1 := q1.symm
        have q2 := q2.symm
        have q3 := q3.symm
        subst q1 q2 q3
        exact ⟨hT, fun u4 e4 => RMA.fail ⟨fd.1, fd.2.1, by rw [e4, zu_row (by decide)]; exact fdw.2.2.1, by rw [e4, zu_row (by decide)]; exact fdw.2.2.2⟩ (f1.trans (FX.s177 e4)) (fun _ _ => rfl)⟩
    | false =>
      rw [if_neg (by simp)]
      refine ⟨fun _ => zcall (y_isWord (d := d + 1) (i := 2) hT hY hx hS hP hL (by omega)) hT ?_, fun z => absurd rfl z⟩
      show (bI (tw tp st.1 wKp) = 0 → _) ∧ (¬ bI (tw tp st.1 wKp) = 0 → _)
      cases t2 : tw tp st.1 wKp with
      | true =>
        rw [if_pos rfl]
        exact ⟨fun z => absurd (show (1 : Int32) = 0 from z) (by decide), fun _ => zcallV (y_rKeep (d := d) hT hY hx hS hP) (fun a b c h => ⟨h.1 ▸ hT, h⟩)⟩
      | false =>
        rw [if_neg (by simp)]
        refine ⟨fun _ => zcall (y_isWord (d := d + 1) (i := 4) hT hY hx hS hP hL (by omega)) hT ?_, fun z => absurd rfl z⟩
        show (bI (tw tp st.1 wApt) = 0 → _) ∧ (¬ bI (tw tp st.1 wApt) = 0 → _)
        cases t3 : tw tp st.1 wApt with
        | true =>
          rw [if_pos rfl]
          exact ⟨fun z => absurd (show (1 : Int32) = 0 from z) (by decide), fun _ => zcallV (y_rApt (d := d + 8) hT hx hS hP) (fun a b c h => ⟨h.1 ▸ hT, h⟩)⟩
        | false =>
          rw [if_neg (by simp)]
          refine ⟨fun _ => zcallV (y_flaw (f := 1) hT hS ⟨by omega, by omega⟩) ?_, fun z => absurd rfl z⟩
          rintro u rv1 l1 ⟨q1, q2, fd, m3, m4⟩
          have q1 := q1.symm
          have q2 := q2.symm
          subst q1 q2
          exact ⟨hT, RMA.fail fd m3 (fun _ _ => rfl)⟩
theorem rNum_P {tp : Nat → Nat} {n : Nat} : ∀ (f : Nat) (st : PS), PO n st → (rNum tp n f st).1 = 0 → (rNum tp n f st).2.1.1 ≠ 0 → st.1.2.2.1 < (rNum tp n f st).2.1.2.2.1
  | 0, st, h, h0, _ => by cases h0
  | f + 1, st, h, h0, hk => by
    obtain ⟨h1, h2, h3⟩ := h.nx (tp := tp)
    have h4 : (nx tp n st).1.2.1 ≤ (nx tp n st).1.2.2.1 := h1.1
    rw [rNum] at h0 hk ⊢
    by_cases w : wW (nx tp n st) 1 10000 = 0
    · rw [if_pos w] at h0 hk ⊢
      by_cases c : 10 ≤ st.2.2.1
      · rw [if_pos c] at h0
        cases h0
      · rw [if_neg c] at h0 hk ⊢
        have wv := wW_0 w
        have hp : PO n ((nx tp n st).1, st.2.1, addS st.2.2 (nx tp n st).1.2.2.2) := h1.set (h.2.2.2.2.add (by omega) (by omega))
        obtain ⟨g1, g2, g3⟩ := hp.nx (tp := tp)
        have g4 := g1.1
        have g2 : (nx tp n st).1.2.2.1 ≤ (nx tp n ((nx tp n st).1, st.2.1, addS st.2.2 (nx tp n st).1.2.2.2)).1.2.1 := g2
        have g3 : (nx tp n ((nx tp n st).1, st.2.1, addS st.2.2 (nx tp n st).1.2.2.2)).1.1 ≠ 0 → (nx tp n st).1.2.2.1 < (nx tp n ((nx tp n st).1, st.2.1, addS st.2.2 (nx tp n st).1.2.2.2)).1.2.2.1 := g3
        generalize nx tp n ((nx tp n st).1, st.2.1, addS st.2.2 (nx tp n st).1.2.2.2) = q at *
        by_cases k : q.1.1 = 4
        · rw [if_pos k] at h0 hk ⊢
          have := rNum_P (tp := tp) f q g1 h0 hk
          omega
        · rw [if_neg k] at h0 hk ⊢
          have := g3 hk
          show st.1.2.2.1 < q.1.2.2.1
          omega
    · rw [if_neg w] at h0
      exact absurd h0 w
theorem rLine_P {tp : Nat → Nat} {n : Nat} {st : PS} (h : PO n st) (h0 : (rLine tp n st).1 = 0) (hk : (rLine tp n st).2.1.1 ≠ 0) : st.1.2.2.1 < (rLine tp n st).2.1.2.2.1 := by
  unfold rLine at h0 hk ⊢
  by_cases t0 : tw tp st.1 wNum = true
  · rw [if_pos t0] at h0 hk ⊢
    exact rNum_P _ _ h h0 hk
  · rw [if_neg t0] at h0 hk ⊢
    by_cases t1 : tw tp st.1 wHps = true
    · rw [if_pos t1] at h0 hk ⊢
      unfold rHps at h0 hk ⊢
      by_cases q : st.2.1 = true
      · rw [if_pos q] at h0
        cases h0
      · rw [if_neg q] at h0 hk ⊢
        obtain ⟨h1, h2, h3⟩ := PO.nx (tp := tp) (h.set (b := true) h.2.2.2.2)
        have h4 := h1.1
        have h2 : st.1.2.2.1 ≤ (nx tp n (st.1, true, st.2.2)).1.2.1 := h2
        generalize ea : nx tp n (st.1, true, st.2.2) = a at *
        by_cases w : wW a 2 5 = 0
        · rw [if_pos w] at h0 hk ⊢
          have wv := wW_0 w
          obtain ⟨g1, g2, g3⟩ := PO.nx (tp := tp) (h1.set (b := true) (s := sK st.2.2 a.1.2.2.2) (h.2.2.2.2.k (by omega)))
          have := g3 hk
          have this : a.1.2.2.1 < (nx tp n (a.1, true, sK st.2.2 a.1.2.2.2)).1.2.2.1 := this
          show st.1.2.2.1 < (nx tp n (a.1, true, sK st.2.2 a.1.2.2.2)).1.2.2.1
          omega
        · rw [if_neg w] at h0
          exact absurd h0 w
    · rw [if_neg t1] at h0 hk ⊢
      by_cases t2 : tw tp st.1 wKp = true
      · rw [if_pos t2] at h0 hk ⊢
        unfold rKeep at h0 hk ⊢
        obtain ⟨a1, a2, a3⟩ := h.nx (tp := tp)
        have a4 := a1.1
        generalize nx tp n st = a at *
        obtain ⟨b1, b2, b3⟩ := a1.nx (tp := tp)
        have b4 := b1.1
        generalize nx tp n a = b at *
        obtain ⟨c1, c2, c3⟩ := b1.nx (tp := tp)
        have c4 := c1.1
        generalize nx tp n b = c at *
        by_cases w : wW a 0 st.2.2.1 = 0
        · rw [if_pos w] at h0 hk ⊢
          by_cases k : st.2.2.2.2.2.1 a.1.2.2.2 = 0
          · rw [if_pos k] at h0 hk ⊢
            by_cases i : tw tp b.1 wIn = true
            · rw [if_pos i] at h0 hk ⊢
              by_cases w2 : wW c 0 4 = 0
              · rw [if_pos w2] at h0 hk ⊢
                have wv := wW_0 w2
                obtain ⟨g1, g2, g3⟩ := PO.nx (tp := tp) (c1.set (b := st.2.1) (s := sKp st.2.2 a.1.2.2.2 (c.1.2.2.2 + 1)) (h.2.2.2.2.kp (by omega)))
                have := g3 hk
                have this : c.1.2.2.1 < (nx tp n (c.1, st.2.1, sKp st.2.2 a.1.2.2.2 (c.1.2.2.2 + 1))).1.2.2.1 := this
                show st.1.2.2.1 < (nx tp n (c.1, st.2.1, sKp st.2.2 a.1.2.2.2 (c.1.2.2.2 + 1))).1.2.2.1
                omega
              · rw [if_neg w2] at h0
                exact absurd h0 w2
            · rw [if_neg i] at h0
              cases h0
          · rw [if_neg k] at h0
            cases h0
        · rw [if_neg w] at h0
          exact absurd h0 w
      · rw [if_neg t2] at h0 hk ⊢
        by_cases t3 : tw tp st.1 wApt = true
        · rw [if_pos t3] at h0 hk ⊢
          unfold rApt at h0 hk ⊢
          obtain ⟨a1, a2, a3⟩ := h.nx (tp := tp)
          have a4 := a1.1
          generalize nx tp n st = a at *
          obtain ⟨b1, b2, b3⟩ := a1.nx (tp := tp)
          have b4 := b1.1
          generalize nx tp n a = b at *
          by_cases l : 6 ≤ st.2.2.2.2.2.2.length
          · rw [if_pos l] at h0
            cases h0
          · rw [if_neg l] at h0 hk ⊢
            by_cases w : wW a 0 st.2.2.1 = 0
            · rw [if_pos w] at h0 hk ⊢
              by_cases w2 : wW b 0 st.2.2.1 = 0
              · rw [if_pos w2] at h0 hk ⊢
                by_cases x : b.1.2.2.2 = a.1.2.2.2 ∨ apb st.2.2.2.2.2.2 a.1.2.2.2 b.1.2.2.2 = true
                · rw [if_pos x] at h0
                  cases h0
                · rw [if_neg x] at h0 hk ⊢
                  obtain ⟨t1, t2, t3⟩ := tkn_O (tp := tp) (n := n) (a := b.1.2.2.1) (v := 0) b1.2.1 (Nat.zero_le _)
                  have hk : (tkn tp n b.1.2.2.1 0).1 ≠ 0 := hk
                  have := t3.2.2.2 hk
                  show st.1.2.2.1 < (tkn tp n b.1.2.2.1 0).2.2.1
                  omega
              · rw [if_neg w2] at h0
                exact absurd h0 w2
            · rw [if_neg w] at h0
              exact absurd h0 w
        · rw [if_neg t3] at h0
          cases h0
/-- the answer of the reference, but for its word -/
def YT (S' : St) (r : Int32) (iv : zI) (rv : zR) (lv : zJ) : Int32 → zI → zR → zJ → Prop := fun y a b c => y = r ∧ b = rv ∧ (∀ p, p ≠ 174 → c p = lv p) ∧ MB S' a ∧ FM iv a
theorem y_text {d : Nat} {S : St} {x : Int32} {iv : zI} {rv : zR} {lv : zJ} (hT : zTop rv) (hY : YWd) (h : MB S iv) (hv : VT S) : Ci mX11_text (d + 14) [.ref 174, .int x] iv rv lv (YT (F_text S x).2 (F_text S x).1 iv rv lv) := by
  refine eX11_text x (bX11_text_0 x hT ?_)
  intro w0 e0
  have h0 : MB S w0 := e0 ▸ h.th
  have f0 : FM iv w0 := e0 ▸ FM.th
  have t300 := hv.1.1
  obtain ⟨m1, m2, m3, m4, m5, m6⟩ := id h0
  refine zcall (y_in hT) hT ?_
  rw [m1.1]
  have no : ∃ Q1 : Int32 → zI → zR → zJ → Prop, Ci mX11_refused (d + 13) [.ref 174, .int 2] w0 rv lv Q1 ∧ ∀ (v : Int32) (a : zI) (b : zR) (c : zJ), Q1 v a b c → zTop b ∧ YT (rf S 2).2 (rf S 2).1 iv rv lv v a b c := zcall (y_refused hT) hT (by
    have := YR.tr' (t := 2) (y := -1) (r := -1) (rv := rv) (lv := lv) rfl h0 f0
    exact ⟨this.1, this.2.1, fun _ _ => rfl, this.2.2.2.1, this.2.2.2.2⟩)
  by_cases hx : x < 0 ∨ nI S.1.1 < x
  · have eF : F_text S x = rf S 2 := by unfold F_text; rw [if_pos hx]
    rw [eF, in_f hx]
    exact ⟨fun z => absurd rfl z, fun _ => no⟩
  · rw [in_t (fun q => hx (Or.inl q)) (fun q => hx (Or.inr q))]
    rcases pk_ix x (show S.1.1 + 1 < 2 ^ 31 by omega) with q | q | ⟨n, hn, rfl⟩
    · exact absurd (Or.inl q) hx
    · exact absurd (Or.inr (Int32.lt_of_lt_of_le (show nI S.1.1 < nI (S.1.1 + 1) from nI_lt (by omega) (by omega)) q)) hx
    · have eF : F_text S (nI n) = if (rTxt S.1.2 n).1 = 0 then (nI (rTxt S.1.2 n).2.2.2.1, ((0, S.1.2), some (rTxt S.1.2 n).2.2.2, [], (fun _ => none), (0, -1, 0), S.2.2.2.2.2.1, S.2.2.2.2.2.2 + 1)) else (-1, ((0, S.1.2), S.2.1, S.2.2.1, S.2.2.2.1, ((rTxt S.1.2 n).1, nI (rTxt S.1.2 n).2.1.2.1, 4), S.2.2.2.2.2)) := by
        unfold F_text
        rw [if_neg hx, nI_clamp (by omega)]
      rw [eF]
      have tx : TX S.1.2 n := ⟨by omega, hv.1.2⟩
      refine ⟨fun _ w1 e1 w2 e2 w3 e3 w4 e4 w5 e5 => ?_, fun z => absurd (show (1 : Int32) = 0 from z) (by decide)⟩
      have r5 : ∀ p, p ≠ 174 → w5 p = w0 p := fun p hp => by rw [e5, zu_row hp, e4, zu_row hp, e3, zu_row hp, e2, zu_row hp, e1, zu_row hp]
      have k5 : ∀ b, b ≠ 4 → b ≠ 5 → b ≠ 6 → b ≠ 7 → b ≠ 20 → w5 174 b = w0 174 b := fun b b1 b2 b3 b4 b5 => by rw [e5, zu_k b5, e4, zu_k b4, e3, zu_k b3, e2, zu_k b1, e1, zu_k b2]
      have s20 : w5 174 20 = nI 0 := by rw [e5, zu_eq]; rfl
      have s7 : w5 174 7 = nI 0 := by rw [e5, zu_k (by decide), e4, zu_eq]; rfl
      have s6 : w5 174 6 = nI 0 := by rw [e5, zu_k (by decide), e4, zu_k (by decide), e3, zu_eq]; rfl
      have s4 : w5 174 4 = nI 0 := by rw [e5, zu_k (by decide), e4, zu_k (by decide), e3, zu_k (by decide), e2, zu_eq]; rfl
      have s5 : w5 174 5 = nI n := by rw [e5, zu_k (by decide), e4, zu_k (by decide), e3, zu_k (by decide), e2, zu_k (by decide), e1, zu_eq]
      have rvs := rTxt_VS (tp := S.1.2) (n := n)
      have rO := rTxt_O S.1.2 n
      -- frame of the whole reading
      let FW2 : zI → Prop := fun a => (∀ p, p ≠ 174 → p ≠ 177 → a p = w0 p) ∧ (∀ b, (b < 4 ∨ 12 < b) → b ≠ 20 → a 174 b = w0 174 b) ∧ a 174 4 = nI 0
      have fw_fx : ∀ u v : zI, FW2 u → FX u v → FW2 v := fun u v hu hf => ⟨fun p p1 p2 => by rw [hf.1 p p1 p2]; exact hu.1 p p1 p2, fun b b1 b2 => by rw [hf.2 b (by omega) b2]; exact hu.2.1 b b1 b2, by rw [hf.2 4 (by omega) (by decide)]; exact hu.2.2⟩
      -- the end: what was read becomes what is
      have last : ∀ (r : PR) (x2 : Int32) (u : zI) (l : zJ), r = rTxt S.1.2 n → FW2 u → (∀ p, p ≠ 174 → l p = lv p) → (r.1 ≠ 0 → u 174 7 = nI r.1 ∧ u 174 8 = nI r.2.1.2.1) → (r.1 = 0 → u 174 7 = nI 0 ∧ MS u 177 0 r.2.2.2) → Zi mX11_text (d + 14) 145 [some (.ref 174), some (.int (nI n)), some (.int x2)] [] u rv l (YT (if r.1 = 0 then (nI r.2.2.2.1, ((0, S.1.2), some r.2.2.2, [], (fun _ => none), (0, -1, 0), S.2.2.2.2.2.1, S.2.2.2.2.2.2 + 1)) else (-1, ((0, S.1.2), S.2.1, S.2.2.1, S.2.2.2.1, (r.1, nI r.2.1.2.1, 4), S.2.2.2.2.2)) : Int32 × St).2 (if r.1 = 0 then (nI r.2.2.2.1, ((0, S.1.2), some r.2.2.2, [], (fun _ => none), (0, -1, 0), S.2.2.2.2.2.1, S.2.2.2.2.2.2 + 1)) else (-1, ((0, S.1.2), S.2.1, S.2.2.1, S.2.2.2.1, (r.1, nI r.2.1.2.1, 4), S.2.2.2.2.2)) : Int32 × St).1 iv rv lv) := by
        intro r x2 u l er fu lf hbad hgood
        rw [← er] at rO rvs
        refine bX11_text_145 _ _ hT ?_
        by_cases q : r.1 = 0
        · obtain ⟨u7, ums⟩ := hgood q
          have vs := rvs q
          have vn := vs.1
          have v6 := vs.2.2.2.2.2
          simp only [q, if_true]
          rw [u7]
          refine ⟨fun _ => ?_, fun z => absurd (by decide) z⟩
          have key := zfor (c := 35) (P := fun k => ∀ v : zI, (∀ j, j < k → v 176 j = u 177 j) → (∀ p, p ≠ 176 → v p = u p) → Zi mX11_text (d + 14) 169 [some (.ref 174), some (.int (nI n)), some (.int (nI k))] [] v rv l (YT ((0, S.1.2), some r.2.2.2, [], (fun _ => none), (0, -1, 0), S.2.2.2.2.2.1, S.2.2.2.2.2.2 + 1) (nI r.2.2.2.1) iv rv lv)) ?_ ?_
          · exact key 0 (by omega) u (fun j hj => absurd hj (Nat.not_lt_zero _)) (fun _ _ => rfl)
          · intro v v1 v2
            have msv : MS v 176 0 r.2.2.2 := by
              obtain ⟨z1, z2, z3, z4, z5, z6⟩ := ums
              exact ⟨by rw [v1 _ (by omega)]; exact z1, by rw [v1 _ (by omega)]; exact z2, fun i hi => by rw [v1 _ (by omega)]; exact z3 i hi, fun i hi => by rw [v1 _ (by omega)]; exact z4 i hi, by rw [v1 _ (by omega)]; exact z5, fun p hp => by rw [v1 _ (by omega), v1 _ (by omega)]; exact z6 p hp⟩
            refine bX11_text_169 _ _ hT ⟨fun _ a1 f1 a2 f2 a3 f3 a4 f4 => ?_, fun z => absurd (by decide) z⟩
            have ra : ∀ p, p ≠ 174 → p ≠ 180 → a4 p = v p := fun p p1 p2 => by rw [f4, zu_row p2, f3, zu_row p2, f2, zu_row p1, f1, zu_row p1]
            have ka : ∀ b, b ≠ 19 → b ≠ 21 → a4 174 b = v 174 b := fun b b1 b2 => by rw [f4, zu_row (by decide), f3, zu_row (by decide), f2, zu_k b1, f1, zu_k b2]
            have msa : MS a4 176 0 r.2.2.2 := by
              unfold MS
              rw [ra 176 (by decide) (by decide)]
              exact msv
            have ca : a4 176 0 = nI r.2.2.2.1 := msa.1
            rw [ca]
            have fm4 : FM iv a4 := fun p hp => by rw [ra p (by omega) (by omega), v2 p (by omega), fu.1 p (by omega) (by omega)]; exact f0 p hp
            have kv : ∀ b, (b < 4 ∨ 12 < b) → b ≠ 20 → b ≠ 19 → b ≠ 21 → a4 174 b = w0 174 b := fun b b1 b2 b3 b4 => by rw [ka b b3 b4, v2 174 (by decide)]; exact fu.2.1 b b1 b2
            have rv' : ∀ p, p ≠ 174 → p ≠ 176 → p ≠ 177 → p ≠ 180 → a4 p = w0 p := fun p p1 p2 p3 p4 => by rw [ra p p1 p4, v2 p p2]; exact fu.1 p p1 p3
            have mb : MB ((0, S.1.2), some r.2.2.2, [], (fun _ => none), (0, w0 174 2, S.2.2.2.2.1.2.2), S.2.2.2.2.2.1, S.2.2.2.2.2.2 + 1) a4 := by
              refine MB.mk' ⟨?_, fun j hj => absurd hj (Nat.not_lt_zero _)⟩ ⟨?_, fun s es => ?_⟩ ⟨?_, fun j hj => absurd hj (Nat.not_lt_zero _)⟩ (fun i hi => ⟨?_, fun s es => by cases es⟩) ⟨?_, ?_, ?_⟩ ⟨?_, fun j hj => ?_⟩
              · rw [ka 4 (by decide) (by decide), v2 174 (by decide)]; exact fu.2.2
              · rw [f4, zu_row (by decide), f3, zu_row (by decide), f2, zu_eq]; rfl
              · cases es
                exact msa
              · rw [f4, zu_row (by decide), f3, zu_row (by decide), f2, zu_k (by decide), f1, zu_eq]; rfl
              · have : i = 0 ∨ i = 1 := by omega
                rcases this with rfl | rfl
                · rw [f4, zu_k (by decide), f3, zu_eq]; rfl
                · rw [f4, zu_eq]; rfl
              · rw [ka 7 (by decide) (by decide), v2 174 (by decide)]; exact u7
              · exact kv 2 (by omega) (by decide) (by decide) (by decide)
              · rw [kv 1 (by omega) (by decide) (by decide) (by decide)]; exact m5.2.2
              · rw [kv 51 (by omega) (by decide) (by decide) (by decide)]; exact m6.1
              · rw [rv' 198 (by decide) (by decide) (by decide) (by decide)]; exact m6.2 j hj
            refine zcall (y_good hT) hT ?_
            have := YR.tr' (t := 0) (y := nI r.2.2.2.1) (r := nI r.2.2.2.1) (rv := rv) (lv := lv) rfl mb fm4
            exact ⟨rfl, rfl, lf, this.2.2.2.1, this.2.2.2.2⟩
          · intro k hk ih v v1 v2
            refine bX11_text_169 _ _ hT ⟨fun z => absurd z (show ¬ nI 35 ≤ nI k from nI_ge hk (by omega)), fun _ => ?_⟩
            rw [nI_clamp (show k < 2 ^ 31 by omega), nI_1, v2 177 (by decide)]
            refine ⟨vp_in_nI hk (by decide), fun v3 e3 => ih v3 (fun j hj => ?_) (fun p hp => by rw [e3, zu_row hp]; exact v2 p hp)⟩
            rw [e3]
            by_cases z : j = k
            · rw [z, zu_eq]
            · rw [zu_k z]; exact v1 j (by omega)
        · obtain ⟨u7, u8⟩ := hbad q
          have f5 := rO.2.1
          simp only [q, if_false]
          rw [u7, z_0, nI_leI (by omega) (by omega)]
          refine ⟨fun z => absurd z (by omega), fun _ v1 g1 v2 g2 => ?_⟩
          rw [g1, zu_k (by decide), u8] at g2
          have rz : ∀ p, p ≠ 174 → p ≠ 177 → v2 p = w0 p := fun p p1 p2 => by rw [g2, zu_row p1, zu_row p1]; exact fu.1 p p1 p2
          have kz : ∀ b, (b < 4 ∨ 12 < b) → b ≠ 20 → b ≠ 1 → b ≠ 2 → v2 174 b = w0 174 b := fun b b1 b2 b3 b4 => by rw [g2, zu_k b4, zu_k b3]; exact fu.2.1 b b1 b2
          refine ⟨rfl, rfl, lf, ?_, fun p hp => by rw [rz p (by omega) (by omega)]; exact f0 p hp⟩
          refine MB.mk' ⟨?_, fun j hj => absurd hj (Nat.not_lt_zero _)⟩ ?_ ?_ ?_ ⟨?_, ?_, ?_⟩ ⟨?_, fun j hj => ?_⟩
          · rw [g2, zu_k (by decide), zu_k (by decide)]; exact fu.2.2
          · rw [kz 19 (by omega) (by decide) (by decide) (by decide)]
            unfold MS
            rw [rz 176 (by decide) (by decide)]
            exact m2
          · unfold HM MS
            rw [kz 21 (by omega) (by decide) (by decide) (by decide), rz 178 (by decide) (by decide)]
            exact m3
          · unfold MS
            rw [rz 180 (by decide) (by decide), rz 179 (by decide) (by decide)]
            exact m4
          · rw [g2, zu_k (by decide), zu_k (by decide)]; exact u7
          · rw [g2, zu_eq]
          · rw [g2, zu_k (by decide), zu_eq]; rfl
          · rw [kz 51 (by omega) (by decide) (by decide) (by decide)]; exact m6.1
          · rw [rz 198 (by decide) (by decide)]; exact m6.2 j hj
      -- after a line
      have lines : ∀ (f : Nat) (st : PS) (u : zI) (l : zJ) (r : PR), n - st.1.2.2.1 < f → r = rLine S.1.2 n st → PO n st → rLines S.1.2 n f st = rTxt S.1.2 n → (r.1 ≠ 0 → u 174 7 = nI r.1 ∧ u 174 8 = nI r.2.1.2.1) → (r.1 = 0 → TM u l S.1.2 n r.2) → FW2 u → (∀ p, p ≠ 174 → l p = lv p) → Zi mX11_text (d + 14) 84 [some (.ref 174), some (.int (nI n)), some (.int 35)] [] u rv l (YT (if (rTxt S.1.2 n).1 = 0 then (nI (rTxt S.1.2 n).2.2.2.1, ((0, S.1.2), some (rTxt S.1.2 n).2.2.2, [], (fun _ => none), (0, -1, 0), S.2.2.2.2.2.1, S.2.2.2.2.2.2 + 1)) else (-1, ((0, S.1.2), S.2.1, S.2.2.1, S.2.2.2.1, ((rTxt S.1.2 n).1, nI (rTxt S.1.2 n).2.1.2.1, 4), S.2.2.2.2.2)) : Int32 × St).2 (if (rTxt S.1.2 n).1 = 0 then (nI (rTxt S.1.2 n).2.2.2.1, ((0, S.1.2), some (rTxt S.1.2 n).2.2.2, [], (fun _ => none), (0, -1, 0), S.2.2.2.2.2.1, S.2.2.2.2.2.2 + 1)) else (-1, ((0, S.1.2), S.2.1, S.2.2.1, S.2.2.2.1, ((rTxt S.1.2 n).1, nI (rTxt S.1.2 n).2.1.2.1, 4), S.2.2.2.2.2)) : Int32 × St).1 iv rv lv) := by
        intro f
        induction f with
        | zero => intro st u l r hf; omega
        | succ f ih =>
          intro st u l r hf er hP hE hbad hgood fu lf
          obtain ⟨ro1, ro2, ro3⟩ := rLine_O (tp := S.1.2) hP
          rw [rLines] at hE
          rw [← er] at hE ro1 ro2 ro3
          refine bX11_text_84 _ _ hT ?_
          by_cases q : r.1 = 0
          · have tm := hgood q
            rw [if_pos q] at hE
            have k5 := ro1.2.2.1
            have c10 := ro1.2.2.2.2.1
            refine zcall (y_isSign (d := d + 13) (x := 59) hT tm ro1 (Or.inr rfl)) hT ?_
            rw [if_neg (by decide)]
            by_cases k3 : r.2.1.1 = 3
            · rw [if_neg (by omega), if_pos k3] at hE
              rw [beq_iff_eq.mpr k3]
              refine ⟨fun z => absurd (show (1 : Int32) = 0 from z) (by decide), fun _ => zcallV (y_nx (d := d + 11) hT tx tm ro1) ?_⟩
              rintro u2 rv1 l2 ⟨q1, g1, g2, g3⟩
              have q1 := q1.symm
              subst q1
              obtain ⟨p1, p2, p3⟩ := ro1.nx (tp := S.1.2)
              have tl : TL S.1.2 (nx S.1.2 n r.2).1 := tkn_L
              refine ⟨hT, zcallV (y_rLine (d := d) hT hY tx g1 p1 tl) ?_⟩
              rintro u3 rv1 l3 ⟨q1, h1, h2, h3, h4⟩
              have q1 := q1.symm
              subst q1
              have lf3 : ∀ p, p ≠ 174 → l3 p = lv p := fun p hp => by rw [h4 p hp, g3 p hp]; exact lf p hp
              have fu3 := fw_fx u2 u3 (fw_fx u u2 fu g2) h3
              have adv : n - (nx S.1.2 n r.2).1.2.2.1 < f := by
                have rp : st.1.2.2.1 < r.2.1.2.2.1 := by
                  have := rLine_P (tp := S.1.2) hP (by rw [← er]; exact q) (by rw [← er]; omega)
                  rw [← er] at this
                  exact this
                have h1 := p1.1
                have h2 := p1.2.1
                have h3' := ro1.2.1
                omega
              exact ⟨hT, ih (nx S.1.2 n r.2) u3 l3 _ adv rfl p1 hE h1 h2 fu3 lf3⟩
            · rw [beq_eq_false_iff_ne.mpr k3]
              refine ⟨fun _ => ?_, fun z => absurd rfl z⟩
              rw [tm.2.1]
              refine ⟨fun z => absurd rfl z, fun _ => ?_⟩
              rw [tm.2.2.1.1, kmap_1 k5]
              refine ⟨fun k => ⟨fun z => absurd rfl z, fun _ => ?_⟩, fun k => ?_⟩
              · rw [if_pos k] at hE
                rw [show u 177 0 = nI r.2.2.2.1 from tm.2.2.2.2.1.1, z_0, nI_eq (by omega) (by omega)]
                refine ⟨fun c => ?_, fun c => ?_⟩
                · rw [if_pos (by omega)] at hE
                  rw [← hE]
                  exact last r _ u l hE fu lf hbad (fun _ => ⟨tm.2.1, tm.2.2.2.2.1⟩)
                · rw [if_neg (by omega)] at hE
                  refine zcallV (y_flaw (f := 5) hT tm ⟨by omega, by omega⟩) ?_
                  rintro u2 rv1 l2 ⟨q1, q2, fd, y3, y4⟩
                  have q1 := q1.symm
                  have q2 := q2.symm
                  subst q1 q2
                  rw [← hE]
                  exact ⟨hT, last (5, r.2) _ u2 _ hE (fw_fx u u2 fu y3) lf (fun _ => ⟨fd.2.2.1, fd.2.2.2⟩) (fun z => by cases z)⟩
              · rw [if_neg k, if_neg k3] at hE
                refine zcallV (y_flaw (f := 1) hT tm ⟨by omega, by omega⟩) ?_
                rintro u2 rv1 l2 ⟨q1, q2, fd, y3, y4⟩
                have q1 := q1.symm
                have q2 := q2.symm
                subst q1 q2
                rw [fd.2.2.1]
                refine ⟨hT, fun _ => ?_, fun z => absurd z (by decide)⟩
                rw [← hE]
                exact last (1, r.2) _ u2 _ hE (fw_fx u u2 fu y3) lf (fun _ => ⟨fd.2.2.1, fd.2.2.2⟩) (fun z => by cases z)
          · obtain ⟨u7, u8⟩ := hbad q
            rw [if_neg q] at hE
            have fd : FD5 u r.1 r.2.1.2.1 := ⟨by omega, ro3, u7, u8⟩
            refine zcall (y_isSignF hT fd) hT ⟨fun _ => ⟨fun _ => ⟨fun _ => ?_, fun z => ?_⟩, fun z => ?_⟩, fun z => absurd rfl z⟩
            · rw [← hE]
              exact last r _ u l hE fu lf hbad (fun z => absurd z q)
            · rw [u7, z_0, nI_eq (by omega) (by omega)] at z
              exact absurd z q
            · rw [u7, z_0, nI_eq (by omega) (by omega)] at z
              exact absurd z q
      have fw5 : FW2 w5 := ⟨fun p p1 _ => r5 p p1, fun b b1 b2 => k5 b (by omega) (by omega) (by omega) (by omega) b2, s4⟩
      have key := zfor (c := 35) (P := fun k => ∀ v : zI, (∀ j, j < k → v 177 j = nI 0) → (∀ p, p ≠ 177 → v p = w5 p) → Zi mX11_text (d + 14) 50 [some (.ref 174), some (.int (nI n)), some (.int (nI k))] [] v rv lv (YT (if (rTxt S.1.2 n).1 = 0 then (nI (rTxt S.1.2 n).2.2.2.1, ((0, S.1.2), some (rTxt S.1.2 n).2.2.2, [], (fun _ => none), (0, -1, 0), S.2.2.2.2.2.1, S.2.2.2.2.2.2 + 1)) else (-1, ((0, S.1.2), S.2.1, S.2.2.1, S.2.2.2.1, ((rTxt S.1.2 n).1, nI (rTxt S.1.2 n).2.1.2.1, 4), S.2.2.2.2.2)) : Int32 × St).2 (if (rTxt S.1.2 n).1 = 0 then (nI (rTxt S.1.2 n).2.2.2.1, ((0, S.1.2), some (rTxt S.1.2 n).2.2.2, [], (fun _ => none), (0, -1, 0), S.2.2.2.2.2.1, S.2.2.2.2.2.2 + 1)) else (-1, ((0, S.1.2), S.2.1, S.2.2.1, S.2.2.2.1, ((rTxt S.1.2 n).1, nI (rTxt S.1.2 n).2.1.2.1, 4), S.2.2.2.2.2)) : Int32 × St).1 iv rv lv)) ?_ ?_
      · exact key 0 (by omega) w5 (fun j hj => absurd hj (Nat.not_lt_zero _)) (fun _ _ => rfl)
      · intro v v1 v2
        refine bX11_text_50 _ _ hT ⟨fun _ a ea => ?_, fun z => absurd (by decide) z⟩
        have ra : ∀ p, p ≠ 177 → a p = w5 p := fun p hp => by rw [ea, zu_row hp]; exact v2 p hp
        have qa : ∀ b, b ≠ 1 → b < 35 → a 177 b = nI 0 := fun b b1 b2 => by rw [ea, zu_k b1]; exact v1 b b2
        have rt : RTm a S.1.2 n := ⟨by rw [ra 174 (by decide)]; exact s5, fun j hj => by rw [ra 175 (by decide), r5 175 (by decide)]; exact m1.2 j (by omega)⟩
        refine zcallV (y_goOn (d := d + 11) (a0 := 0) hT tx rt (by rw [ra 174 (by decide)]; exact s6) (by rw [ra 174 (by decide)]; exact s7) (Nat.zero_le _)) ?_
        rintro u rv1 l1 ⟨q1, t1, t2, t3⟩
        have q1 := q1.symm
        subst q1
        have fw : FW2 u := fw_fx a u ⟨fun p p1 p2 => by rw [ra p p2]; exact fw5.1 p p1 p2, fun b b1 b2 => by rw [ra 174 (by decide)]; exact fw5.2.1 b b1 b2, by rw [ra 174 (by decide)]; exact fw5.2.2⟩ t2.fx
        have tm : TM u l1 S.1.2 n (nx S.1.2 n ((0, 0, 0, 0), false, s00)) := by
          refine ⟨t2.rt rt, ?_, t1, ?_, ⟨?_, ?_, fun i hi => absurd hi (Nat.not_lt_zero _), fun i hi => absurd hi (Nat.not_lt_zero _), ?_, fun p hp => absurd hp (Nat.not_lt_zero _)⟩, fun i _ i2 => ?_⟩
          · rw [t2.2 7 (by decide) (by decide) (by decide) (by decide) (by decide), ra 174 (by decide)]; exact s7
          · rw [t2.2 20 (by decide) (by decide) (by decide) (by decide) (by decide), ra 174 (by decide)]; exact s20
          · rw [t2.1 177 (by decide)]; exact qa 0 (by decide) (by decide)
          · rw [t2.1 177 (by decide), Nat.zero_add, ea, zu_eq]; rfl
          · rw [t2.1 177 (by decide)]; exact qa 22 (by decide) (by decide)
          · rw [t2.1 177 (by decide)]; exact qa (12 + i) (by omega) (by omega)
        have po := ((PO_0 n).nx (tp := S.1.2)).1
        have tl : TL S.1.2 (nx S.1.2 n ((0, 0, 0, 0), false, s00)).1 := tkn_L
        refine ⟨hT, zcallV (y_rLine (d := d) hT hY tx tm po tl) ?_⟩
        rintro u3 rv1 l3 ⟨q1, h1, h2, h3, h4⟩
        have q1 := q1.symm
        subst q1
        exact ⟨hT, lines (n + 1) _ u3 l3 _ (by omega) rfl po rfl h1 h2 (fw_fx u u3 fw h3) (fun p hp => by rw [h4 p hp]; exact t3 p hp)⟩
      · intro k hk ih v v1 v2
        refine bX11_text_50 _ _ hT ⟨fun z => absurd z (show ¬ nI 35 ≤ nI k from nI_ge hk (by omega)), fun _ => ?_⟩
        rw [nI_clamp (show k < 2 ^ 31 by omega), nI_1]
        refine ⟨vp_in_nI hk (by decide), fun v3 e3 => ih v3 (fun j hj => ?_) (fun p hp => by rw [e3, zu_row hp]; exact v2 p hp)⟩
        rw [e3]
        by_cases z : j = k
        · rw [z, zu_eq]; rfl
        · rw [zu_k z]; exact v1 j (by omega)
