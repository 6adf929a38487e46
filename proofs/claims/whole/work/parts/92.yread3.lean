theorem y_rKeep {tp : Nat → Nat} {n d : Nat} {st : PS} {iv : zI} {rv : zR} {lv : zJ} (hT : zTop rv) (hY : YWd) (hx : TX tp n) (hS : TM iv lv tp n st) (hP : PO n st) : Cv mX11_readKeep (d + 12) [.ref 174] iv rv lv (RMA iv rv lv tp n (rKeep tp n st)) := by
  have hn := hx.1
  have vu : VU st.2.2 := hP.2.2.2.2
  have n10 := vu.1
  refine eX11_readKeep (bX11_readKeep_0 hT (zcallV (y_nx (d := d + 9) hT hx hS hP) ?_))
  rintro u rv1 l1 ⟨q1, g1, g2, g3⟩
  have q1 := q1.symm
  subst q1
  have p1 := (hP.nx (tp := tp)).1
  unfold rKeep
  have ea2 : (nx tp n st).2 = st.2 := rfl
  generalize nx tp n st = a at *
  have k5 := p1.2.2.1
  have v9 := p1.2.2.2.1
  have ms : MS u 177 0 st.2.2 := by have := g1.2.2.2.2.1; rw [ea2] at this; exact this
  have cn : u 177 0 = nI st.2.2.1 := ms.1
  -- a fault goes through
  have eightyF : ∀ (f s : Nat) (st' : PS) (v : zI) (l : zJ) (x1 : Int32), FD5 v f s → st'.1.2.1 = s → FX iv v → (∀ p, p ≠ 174 → l p = lv p) → Zv mX11_readKeep (d + 12) 80 [some (.ref 174), some (.int x1), none] [] v rv l (RMA iv rv lv tp n (f, st')) := by
    intro f s st' v l x1 fd es fv lf
    subst es
    refine bX11_readKeep_80 _ hT (zcallE (y_goOnF hT fd) hT (zcallQ (y_wholeF (d := d + 9) hT fd) ?_))
    rintro y u3 rv1 l3 ⟨q1, q2, q3⟩
    have q1 := q1.symm
    have q2 := q2.symm
    have q3 := q3.symm
    subst q1 q2 q3
    rw [fd.2.2.1, z_0, nI_eq (by have := fd.2.1; omega) (by omega)]
    have := fd.1
    exact ⟨hT, fun _ => RMA.fail fd fv lf, fun z => absurd z (by omega)⟩
  have fiftyF : ∀ (f s : Nat) (st' : PS) (v : zI) (l : zJ), FD5 v f s → st'.1.2.1 = s → FX iv v → (∀ p, p ≠ 174 → l p = lv p) → Zv mX11_readKeep (d + 12) 52 [some (.ref 174), none, none] [] v rv l (RMA iv rv lv tp n (f, st')) := by
    intro f s st' v l fd es fv lf
    refine bX11_readKeep_52 hT (zcallQ (y_wholeF (d := d + 9) hT fd) ?_)
    rintro y u3 rv1 l3 ⟨q1, q2, q3⟩
    have q1 := q1.symm
    have q2 := q2.symm
    have q3 := q3.symm
    subst q1 q2 q3
    exact ⟨hT, zcall (y_isWordF (d := d + 10) hT fd) hT ⟨fun z => absurd rfl z, fun _ => zcallE (y_flawF hT fd) hT (eightyF f s st' _ _ _ fd es fv lf)⟩⟩
  have fifty : ¬ (wW a 0 st.2.2.1 = 0 ∧ st.2.2.2.2.2.1 a.1.2.2.2 ≠ 0) → Zv mX11_readKeep (d + 12) 52 [some (.ref 174), none, none] [] u rv l1 (RMA iv rv lv tp n (if wW a 0 st.2.2.1 = 0 then if st.2.2.2.2.2.1 a.1.2.2.2 = 0 then if tw tp (nx tp n a).1 wIn then if wW (nx tp n (nx tp n a)) 0 4 = 0 then (0, nx tp n ((nx tp n (nx tp n a)).1, st.2.1, sKp st.2.2 a.1.2.2.2 ((nx tp n (nx tp n a)).1.2.2.2 + 1))) else (wW (nx tp n (nx tp n a)) 0 4, nx tp n (nx tp n a)) else (1, nx tp n a) else (3, a) else (wW a 0 st.2.2.1, a))) := by
    intro nb
    refine bX11_readKeep_52 hT ?_
    rw [cn]
    refine zcallQ (y_whole (d := d + 8) (lo := 0) (c0 := st.2.2.1) hT hx g1 p1 rfl (by omega) (ww_cnt n10)) ?_
    rintro y u2 rv1 l2 ⟨q1, k1, k2, k3, k4⟩
    have q1 := q1.symm
    subst q1
    have f2 := g2.trans k3
    have l2f : ∀ p, p ≠ 174 → l2 p = lv p := fun p hp => by rw [k4 p hp]; exact g3 p hp
    refine ⟨hT, ?_⟩
    by_cases w0 : wW a 0 st.2.2.1 = 0
    · obtain ⟨ey, tm⟩ := k1 w0
      subst ey
      have wv := wW_0 w0
      have kz : st.2.2.2.2.2.1 a.1.2.2.2 = 0 := Classical.byContradiction (fun z => nb ⟨w0, z⟩)
      rw [if_pos w0, if_pos kz]
      have p2 := (p1.nx (tp := tp)).1
      have tl : TL tp (nx tp n a).1 := tkn_L
      have eb2 : (nx tp n a).2 = st.2 := ea2
      generalize nx tp n a = b at *
      refine zcall (y_isWord (d := d) (i := 3) hT hY hx tm p2 tl (by omega)) hT ?_
      show (¬ bI (tw tp b.1 wIn) = 0 → _) ∧ (bI (tw tp b.1 wIn) = 0 → _)
      cases t : tw tp b.1 wIn with
      | false =>
        rw [if_neg (by simp)]
        refine ⟨fun z => absurd rfl z, fun _ => zcallV (y_flaw (f := 1) hT tm ⟨by omega, by omega⟩) ?_⟩
        rintro u3 rv1 l3 ⟨q1, q2, fd, m3, m4⟩
        have q1 := q1.symm
        have q2 := q2.symm
        subst q1 q2
        exact ⟨hT, eightyF 1 _ b u3 _ _ fd rfl (f2.trans m3) l2f⟩
      | true =>
        rw [if_pos rfl]
        refine ⟨fun _ => bX11_readKeep_80 _ hT (zcallV (y_nx (d := d + 9) hT hx tm p2) ?_), fun z => absurd (show (1 : Int32) = 0 from z) (by decide)⟩
        rintro u3 rv1 l3 ⟨q1, m1, m2, m3⟩
        have q1 := q1.symm
        subst q1
        have p3 := (p2.nx (tp := tp)).1
        have ec2 : (nx tp n b).2 = st.2 := eb2
        generalize nx tp n b = c at *
        have f3 := f2.trans m2
        have l3f : ∀ p, p ≠ 174 → l3 p = lv p := fun p hp => by rw [m3 p hp]; exact l2f p hp
        refine ⟨hT, zcallQ (y_whole (d := d + 8) (lo := 0) (c0 := 4) hT hx m1 p3 rfl (by omega) (ww_lit (c := 3) (by omega))) ?_⟩
        rintro y2 u4 rv1 l4 ⟨q1, s1, s2, s3, s4⟩
        have q1 := q1.symm
        subst q1
        have f4 := f3.trans s3
        have l4f : ∀ p, p ≠ 174 → l4 p = lv p := fun p hp => by rw [s4 p hp]; exact l3f p hp
        refine ⟨hT, ?_⟩
        by_cases w1 : wW c 0 4 = 0
        · obtain ⟨ey2, tm4⟩ := s1 w1
          subst ey2
          have wv2 := wW_0 w1
          rw [if_pos w1, tm4.2.1]
          refine ⟨fun z => absurd rfl z, fun _ => ?_⟩
          rw [z_12, nI_add, nI_clamp (by omega), nI_1]
          refine ⟨vp_in_nI (by omega) (by decide), fun u5 e5 => ?_⟩
          have ed2 : (nx tp n c).2 = st.2 := ec2
          have ms4 : MS u4 177 0 st.2.2 := by have := tm4.2.2.2.2.1; rw [ed2] at this; exact this
          have zz4 : ∀ i, st.2.2.1 ≤ i → i < 10 → u4 177 (12 + i) = nI 0 := by have := tm4.2.2.2.2.2; rw [ed2] at this; exact this
          have r5 : ∀ p, p ≠ 177 → u5 p = u4 p := fun p hp => by rw [e5, zu_row hp]
          have q5 : ∀ b, b ≠ 12 + a.1.2.2.2 → u5 177 b = u4 177 b := fun b hb => by rw [e5, zu_k hb]
          have tm5 : TM u5 l4 tp n (nx tp n (c.1, st.2.1, sKp st.2.2 a.1.2.2.2 (c.1.2.2.2 + 1))) := by
            refine ⟨?_, by rw [r5 174 (by decide)]; exact tm4.2.1, ?_, ?_, ?_, fun i i1 i2 => ?_⟩
            · unfold RTm
              rw [r5 174 (by decide), r5 175 (by decide)]
              exact tm4.1
            · have := tm4.2.2.1
              unfold TKm at this ⊢
              rw [r5 174 (by decide)]
              exact this
            · rw [r5 174 (by decide)]
              have := tm4.2.2.2.1
              rw [ed2] at this
              exact this
            · obtain ⟨z1, z2, z3, z4, z5, z6⟩ := ms4
              have l6 := vu.2.2.2.2.2
              refine ⟨by rw [q5 _ (by omega)]; exact z1, by rw [q5 _ (by omega)]; exact z2, fun i hi => by rw [q5 _ (by have hi : i < st.2.2.1 := hi; omega)]; exact z3 i hi, fun i hi => ?_, by rw [q5 _ (by omega)]; exact z5, fun p hp => by rw [q5 _ (by omega), q5 _ (by omega)]; exact z6 p hp⟩
              show u5 177 (0 + 12 + i) = nI (up st.2.2.2.2.2.1 a.1.2.2.2 (c.1.2.2.2 + 1) i)
              by_cases z : i = a.1.2.2.2
              · rw [z, Nat.zero_add, e5, zu_eq, up_eq]
              · rw [up_ne z, q5 _ (by omega)]
                exact z4 i hi
            · have i1 : st.2.2.1 ≤ i := i1
              rw [q5 _ (by omega)]
              exact zz4 i i1 i2
          exact RMA.good tm5 (f4.trans (FX.s177 e5)) l4f
        · rw [if_neg w1]
          have fd := s2 w1
          rw [fd.2.2.1, z_0, nI_eq (by have := fd.2.1; omega) (by omega)]
          have := fd.1
          exact ⟨fun _ => RMA.fail fd f4 l4f, fun z => absurd z (by omega)⟩
    · rw [if_neg w0]
      have fd := k2 w0
      exact zcall (y_isWordF (d := d + 10) hT fd) hT ⟨fun z => absurd rfl z, fun _ => zcallE (y_flawF hT fd) hT (eightyF _ _ a _ _ _ fd rfl f2 l2f)⟩
  refine ⟨hT, ?_⟩
  rw [g1.2.1]
  refine ⟨fun z => absurd rfl z, fun _ => ?_⟩
  rw [g1.2.2.1.1, kmap_3 k5]
  refine ⟨fun k => fifty (fun z => by have := (wW_0 z.1).1; omega), fun k => ?_⟩
  have t12 := g1.2.2.1.2.2.2.1 k
  rw [cn, t12, nI_leI (by omega) (by omega)]
  refine ⟨fun c => fifty (fun z => by have := (wW_0 z.1); omega), fun c => ?_⟩
  have w0 : wW a 0 st.2.2.1 = 0 := by unfold wW; rw [if_pos k, if_neg (by omega)]
  have kc : u 177 (12 + a.1.2.2.2) = nI (st.2.2.2.2.2.1 a.1.2.2.2) := by
    have := ms.2.2.2.1 a.1.2.2.2 (by omega)
    rw [Nat.zero_add] at this
    exact this
  have kb := vu.2.2.2.1 a.1.2.2.2 (by omega)
  rw [z_12, nI_add, nI_clamp (by omega), kc, z_0, nI_leI (by omega) (by omega)]
  refine ⟨vp_in_nI (by omega) (by decide), fun z => fifty (fun y => y.2 (by omega)), fun z => ?_⟩
  rw [if_pos w0, if_neg (by omega)]
  refine zcallV (y_flaw (f := 3) hT g1 ⟨by omega, by omega⟩) ?_
  rintro u2 rv1 l2 ⟨q1, q2, fd, k3, k4⟩
  have q1 := q1.symm
  have q2 := q2.symm
  subst q1 q2
  exact ⟨hT, fiftyF 3 _ a u2 _ fd rfl (g2.trans k3) g3⟩
theorem y_rApt {tp : Nat → Nat} {n d : Nat} {st : PS} {iv : zI} {rv : zR} {lv : zJ} (hT : zTop rv) (hx : TX tp n) (hS : TM iv lv tp n st) (hP : PO n st) : Cv mX11_readApart (d + 4) [.ref 174] iv rv lv (RMA iv rv lv tp n (rApt tp n st)) := by
  have hn := hx.1
  have vu : VU st.2.2 := hP.2.2.2.2
  have n10 := vu.1
  have l6 := vu.2.2.2.2.2
  have ms0 : MS iv 177 0 st.2.2 := hS.2.2.2.2.1
  -- a fault goes through
  have ninetyF : ∀ (f : Nat) (st' : PS) (v : zI) (l : zJ) (x1 : Int32), FD5 v f st'.1.2.1 → FX iv v → (∀ p, p ≠ 174 → l p = lv p) → Zv mX11_readApart (d + 4) 92 [some (.ref 174), some (.int x1), none] [] v rv l (RMA iv rv lv tp n (f, st')) := by
    intro f st' v l x1 fd fv lf
    refine bX11_readApart_92 _ hT (zcallQ (y_wholeF (d := d + 1) hT fd) ?_)
    rintro y u3 rv1 l3 ⟨q1, q2, q3⟩
    have q1 := q1.symm
    have q2 := q2.symm
    have q3 := q3.symm
    subst q1 q2 q3
    rw [fd.2.2.1, z_0, nI_leI (by have := fd.2.1; omega) (by omega)]
    have := fd.1
    exact ⟨hT, fun z => absurd z (by omega), fun _ => RMA.fail fd fv lf⟩
  refine eX11_readApart (bX11_readApart_0 hT ?_)
  have n22 : iv 177 22 = nI st.2.2.2.2.2.2.length := ms0.2.2.2.2.1
  rw [n22, show (6 : Int32) = nI 6 from rfl, nI_eq (by omega) (by omega)]
  unfold rApt
  refine ⟨fun lne => ?_, fun le => ?_⟩
  · rw [if_neg (by omega)]
    refine bX11_readApart_17 hT (zcallV (y_nx (d := d + 1) hT hx hS hP) ?_)
    rintro u rv1 l1 ⟨q1, g1, g2, g3⟩
    have q1 := q1.symm
    subst q1
    have p1 := (hP.nx (tp := tp)).1
    have ea2 : (nx tp n st).2 = st.2 := rfl
    generalize nx tp n st = a at *
    have ms : MS u 177 0 st.2.2 := by have := g1.2.2.2.2.1; rw [ea2] at this; exact this
    refine ⟨hT, ?_⟩
    rw [show u 177 0 = nI st.2.2.1 from ms.1]
    refine zcallQ (y_whole (d := d) (lo := 0) (c0 := st.2.2.1) hT hx g1 p1 rfl (by omega) (ww_cnt n10)) ?_
    rintro y u2 rv1 l2 ⟨q1, k1, k2, k3, k4⟩
    have q1 := q1.symm
    subst q1
    have f2 := g2.trans k3
    have l2f : ∀ p, p ≠ 174 → l2 p = lv p := fun p hp => by rw [k4 p hp]; exact g3 p hp
    refine ⟨hT, ?_⟩
    by_cases w0 : wW a 0 st.2.2.1 = 0
    · obtain ⟨ey, tm⟩ := k1 w0
      subst ey
      have wv := wW_0 w0
      rw [if_pos w0]
      have p2 := (p1.nx (tp := tp)).1
      have eb2 : (nx tp n a).2 = st.2 := ea2
      generalize nx tp n a = b at *
      have ms2 : MS u2 177 0 st.2.2 := by have := tm.2.2.2.2.1; rw [eb2] at this; exact this
      have cn2 : u2 177 0 = nI st.2.2.1 := ms2.1
      have k5 := p2.2.2.1
      have v9 := p2.2.2.2.1
      have ninety : ¬ (wW b 0 st.2.2.1 = 0 ∧ (b.1.2.2.2 = a.1.2.2.2 ∨ apb st.2.2.2.2.2.2 a.1.2.2.2 b.1.2.2.2 = true)) → Zv mX11_readApart (d + 4) 92 [some (.ref 174), some (.int (nI a.1.2.2.2)), none] [] u2 rv l2 (RMA iv rv lv tp n (if wW b 0 st.2.2.1 = 0 then if b.1.2.2.2 = a.1.2.2.2 ∨ apb st.2.2.2.2.2.2 a.1.2.2.2 b.1.2.2.2 = true then (3, b) else (0, nx tp n (b.1, st.2.1, sPr st.2.2 a.1.2.2.2 b.1.2.2.2)) else (wW b 0 st.2.2.1, b))) := by
        intro nb
        refine bX11_readApart_92 _ hT ?_
        rw [cn2]
        refine zcallQ (y_whole (d := d) (lo := 0) (c0 := st.2.2.1) hT hx tm p2 rfl (by omega) (ww_cnt n10)) ?_
        rintro y2 u4 rv1 l4 ⟨q1, s1, s2, s3, s4⟩
        have q1 := q1.symm
        subst q1
        have f4 := f2.trans s3
        have l4f : ∀ p, p ≠ 174 → l4 p = lv p := fun p hp => by rw [s4 p hp]; exact l2f p hp
        refine ⟨hT, ?_⟩
        by_cases w1 : wW b 0 st.2.2.1 = 0
        · obtain ⟨ey2, tm4⟩ := s1 w1
          subst ey2
          have wv2 := wW_0 w1
          rw [if_pos w1, if_neg (fun z => nb ⟨w1, z⟩), tm4.2.1]
          refine ⟨fun _ => ?_, fun z => absurd (by decide) z⟩
          have ed2 : (nx tp n b).2 = st.2 := eb2
          have ms4 : MS u4 177 0 st.2.2 := by have := tm4.2.2.2.2.1; rw [ed2] at this; exact this
          have zz4 : ∀ i, st.2.2.1 ≤ i → i < 10 → u4 177 (12 + i) = nI 0 := by have := tm4.2.2.2.2.2; rw [ed2] at this; exact this
          have c22 : u4 177 22 = nI st.2.2.2.2.2.2.length := ms4.2.2.2.2.1
          generalize hL : st.2.2.2.2.2.2.length = L at *
          rw [c22, z_23, z_2, pk_mul, nI_add, nI_clamp (by omega)]
          refine ⟨vp_in_nI (by omega) (by decide), fun u5 e5 => ?_⟩
          have c225 : u5 177 22 = nI L := by rw [e5, zu_k (by omega)]; exact c22
          rw [c225, pk_mul, nI_add, nI_1, nI_clamp (by omega)]
          refine ⟨vp_in_nI (by omega) (by decide), fun u6 e6 u7 e7 => ?_⟩
          have c226 : u6 177 22 = nI L := by rw [e6, zu_k (by omega)]; exact c225
          rw [c226, nI_1] at e7
          have r7 : ∀ p, p ≠ 177 → u7 p = u4 p := fun p hp => by rw [e7, zu_row hp, e6, zu_row hp, e5, zu_row hp]
          have q7 : ∀ b, b ≠ 22 → b ≠ 23 + 2 * L → b ≠ 23 + 2 * L + 1 → u7 177 b = u4 177 b := fun b b1 b2 b3 => by rw [e7, zu_k b1, e6, zu_k b3, e5, zu_k b2]
          have tm7 : TM u7 l4 tp n (nx tp n (b.1, st.2.1, sPr st.2.2 a.1.2.2.2 b.1.2.2.2)) := by
            refine ⟨?_, by rw [r7 174 (by decide)]; exact tm4.2.1, ?_, ?_, ?_, fun i i1 i2 => ?_⟩
            · unfold RTm
              rw [r7 174 (by decide), r7 175 (by decide)]
              exact tm4.1
            · have := tm4.2.2.1
              unfold TKm at this ⊢
              rw [r7 174 (by decide)]
              exact this
            · rw [r7 174 (by decide)]
              have := tm4.2.2.2.1
              rw [ed2] at this
              exact this
            · obtain ⟨z1, z2, z3, z4, z5, z6⟩ := ms4
              have eln : (sPr st.2.2 a.1.2.2.2 b.1.2.2.2).2.2.2.2.length = L + 1 := by
                show (st.2.2.2.2.2.2 ++ [(a.1.2.2.2, b.1.2.2.2)]).length = L + 1
                rw [List.length_append, hL]
                rfl
              refine ⟨by rw [q7 _ (by omega) (by omega) (by omega)]; exact z1, by rw [q7 _ (by omega) (by omega) (by omega)]; exact z2, fun i hi => by rw [q7 _ (by have hi : i < st.2.2.1 := hi; omega) (by have hi : i < st.2.2.1 := hi; omega) (by have hi : i < st.2.2.1 := hi; omega)]; exact z3 i hi, fun i hi => by rw [q7 _ (by have hi : i < st.2.2.1 := hi; omega) (by have hi : i < st.2.2.1 := hi; omega) (by have hi : i < st.2.2.1 := hi; omega)]; exact z4 i hi, ?_, fun p hp => ?_⟩
              · show u7 177 (0 + 22) = nI (sPr st.2.2 a.1.2.2.2 b.1.2.2.2).2.2.2.2.length
                rw [eln, Nat.zero_add, e7, zu_eq]
              · have hp : p < (sPr st.2.2 a.1.2.2.2 b.1.2.2.2).2.2.2.2.length := hp
                rw [eln] at hp
                show u7 177 (0 + 23 + 2 * p) = nI ((st.2.2.2.2.2.2 ++ [(a.1.2.2.2, b.1.2.2.2)]).getD p (0, 0)).1 ∧ u7 177 (0 + 24 + 2 * p) = nI ((st.2.2.2.2.2.2 ++ [(a.1.2.2.2, b.1.2.2.2)]).getD p (0, 0)).2
                rw [List.getD_eq_getElem?_getD]
                by_cases z : p = L
                · rw [List.getElem?_append_right (by omega), z, hL, Nat.sub_self, Nat.zero_add, Nat.zero_add]
                  refine ⟨?_, ?_⟩
                  · rw [e7, zu_k (by omega), e6, zu_k (by omega), e5, zu_eq]; rfl
                  · rw [show 24 + 2 * L = 23 + 2 * L + 1 by omega, e7, zu_k (by omega), e6, zu_eq]; rfl
                · rw [List.getElem?_append_left (by omega), ← List.getD_eq_getElem?_getD, q7 _ (by omega) (by omega) (by omega), q7 _ (by omega) (by omega) (by omega)]
                  exact z6 p (by omega)
            · have i1 : st.2.2.1 ≤ i := i1
              rw [q7 _ (by omega) (by omega) (by omega)]
              exact zz4 i i1 i2
          exact RMA.good tm7 (f4.trans ⟨fun p _ p2 => r7 p p2, fun b _ _ => by rw [r7 174 (by decide)]⟩) l4f
        · rw [if_neg w1]
          have fd := s2 w1
          rw [fd.2.2.1, z_0, nI_leI (by have := fd.2.1; omega) (by omega)]
          have := fd.1
          exact ⟨fun z => absurd z (by omega), fun _ => RMA.fail fd f4 l4f⟩
      rw [tm.2.1]
      refine ⟨fun z => absurd rfl z, fun _ => ?_⟩
      rw [tm.2.2.1.1, kmap_3 k5]
      refine ⟨fun k => ninety (fun z => by have := (wW_0 z.1).1; omega), fun k => ?_⟩
      have t12 := tm.2.2.1.2.2.2.1 k
      rw [cn2, t12, nI_leI (by omega) (by omega), nI_eq (by omega) (by omega)]
      refine ⟨fun c => ninety (fun z => by have := (wW_0 z.1); omega), fun c => ?_⟩
      have w1 : wW b 0 st.2.2.1 = 0 := by unfold wW; rw [if_pos k, if_neg (by omega)]
      have three : (b.1.2.2.2 = a.1.2.2.2 ∨ apb st.2.2.2.2.2.2 a.1.2.2.2 b.1.2.2.2 = true) → ∃ Q : zI → zR → zJ → Prop, Cv mX11_flaw (d + 3) [.ref 174, .int 3] u2 rv l2 Q ∧ ∀ (a' : zI) (b' : zR) (c' : zJ), Q a' b' c' → zTop b' ∧ Zv mX11_readApart (d + 4) 92 [some (.ref 174), some (.int (nI a.1.2.2.2)), none] [] a' b' c' (RMA iv rv lv tp n (if wW b 0 st.2.2.1 = 0 then if b.1.2.2.2 = a.1.2.2.2 ∨ apb st.2.2.2.2.2.2 a.1.2.2.2 b.1.2.2.2 = true then (3, b) else (0, nx tp n (b.1, st.2.1, sPr st.2.2 a.1.2.2.2 b.1.2.2.2)) else (wW b 0 st.2.2.1, b))) := by
        intro z
        rw [if_pos w1, if_pos z]
        refine zcallV (y_flaw (f := 3) hT tm ⟨by omega, by omega⟩) ?_
        rintro u3 rv1 l3 ⟨q1, q2, fd, m3, m4⟩
        have q1 := q1.symm
        have q2 := q2.symm
        subst q1 q2
        exact ⟨hT, ninetyF 3 b u3 _ _ fd (f2.trans m3) l2f⟩
      refine ⟨fun z => three (Or.inl z), fun z => zcallQ (y_pairOf (r := 177) hT (Or.inr rfl) ms2.plr l6 (fun p hp => by have := VP_mem vu.2.2.2.2.1 p hp; omega) (show a.1.2.2.2 < 10 by omega) (show b.1.2.2.2 < 10 by omega)) ?_⟩
      rintro y u3 rv3 l3 ⟨hy, q1, q2, q3⟩
      subst q1 q2 q3
      refine ⟨hT, ?_⟩
      rcases hy with ⟨h1, p, hp, ey, -⟩ | ⟨h1, ey⟩
      · rw [ey]
        exact ⟨fun q => absurd q.symm (nI_m1 (by omega)), fun _ => three (Or.inr h1)⟩
      · rw [ey]
        refine ⟨fun _ => ninety (fun q => ?_), fun q => absurd rfl q⟩
        rcases q.2 with q | q
        · exact z q
        · rw [h1] at q
          cases q
    · rw [if_neg w0]
      have fd := k2 w0
      rw [fd.2.2.1, z_0, nI_eq (by have := fd.2.1; omega) (by omega)]
      have := fd.1
      exact ⟨fun _ => ninetyF _ a _ _ _ fd f2 l2f, fun z => absurd z (by omega)⟩
  · rw [if_pos (by omega)]
    refine zcallV (y_flaw (f := 4) hT hS ⟨by omega, by omega⟩) ?_
    rintro u rv1 l1 ⟨q1, q2, fd, m3, m4⟩
    have q1 := q1.symm
    have q2 := q2.symm
    subst q1 q2
    refine ⟨hT, bX11_readApart_17 hT (zcallE (y_goOnF hT fd) hT (zcallQ (y_wholeF (d := d + 1) hT fd) ?_))⟩
    rintro y u3 rv1 l3 ⟨q1, q2, q3⟩
    have q1 := q1.symm
    have q2 := q2.symm
    have q3 := q3.symm
    subst q1 q2 q3
    rw [fd.2.2.1]
    exact ⟨hT, fun _ => ninetyF 4 st _ _ _ fd m3 (fun _ _ => rfl), fun z => absurd z (by decide)⟩
