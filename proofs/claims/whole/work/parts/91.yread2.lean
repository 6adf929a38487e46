theorem RMA.fail {iv a : zI} {rv : zR} {lv c : zJ} {tp : Nat → Nat} {n f : Nat} {st : PS} (h : FD5 a f st.1.2.1) (hF : FX iv a) (hl : ∀ p, p ≠ 174 → c p = lv p) : RMA iv rv lv tp n (f, st) a rv c := ⟨rfl, fun _ => ⟨h.2.2.1, h.2.2.2⟩, fun z => absurd z (by have := h.1; show ¬ f = 0; omega), hF, hl⟩
theorem RMA.good {iv a : zI} {rv : zR} {lv c : zJ} {tp : Nat → Nat} {n : Nat} {st : PS} (h : TM a c tp n st) (hF : FX iv a) (hl : ∀ p, p ≠ 174 → c p = lv p) : RMA iv rv lv tp n (0, st) a rv c := ⟨rfl, fun z => absurd rfl z, fun _ => h, hF, hl⟩
theorem FX.s177 {iv a : zI} {k : Nat} {x : Int32} (e : a = zu iv 177 k x) : FX iv a := ⟨fun p _ p2 => by rw [e, zu_row p2], fun b _ _ => by rw [e, zu_row (by decide)]⟩
theorem y_rNum {tp : Nat → Nat} {n d : Nat} {st0 : PS} {iv : zI} {rv : zR} {lv : zJ} (hT : zTop rv) (hx : TX tp n) (hS : TM iv lv tp n st0) (hP : PO n st0) : Cv mX11_readNumbers (d + 4) [.ref 174] iv rv lv (RMA iv rv lv tp n (rNum tp n (n + 1) st0)) := by
  have hn := hx.1
  refine eX11_readNumbers (bX11_readNumbers_0 hT ?_)
  have go : ∀ (f : Nat) (st : PS) (w : zI) (l : zJ), n - st.1.2.2.1 < f → TM w l tp n st → PO n st → FX iv w → (∀ p, p ≠ 174 → l p = lv p) → Zv mX11_readNumbers (d + 4) 2 [some (.ref 174), some (.int 1), none] [] w rv l (RMA iv rv lv tp n (rNum tp n f st)) := by
    intro f
    induction f with
    | zero => intro st w l hf; omega
    | succ f ih =>
      intro st w l hf hS hP hF hl
      refine bX11_readNumbers_2 _ hT ⟨fun z => absurd z (by decide), fun _ => zcallV (y_nx (d := d + 1) hT hx hS hP) ?_⟩
      rintro u rv1 l1 ⟨q1, g1, g2, g3⟩
      have q1 := q1.symm
      subst q1
      obtain ⟨p1, p2, p3⟩ := hP.nx (tp := tp)
      have vu : VU st.2.2 := hP.2.2.2.2
      have n10 := vu.1
      have f1 := hF.trans g2
      have l1f : ∀ p, p ≠ 174 → l1 p = lv p := fun p hp => by rw [g3 p hp]; exact hl p hp
      rw [rNum]
      have ea2 : (nx tp n st).2 = st.2 := rfl
      generalize nx tp n st = a at *
      have cn : u 177 0 = nI st.2.2.1 := by have := g1.2.2.2.2.1.1; rw [ea2] at this; exact this
      have ms : MS u 177 0 st.2.2 := by have := g1.2.2.2.2.1; rw [ea2] at this; exact this
      have zz : ∀ i, st.2.2.1 ≤ i → i < 10 → u 177 (12 + i) = nI 0 := by have := g1.2.2.2.2.2; rw [ea2] at this; exact this
      have p5 := p1.1
      have k5 := p1.2.2.1
      -- no fault so far
      have fifty : ¬ (wW a 1 10000 = 0 ∧ 10 ≤ st.2.2.1) → Zv mX11_readNumbers (d + 4) 55 [some (.ref 174), some (.int 1), none] [] u rv l1 (RMA iv rv lv tp n (if wW a 1 10000 = 0 then (if 10 ≤ st.2.2.1 then (4, a) else if (nx tp n (a.1, st.2.1, addS st.2.2 a.1.2.2.2)).1.1 = 4 then rNum tp n f (nx tp n (a.1, st.2.1, addS st.2.2 a.1.2.2.2)) else (0, nx tp n (a.1, st.2.1, addS st.2.2 a.1.2.2.2))) else (wW a 1 10000, a))) := by
        intro nb
        refine bX11_readNumbers_55 _ hT (zcallQ (y_whole (d := d) (lo := 1) (c0 := 10000) hT hx g1 p1 rfl (by omega) (ww_lit (c := 9999) (by omega))) ?_)
        rintro y u2 rv1 l2 ⟨q1, k1, k2, k3, k4⟩
        have q1 := q1.symm
        subst q1
        have f2 := f1.trans k3
        have l2f : ∀ p, p ≠ 174 → l2 p = lv p := fun p hp => by rw [k4 p hp]; exact l1f p hp
        refine ⟨hT, ?_⟩
        by_cases w0 : wW a 1 10000 = 0
        · obtain ⟨ey, tm⟩ := k1 w0
          have wv := wW_0 w0
          rw [if_pos w0, if_neg (by omega), tm.2.1]
          have eb2 : (nx tp n a).2 = st.2 := ea2
          have cn2 : u2 177 0 = nI st.2.2.1 := by have := tm.2.2.2.2.1.1; rw [eb2] at this; exact this
          have ms2 : MS u2 177 0 st.2.2 := by have := tm.2.2.2.2.1; rw [eb2] at this; exact this
          have zz2 : ∀ i, st.2.2.1 ≤ i → i < 10 → u2 177 (12 + i) = nI 0 := by have := tm.2.2.2.2.2; rw [eb2] at this; exact this
          refine ⟨fun _ => ?_, fun z => absurd (by decide) z⟩
          rw [cn2, z_2, nI_add, nI_clamp (by omega)]
          refine ⟨vp_in_nI (by omega) (by decide), fun u3 e3 u4 e4 => ?_⟩
          rw [e3, zu_k (by omega), cn2, nI_1] at e4
          have r4 : ∀ p, p ≠ 177 → u4 p = u2 p := fun p hp => by rw [e4, zu_row hp, zu_row hp]
          have q4 : ∀ b, b ≠ 0 → b ≠ 2 + st.2.2.1 → u4 177 b = u2 177 b := fun b b1 b2 => by rw [e4, zu_k b1, zu_k b2]
          have po : PO n (nx tp n (a.1, st.2.1, addS st.2.2 a.1.2.2.2)) := (PO.nx (p1.set (vu.add (by omega) (by omega)))).1
          have pr : (nx tp n (a.1, st.2.1, addS st.2.2 a.1.2.2.2)).1.1 ≠ 0 → a.1.2.2.1 < (nx tp n (a.1, st.2.1, addS st.2.2 a.1.2.2.2)).1.2.2.1 := (PO.nx (tp := tp) (p1.set (b := st.2.1) (vu.add (x := a.1.2.2.2) (by omega) (by omega)))).2.2
          have tm4 : TM u4 l2 tp n (nx tp n (a.1, st.2.1, addS st.2.2 a.1.2.2.2)) := by
            refine ⟨?_, by rw [r4 174 (by decide)]; exact tm.2.1, ?_, ?_, ?_, fun i i1 i2 => ?_⟩
            · unfold RTm
              rw [r4 174 (by decide), r4 175 (by decide)]
              exact tm.1
            · have := tm.2.2.1
              unfold TKm at this ⊢
              rw [r4 174 (by decide)]
              exact this
            · rw [r4 174 (by decide)]
              have := tm.2.2.2.1
              rw [eb2] at this
              exact this
            · obtain ⟨m1, m2, m3, m4, m5, m6⟩ := ms2
              refine ⟨by rw [e4, zu_eq]; rfl, by rw [q4 _ (by omega) (by omega)]; exact m2, fun i hi => ?_, fun i hi => ?_, by rw [q4 _ (by omega) (by omega)]; exact m5, fun p hp => by rw [q4 _ (by omega) (by omega), q4 _ (by omega) (by omega)]; exact m6 p hp⟩
              · have hi : i < st.2.2.1 + 1 := hi
                show u4 177 (0 + 2 + i) = nI (if i = st.2.2.1 then a.1.2.2.2 else st.2.2.2.2.1 i)
                by_cases z : i = st.2.2.1
                · rw [if_pos z, z, Nat.zero_add, e4, zu_k (by omega), zu_eq, ey]
                · rw [if_neg z, q4 _ (by omega) (by omega)]
                  exact m3 i (by omega)
              · have hi : i < st.2.2.1 + 1 := hi
                show u4 177 (0 + 12 + i) = nI (if i = st.2.2.1 then 0 else st.2.2.2.2.2.1 i)
                rw [q4 _ (by omega) (by omega)]
                by_cases z : i = st.2.2.1
                · rw [if_pos z, Nat.zero_add]
                  exact zz2 i (by omega) (by omega)
                · rw [if_neg z]
                  exact m4 i (by omega)
            · have i1 : st.2.2.1 + 1 ≤ i := i1
              rw [q4 _ (by omega) (by omega)]
              exact zz2 i (by omega) i2
          have f4 : FX iv u4 := f2.trans ⟨fun p _ p2 => r4 p p2, fun b _ _ => by rw [r4 174 (by decide)]⟩
          have sg := y_isSign (d := d + 3) (x := 44) hT tm4 po (Or.inl rfl)
          generalize nx tp n (a.1, st.2.1, addS st.2.2 a.1.2.2.2) = q at *
          refine zcall sg hT ?_
          rw [if_pos rfl]
          by_cases k4' : q.1.1 = 4
          · rw [if_pos k4', beq_iff_eq.mpr k4']
            have := pr (by omega)
            have h3 := po.2.1
            exact ih q u4 l2 (by omega) tm4 po f4 l2f
          · rw [if_neg k4', beq_eq_false_iff_ne.mpr k4']
            exact bX11_readNumbers_2 _ hT ⟨fun _ => RMA.good tm4 f4 l2f, fun z => absurd rfl z⟩
        · rw [if_neg w0]
          have fd := k2 w0
          rw [fd.2.2.1, z_0, nI_leI (by have := fd.2.1; omega) (by omega)]
          have := fd.1
          exact ⟨fun z => absurd z (by omega), fun _ => RMA.fail fd f2 l2f⟩
      refine ⟨hT, ?_⟩
      rw [g1.2.1]
      refine ⟨fun z => absurd rfl z, fun _ => ?_⟩
      rw [g1.2.2.1.1, kmap_3 k5]
      refine ⟨fun k => fifty (fun z => by have := (wW_0 z.1).1; omega), fun k => zcall (y_in hT) hT ?_⟩
      have t12 := g1.2.2.1.2.2.2.1 k
      have v9 := p1.2.2.2.1
      have ed : decide ((1 : Int32) ≤ u 174 12 ∧ u 174 12 ≤ 9999) = decide (1 ≤ a.1.2.2.2 ∧ a.1.2.2.2 < 10000) := decide_eq_decide.mpr (by rw [t12, z_1, show (9999 : Int32) = nI 9999 from rfl, nI_leI (by omega) (by omega), nI_leI (by omega) (by omega)]; omega)
      rw [ed]
      by_cases z : 1 ≤ a.1.2.2.2 ∧ a.1.2.2.2 < 10000
      · rw [decide_eq_true z]
        refine ⟨fun z => absurd (show (1 : Int32) = 0 from z) (by decide), fun _ => ?_⟩
        rw [cn, z_10, nI_eq (by omega) (by omega)]
        refine ⟨fun c => fifty (fun z => by omega), fun c => ?_⟩
        have w0 : wW a 1 10000 = 0 := by unfold wW; rw [if_pos k, if_neg (by omega)]
        rw [if_pos w0, if_pos (show 10 ≤ st.2.2.1 by omega)]
        refine zcallV (y_flaw (f := 4) hT g1 ⟨by omega, by omega⟩) ?_
        rintro u2 rv1 l2 ⟨q1, q2, fd, k3, k4⟩
        have q1 := q1.symm
        have q2 := q2.symm
        subst q1 q2
        refine ⟨hT, bX11_readNumbers_55 _ hT (zcallQ (y_wholeF (d := d + 1) hT fd) ?_)⟩
        rintro y u3 rv1 l3 ⟨q1, q2, q3⟩
        have q1 := q1.symm
        have q2 := q2.symm
        have q3 := q3.symm
        subst q1 q2 q3
        rw [fd.2.2.1]
        exact ⟨hT, fun z => absurd z (by decide), fun _ => RMA.fail fd (f1.trans k3) l1f⟩
      · rw [decide_eq_false z]
        refine ⟨fun _ => fifty (fun y => ?_), fun z => absurd rfl z⟩
        have := wW_0 y.1
        omega
  exact go (n + 1) st0 iv lv (by omega) hS hP FX.refl (fun _ _ => rfl)
