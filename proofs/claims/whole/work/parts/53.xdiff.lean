/-! THE CLASS: differencing. -/
def dl (s : Sn) : It := df1 s.2.2.1 s.1 (s.1 - 1) 0
def F_difference (S : St) : Int32 × St := match S.2.1 with
  | none => rf S 1
  | some s => ok S (nI (dl s).1)
def F_differenceOf (S : St) (x : Int32) : Int32 × St := match nOf S x with
  | none => rf S 1
  | some (s, i) => ok S (bI ((dl s).2.1.testBit i != (dl s).2.1.testBit 0))
def F_step (S : St) (x w : Int32) : Int32 × St := match S.2.1 with
  | none => rf S 1
  | some s => if w < 0 ∨ 1 < w then rf S 1 else if x < 0 ∨ nI (s.1 - 1) ≤ x then rf S 1 else ok S (if w = 0 then nI (df1 s.2.2.1 s.1 x.toNatClampNeg 0).1 else nI (df1 s.2.2.1 s.1 x.toNatClampNeg 1).1)
theorem dl_b {s : Sn} (vs : VS s) : (dl s).1 < 2 ^ 31 ∧ (dl s).2.1 < 1024 ∧ (dl s).2.2 < 1024 := by
  have vn := vs.1
  have h := df1_b (v := s.2.2.1) (n := s.1) vn.2 (fun i hi => (vs.2.2.1 i hi).2) (s.1 - 1) (by omega) 0 (by omega)
  have pb : 9999 * 2 ^ (s.1 - 1) ≤ 9999 * 2 ^ 9 := Nat.mul_le_mul_left _ (Nat.pow_le_pow_right (by omega) (by omega))
  unfold dl
  exact ⟨by omega, h.2⟩
theorem XR.g {S' : St} {r y : Int32} {iv a : zI} {rv b : zR} {lv c : zJ} (h : XR S' r iv rv lv y a b c) : XG S' r iv rv lv y a b c := ⟨h.1, h.2.1, h.2.2.1, h.2.2.2.1, fun p hp => h.2.2.2.2 p (by omega) (by omega)⟩
theorem x_difference {d : Nat} {S : St} {iv : zI} {rv : zR} {lv : zJ} (hT : zTop rv) (h : CB S iv) (hv : VT S) : Ci mX10_difference (d + 9) [.ref 0] iv rv lv (XG (F_difference S).2 (F_difference S).1 iv rv lv) := by
  refine eX10_difference (bX10_difference_0 hT (zcall (x_noText hT) hT ?_))
  rw [h.nt hv]
  have hn := h.2.1
  unfold F_difference
  cases e : S.2.1 with
  | none => exact ⟨fun q => absurd (show (1 : Int32) = 0 from q) (by decide), fun _ => zcall (x_refuse hT) hT (XG.ans (t := 1) rfl h FL.refl)⟩
  | some s =>
    rw [e] at hn
    obtain ⟨cs, c12⟩ := hn
    have vs := hv.2.1 s e
    refine ⟨fun _ => zcallV (x_run hT cs vs) ?_, fun q => absurd rfl q⟩
    rintro a _ _ ⟨rfl, rfl, g1, g2, g3⟩
    exact ⟨hT, zcall (x_answer hT) hT (XG.ans (t := 0) (g1.2 0 (by omega)).1 h (fun p hp => g3 p (by omega)))⟩
theorem x_differenceOf {d : Nat} {S : St} {x : Int32} {iv : zI} {rv : zR} {lv : zJ} (hT : zTop rv) (h : CB S iv) (hv : VT S) : Ci mX10_differenceOf (d + 9) [.ref 0, .int x] iv rv lv (XG (F_differenceOf S x).2 (F_differenceOf S x).1 iv rv lv) := by
  refine eX10_differenceOf x (bX10_differenceOf_0 x hT (zcall (x_noNumber hT) hT ?_))
  have hn := h.2.1
  unfold F_differenceOf
  rcases nOf_cases S x hv with ⟨hn, hx⟩ | ⟨s, i, hn2, es, hi, rfl⟩
  · rw [hn, h.nn0 hx]
    exact ⟨fun q => absurd (show (1 : Int32) = 0 from q) (by decide), fun _ => zcall (x_refuse hT) hT (XG.ans (t := 1) rfl h FL.refl)⟩
  · rw [hn2, h.nn1 hv es hi]
    rw [es] at hn
    obtain ⟨cs, c12⟩ := hn
    have vs := hv.2.1 s es
    have vn := vs.1
    refine ⟨fun _ => zcallV (x_run hT cs vs) ?_, fun q => absurd rfl q⟩
    rintro a _ _ ⟨rfl, rfl, g1, g2, g3⟩
    rw [show a (80 + 2) 0 = nI (dl s).2.1 from (g1.2 0 (by omega)).2.1]
    exact ⟨hT, zcall (x_sideOf (by omega) (dl_b vs).2.1 hT) hT (zcall (x_answer hT) hT (XG.ans (t := 0) rfl h (fun p hp => g3 p (by omega))))⟩
theorem x_step {d : Nat} {S : St} {x w : Int32} {iv : zI} {rv : zR} {lv : zJ} (hT : zTop rv) (h : CB S iv) (hv : VT S) : Ci mX10_step (d + 9) [.ref 0, .int x, .int w] iv rv lv (XG (F_step S x w).2 (F_step S x w).1 iv rv lv) := by
  refine eX10_step x w (bX10_step_0 x w hT (zcall (x_noText hT) hT ?_))
  rw [h.nt hv]
  have hn := h.2.1
  unfold F_step
  have no : ∃ Q1 : Int32 → zI → zR → zJ → Prop, Ci mX10_refuse (d + 8) [.ref 0, .int 1] iv rv lv Q1 ∧ ∀ (v : Int32) (a : zI) (b : zR) (c : zJ), Q1 v a b c → zTop b ∧ XG (rf S 1).2 (rf S 1).1 iv rv lv v a b c := zcall (x_refuse hT) hT (XG.ans (t := 1) rfl h FL.refl)
  cases e : S.2.1 with
  | none => exact ⟨fun _ => no, fun q => absurd (show (1 : Int32) = 0 from q) (by decide)⟩
  | some s =>
    rw [e] at hn
    obtain ⟨cs, c12⟩ := hn
    have vs := hv.2.1 s e
    have vn := vs.1
    refine ⟨fun q => absurd rfl q, fun _ => zcall (x_not01 hT) hT ?_⟩
    by_cases hw : w < 0 ∨ 1 < w
    · simp only [hw, decide_true, if_true]
      exact ⟨fun _ => no, fun q => absurd (show (1 : Int32) = 0 from q) (by decide)⟩
    · simp only [hw, decide_false, if_false]
      refine ⟨fun q => absurd rfl q, fun _ => ?_⟩
      rw [cs.1, z_1, pk_sub (by omega)]
      rcases pk_ix x (show s.1 - 1 < 2 ^ 31 by omega) with q | q | ⟨j, hj, rfl⟩
      · simp only [q, true_or, if_true]
        exact ⟨fun _ => no, fun z => absurd trivial z⟩
      · simp only [q, or_true, if_true]
        exact ⟨fun _ => no, fun _ => ⟨fun z => absurd z (Int32.not_lt.mpr q), fun _ => no⟩⟩
      · have nn : ¬ (nI j < 0 ∨ nI (s.1 - 1) ≤ nI j) := fun z => z.elim (nI_pos (by omega)) (nI_ge hj (by omega))
        simp only [nn, if_false]
        refine ⟨fun z => absurd z (nI_pos (by omega)), fun _ => ⟨fun _ => zcallV (x_run hT cs vs) ?_, fun z => absurd (nI_lt hj (by omega)) z⟩⟩
        rintro a _ _ ⟨rfl, rfl, g1, g2, g3⟩
        rw [nI_clamp (by omega)]
        refine ⟨hT, fun q => ?_, fun q => ?_⟩
        · rw [if_neg q]
          exact ⟨vp_in_nI (by omega) (by decide), zcall (x_answer hT) hT (XG.ans (t := 0) (g2 j hj).2 h (fun p hp => g3 p (by omega)))⟩
        · rw [if_pos q]
          exact ⟨vp_in_nI (by omega) (by decide), zcall (x_answer hT) hT (XG.ans (t := 0) (g2 j hj).1 h (fun p hp => g3 p (by omega)))⟩
