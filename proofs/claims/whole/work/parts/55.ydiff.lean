/-! THE REFERENCE: differencing. -/
/-- only levels change -/
def FW (iv a : zI) : Prop := ∀ p, p < 184 ∨ 189 < p → a p = iv p
theorem FW.fn {iv a : zI} (h : FW iv a) : FN iv a := FN.of (fun p hp => h p (by omega))
theorem y_differs {d : Nat} {s : Sn} {iv : zI} {rv : zR} {lv : zJ} (hT : zTop rv) (ms : MS iv 176 0 s) (vs : VS s) :
    Ci mX11_differs (d + 5) [.ref 174] iv rv lv (fun y a b c' => y = nI (s.1 - 1) ∧ b = rv ∧ c' = lv ∧ RM a (s.1 - 1) 1 (df1 s.2.2.1 s.1 (s.1 - 1)) ∧ (∀ j, j < s.1 - 1 → a 188 j = nI (df1 s.2.2.1 s.1 j 0).1 ∧ a 189 j = nI (df1 s.2.2.1 s.1 j 1).1) ∧ FW iv a) := by
  have vn := vs.1
  have vv : ∀ i, i < s.1 → s.2.2.1 i ≤ 9999 := fun i hi => (vs.2.2.1 i hi).2
  refine eX11_differs (bX11_differs_0 hT (zcallV (y_begins hT ms vs) ?_))
  rintro w0 rv1 lv1 ⟨q1, q2, g1, g2⟩
  have q1 := q1.symm
  have q2 := q2.symm
  subst q1 q2
  refine ⟨hT, ?_⟩
  have key := zfor (c := s.1 - 1) (P := fun m => ∀ w : zI, RM w m (s.1 - m) (df1 s.2.2.1 s.1 m) → (∀ j, j < m → w 188 j = nI (df1 s.2.2.1 s.1 j 0).1 ∧ w 189 j = nI (df1 s.2.2.1 s.1 j 1).1) → FW iv w → Zi mX11_differs (d + 5) 6 [some (.ref 174), some (.int (nI m))] [] w rv lv (fun y a b c' => y = nI (s.1 - 1) ∧ b = rv ∧ c' = lv ∧ RM a (s.1 - 1) 1 (df1 s.2.2.1 s.1 (s.1 - 1)) ∧ (∀ j, j < s.1 - 1 → a 188 j = nI (df1 s.2.2.1 s.1 j 0).1 ∧ a 189 j = nI (df1 s.2.2.1 s.1 j 1).1) ∧ FW iv a)) ?_ ?_
  · exact key 0 (by omega) w0 g1 (fun j hj => absurd hj (Nat.not_lt_zero _)) (fun p hp => g2.1 p (by omega))
  · intro w b1 b2 b3
    rw [show s.1 - (s.1 - 1) = 1 by omega] at b1
    refine bX11_differs_6 _ hT ?_
    rw [nI_clamp (show s.1 - 1 < 2 ^ 31 by omega), b1.1]
    exact ⟨vp_in_nI (by omega) (by decide), fun _ => ⟨rfl, rfl, rfl, b1, b2, b3⟩, fun z => absurd (by decide) z⟩
  · intro m hm ih w b1 b2 b3
    refine bX11_differs_6 _ hT ?_
    obtain ⟨a1, -, -⟩ := b1.2 0 (by omega)
    obtain ⟨c1, -, -⟩ := b1.2 1 (by omega)
    rw [Nat.add_zero] at a1
    rw [nI_clamp (show m < 2 ^ 31 by omega), b1.1, show (10 : Int32) = nI 10 from rfl, pk_mul, nI_1, nI_1, nI_clamp (show 10 * m < 2 ^ 31 by omega), nI_clamp (show 10 * m + 1 < 2 ^ 31 by omega), a1]
    refine ⟨vp_in_nI (by omega) (by decide), fun z => absurd z (show ¬ nI (s.1 - m) ≤ nI 1 from nI_ge (by omega) (by omega)), fun _ => ⟨vp_in_nI (by omega) (by decide), vp_in_nI (by omega) (by decide), fun w1 e1 => ⟨vp_in_nI (by omega) (by decide), fun w2 e2 => ?_⟩⟩⟩
    have x1 : w1 185 (10 * m + 1) = nI (df1 s.2.2.1 s.1 m 1).1 := by rw [e1, zu_row (by omega)]; exact c1
    rw [x1] at e2
    have rr : ∀ p, p ≠ 188 → p ≠ 189 → w2 p = w p := fun p p1 p2 => by rw [e2, zu_row p2, e1, zu_row p1]
    have pb : 9999 * 2 ^ m ≤ 9999 * 2 ^ 9 := Nat.mul_le_mul_left _ (Nat.pow_le_pow_right (by omega) (by omega))
    have hR2 : RM w2 m (s.1 - m) (df1 s.2.2.1 s.1 m) := by
      unfold RM
      rw [rr 184 (by omega) (by omega), rr 185 (by omega) (by omega), rr 186 (by omega) (by omega), rr 187 (by omega) (by omega)]
      exact b1
    refine zcallV (y_joins (df := true) (B := 9999 * 2 ^ m) hT (by omega) hR2 (by omega) (by omega) (df1_b vn.2 vv m (by omega)) (by omega) (df1_s m (by omega))) ?_
    rintro a rv1 lv1 ⟨q1, q2, d1, d2⟩
    have q1 := q1.symm
    have q2 := q2.symm
    subst q1 q2
    rw [show s.1 - m - 1 = s.1 - (m + 1) by omega] at d1
    refine ⟨hT, ih a d1 (fun j hj => ?_) (fun p hp => by rw [d2.1 p (by omega), rr p (by omega) (by omega)]; exact b3 p hp)⟩
    rw [d2.1 188 (by omega), d2.1 189 (by omega), e2]
    by_cases c : j = m
    · rw [c, zu_eq, zu_row (by omega), e1, zu_eq]
      exact ⟨rfl, rfl⟩
    · refine ⟨?_, ?_⟩
      · rw [zu_row (by omega), e1, zu_k c]
        exact (b2 j (by omega)).1
      · rw [zu_k c, e1, zu_row (by omega)]
        exact (b2 j (by omega)).2
theorem y_sideOf {d x i : Nat} {iv : zI} {rv : zR} {lv : zJ} (hT : zTop rv) (hx : x < 1024) (hi : i < 10) : Ci mX11_sideOf (d + 1) [.int (nI x), .int (nI i)] iv rv lv (zP (bI (x.testBit i != x.testBit 0)) iv rv lv) := by
  refine eX11_sideOf _ _ (bX11_sideOf_0 _ _ hT (zcall (y_has hT (by omega) (by omega)) hT (zcall (y_has (j := 0) hT (by omega) (by omega)) hT ?_)))
  cases x.testBit i <;> cases x.testBit 0
  · exact ⟨fun q => absurd rfl q, fun _ => zP.mk rfl⟩
  · exact ⟨fun _ => zP.mk rfl, fun q => absurd (show (0 : Int32) = 1 from q) (by decide)⟩
  · exact ⟨fun _ => zP.mk rfl, fun q => absurd (show (1 : Int32) = 0 from q) (by decide)⟩
  · exact ⟨fun q => absurd rfl q, fun _ => zP.mk rfl⟩
theorem y_difference {d : Nat} {S : St} {iv : zI} {rv : zR} {lv : zJ} (hT : zTop rv) (h : MB S iv) (hv : VT S) : Ci mX11_difference (d + 9) [.ref 174] iv rv lv (YR (F_difference S).2 (F_difference S).1 iv rv lv) := by
  refine eX11_difference (bX11_difference_0 hT ?_)
  intro w0 e0
  have h0 : MB S w0 := e0 ▸ h.th
  have f0 : FM iv w0 := e0 ▸ FM.th
  unfold F_difference
  rw [h0.txt]
  cases e : S.2.1 with
  | none => exact ⟨fun q => absurd rfl q, fun _ => zcall (y_refused hT) hT (YR.tr' rfl h0 f0)⟩
  | some s =>
    have ms := h0.2.1.2 s e
    have vs := hv.2.1 s e
    have vn := vs.1
    refine ⟨fun _ => zcallQ (y_differs hT ms vs) ?_, fun q => absurd (show (1 : Int32) = 0 from q) (by decide)⟩
    rintro _ a _ _ ⟨rfl, rfl, rfl, g1, g2, g3⟩
    have a1 := (g1.2 0 (by omega)).1
    rw [Nat.add_zero] at a1
    rw [show (10 : Int32) = nI 10 from rfl, pk_mul, nI_clamp (show 10 * (s.1 - 1) < 2 ^ 31 by omega)]
    exact ⟨hT, vp_in_nI (by omega) (by decide), zcall (y_good hT) hT (YR.fn a1 h0 f0 g3.fn)⟩
theorem y_differenceOf {d : Nat} {S : St} {x : Int32} {iv : zI} {rv : zR} {lv : zJ} (hT : zTop rv) (h : MB S iv) (hv : VT S) : Ci mX11_differenceOf (d + 9) [.ref 174, .int x] iv rv lv (YR (F_differenceOf S x).2 (F_differenceOf S x).1 iv rv lv) := by
  refine eX11_differenceOf x (bX11_differenceOf_0 x hT ?_)
  intro w0 e0
  have h0 : MB S w0 := e0 ▸ h.th
  have f0 : FM iv w0 := e0 ▸ FM.th
  unfold F_differenceOf
  rcases nOf_cases S x hv with ⟨hn, hx⟩ | ⟨s, i, hn, es, hi, rfl⟩
  · rw [hn]
    exact zcall (y_isN0 hT h0 hv hx) hT ⟨fun q => absurd rfl q, fun _ => zcall (y_refused hT) hT (YR.tr' rfl h0 f0)⟩
  · rw [hn]
    have ms := h0.2.1.2 s es
    have vs := hv.2.1 s es
    have vn := vs.1
    refine zcall (y_isN1 hT h0 hv es hi) hT ⟨fun _ => zcallQ (y_differs hT ms vs) ?_, fun q => absurd (show (1 : Int32) = 0 from q) (by decide)⟩
    rintro _ a _ _ ⟨rfl, rfl, rfl, g1, g2, g3⟩
    have a1 := (g1.2 0 (by omega)).2.1
    rw [Nat.add_zero] at a1
    rw [show (10 : Int32) = nI 10 from rfl, pk_mul, nI_clamp (show 10 * (s.1 - 1) < 2 ^ 31 by omega), a1]
    exact ⟨hT, vp_in_nI (by omega) (by decide), zcall (y_sideOf hT (dl_b vs).2.1 (by omega)) hT (zcall (y_good hT) hT (YR.fn rfl h0 f0 g3.fn))⟩
theorem y_step {d : Nat} {S : St} {x w : Int32} {iv : zI} {rv : zR} {lv : zJ} (hT : zTop rv) (h : MB S iv) (hv : VT S) : Ci mX11_step (d + 9) [.ref 174, .int x, .int w] iv rv lv (YR (F_step S x w).2 (F_step S x w).1 iv rv lv) := by
  refine eX11_step x w (bX11_step_0 x w hT ?_)
  intro w0 e0
  have h0 : MB S w0 := e0 ▸ h.th
  have f0 : FM iv w0 := e0 ▸ FM.th
  have no : ∃ Q1 : Int32 → zI → zR → zJ → Prop, Ci mX11_refused (d + 8) [.ref 174, .int 1] w0 rv lv Q1 ∧ ∀ (v : Int32) (a : zI) (b : zR) (c : zJ), Q1 v a b c → zTop b ∧ YR (rf S 1).2 (rf S 1).1 iv rv lv v a b c := zcall (y_refused hT) hT (YR.tr' rfl h0 f0)
  unfold F_step
  rw [h0.txt]
  cases e : S.2.1 with
  | none => exact ⟨fun _ => no, fun q => absurd rfl q⟩
  | some s =>
    have ms := h0.2.1.2 s e
    have vs := hv.2.1 s e
    have vn := vs.1
    have n1 : w0 176 0 = nI s.1 := ms.1
    refine ⟨fun q => absurd (show (1 : Int32) = 0 from q) (by decide), fun _ => zcall (y_in hT) hT ?_⟩
    have bad : (x < 0 ∨ nI (s.1 - 1) ≤ x) → decide (0 ≤ x ∧ x ≤ w0 176 0 - 2) = false := fun q => by
      simp only [decide_eq_false_iff_not]
      rintro ⟨z1, z2⟩
      rcases q with q | q
      · exact absurd z1 (Int32.not_le.mpr q)
      · rw [n1] at z2
        by_cases o : s.1 = 1
        · rw [o] at z2
          exact absurd (Int32.le_trans z1 z2) (by decide)
        · rw [z_2, pk_sub (by omega)] at z2
          exact absurd (Int32.le_trans q z2) (nI_ge (by omega) (by omega))
    rcases pk_ix x (show s.1 - 1 < 2 ^ 31 by omega) with q | q | ⟨j, hj, rfl⟩
    · rw [bad (Or.inl q)]
      simp only [q, true_or, if_true, ite_self]
      exact ⟨fun _ => no, fun z => absurd rfl z⟩
    · rw [bad (Or.inr q)]
      simp only [q, or_true, if_true, ite_self]
      exact ⟨fun _ => no, fun z => absurd rfl z⟩
    · have nn : ¬ (nI j < 0 ∨ nI (s.1 - 1) ≤ nI j) := fun z => z.elim (nI_pos (by omega)) (nI_ge hj (by omega))
      have good : decide (0 ≤ nI j ∧ nI j ≤ w0 176 0 - 2) = true := by
        simp only [decide_eq_true_eq]
        rw [n1, z_2, pk_sub (by omega)]
        exact ⟨nI_pos' (by omega), nI_le (by omega) (by omega)⟩
      rw [good]
      simp only [nn, if_false]
      refine ⟨fun z => absurd (show (1 : Int32) = 0 from z) (by decide), fun _ => zcall (y_in hT) hT ?_⟩
      by_cases hw : w < 0 ∨ 1 < w
      · rw [in_f hw]
        simp only [hw, if_true]
        exact ⟨fun z => absurd rfl z, fun _ => no⟩
      · rw [in_t (fun q => hw (Or.inl q)) (fun q => hw (Or.inr q))]
        simp only [hw, if_false]
        refine ⟨fun _ => zcallQ (y_differs hT ms vs) ?_, fun q => absurd (show (1 : Int32) = 0 from q) (by decide)⟩
        rintro _ a _ _ ⟨rfl, rfl, rfl, g1, g2, g3⟩
        rw [nI_clamp (show j < 2 ^ 31 by omega)]
        refine ⟨hT, fun _ => ⟨fun q => ?_, fun q => ?_⟩, fun z => absurd (nI_pos' (by omega)) z⟩
        · rw [if_neg q]
          exact ⟨vp_in_nI (by omega) (by decide), zcall (y_good hT) hT (YR.fn (g2 j hj).2 h0 f0 g3.fn)⟩
        · rw [if_pos q]
          exact ⟨vp_in_nI (by omega) (by decide), zcall (y_good hT) hT (YR.fn (g2 j hj).1 h0 f0 g3.fn)⟩
