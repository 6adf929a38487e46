theorem mk2_one {k i : Nat} {v : Nat → Nat} (hk : 2 ≤ k) (hv : 1 ≤ v i) : mk2 k (one v i) = one v i := by
  funext p
  unfold mk2 nrm
  rw [isr_id k (one_srt hv), isr_id k (one_srt hv), one_s (show k - 1 ≠ 0 by omega)]
  by_cases q : p < k
  · rw [if_pos q]
    by_cases z : p = 0
    · rw [z, one_0]
      rfl
    · rw [one_s z]
      rfl
  · rw [if_neg q, one_s (by omega)]
theorem y_multiplies {d k : Nat} {s : Sn} {iv : zI} {rv : zR} {lv : zJ} (hT : zTop rv) (ms : MS iv 176 0 s) (vs : VS s) (hk1 : 2 ≤ k) (hk : k ≤ 4) :
    Cv mX11_multiplies (d + 5) [.ref 174, .int (nI k)] iv rv lv (fun a b c' => b = rv ∧ c' = lv ∧ RQ a 1 (ml k s.2.2.1 s.1 (s.1 - 1)) ∧ FP iv a) := by
  have vn := vs.1
  have vv : ∀ i, i < s.1 → s.2.2.1 i ≤ 9999 := fun i hi => (vs.2.2.1 i hi).2
  have n1 : iv 176 0 = nI s.1 := ms.1
  refine eX11_multiplies _ (bX11_multiplies_0 _ hT ?_)
  intro w1 e1
  have main := zfor (c := s.1 - 1) (P := fun m => ∀ (x2 : Int32) (w : zI), RQ w (s.1 - m) (ml k s.2.2.1 s.1 m) → FP iv w → Zv mX11_multiplies (d + 5) 77 [some (.ref 174), some (.int (nI k)), some (.int x2), none] [] w rv lv (fun a b c' => b = rv ∧ c' = lv ∧ RQ a 1 (ml k s.2.2.1 s.1 (s.1 - 1)) ∧ FP iv a)) ?_ ?_
  rotate_left
  · intro x2 w h1 h2
    rw [show s.1 - (s.1 - 1) = 1 by omega] at h1
    refine bX11_multiplies_77 _ _ hT ?_
    rw [h1.1]
    exact ⟨fun _ => ⟨rfl, rfl, h1, h2⟩, fun z => absurd (by decide) z⟩
  · intro m hm ih x2 w h1 h2
    have mg := ml_MG (k := k) hk1 vn.2 vv m (by omega)
    have pb : 9999 * 2 ^ m ≤ 9999 * 2 ^ 9 := Nat.mul_le_mul_left _ (Nat.pow_le_pow_right (by omega) (by omega))
    have g0 := mg.2.1 0 (by omega)
    have g1 := mg.2.1 1 (by omega)
    have emj : ml k s.2.2.1 s.1 (m + 1) = mjn k (ml k s.2.2.1 s.1 m) (s.1 - m) := rfl
    generalize ml k s.2.2.1 s.1 m = g at h1 mg g0 g1 emj
    refine bX11_multiplies_77 _ _ hT ?_
    rw [h1.1]
    refine ⟨fun z => absurd z (show ¬ nI (s.1 - m) ≤ nI 1 from nI_ge (by omega) (by omega)), fun _ => ?_⟩
    -- shifting and placing
    have shf : ∀ w0 : zI, RP w0 194 195 k (rw2 k (g 0) (g 1)) → (∀ p, p ≠ 194 → p ≠ 195 → w0 p = w p) → Zv mX11_multiplies (d + 5) 151 [some (.ref 174), some (.int (nI k)), some (.int (nI 8)), none] [] w0 rv lv (fun a b c' => b = rv ∧ c' = lv ∧ RQ a 1 (ml k s.2.2.1 s.1 (s.1 - 1)) ∧ FP iv a) := by
      intro w0 k1 k2
      have key := zfor (c := 4 * (s.1 - m)) (P := fun q => 8 ≤ q → ∀ u : zI, (∀ r, r + 8 < q → u 192 r = w 192 (r + 8) ∧ u 193 r = w 193 (r + 8)) → (∀ r, q ≤ r + 8 → u 192 r = w 192 r ∧ u 193 r = w 193 r) → (∀ p, p ≠ 192 → p ≠ 193 → u p = w0 p) → Zv mX11_multiplies (d + 5) 151 [some (.ref 174), some (.int (nI k)), some (.int (nI q)), none] [] u rv lv (fun a b c' => b = rv ∧ c' = lv ∧ RQ a 1 (ml k s.2.2.1 s.1 (s.1 - 1)) ∧ FP iv a)) ?_ ?_
      · exact key 8 (by omega) (Nat.le_refl _) w0 (fun r hr => by omega) (fun r _ => by rw [k2 192 (by omega) (by omega), k2 193 (by omega) (by omega)]; exact ⟨rfl, rfl⟩) (fun _ _ _ => rfl)
      · intro _ u u1 u2 u3
        have c43 : u 174 43 = nI (s.1 - m) := by rw [u3 174 (by omega) (by omega), k2 174 (by omega) (by omega)]; exact h1.1
        refine bX11_multiplies_151 _ _ hT ?_
        rw [c43, z_4, pk_mul]
        refine ⟨fun _ u4 e4 => ?_, fun z => absurd (nI_le (by omega) (by omega)) z⟩
        rw [z_2, pk_sub (by omega)] at e4
        have hQ : RQ u4 (s.1 - m - 2) (fun j => g (j + 2)) := by
          refine ⟨by rw [e4, zu_eq], fun j hj p hp => ?_⟩
          rw [e4, zu_row (by omega), zu_row (by omega), (u1 (4 * j + p) (by omega)).1, (u1 (4 * j + p) (by omega)).2, show 4 * j + p + 8 = 4 * (j + 2) + p by omega]
          exact h1.2 (j + 2) (by omega) p hp
        have hP4 : RP u4 194 195 k (rw2 k (g 0) (g 1)) := k1.fr (by rw [e4, zu_row (by omega), u3 194 (by omega) (by omega)]) (by rw [e4, zu_row (by omega), u3 195 (by omega) (by omega)])
        have f4 : FP iv u4 := h2.trans ⟨fun p hp => by rw [e4, zu_row (by omega), u3 p (by omega) (by omega), k2 p (by omega) (by omega)], fun b hb => by rw [e4, zu_k hb, u3 174 (by omega) (by omega), k2 174 (by omega) (by omega)]⟩
        refine zcallV (y_places (d := d + 1) (B := 2 * (9999 * 2 ^ m)) hT hk1 hk (by omega) (by omega) hQ (fun j hj => IG_up (mg.2.1 (j + 2) (by omega)) (by omega)) hP4 (rw2_b g0 g1)) ?_
        rintro a rv1 lv1 ⟨q1, q2, d1, d2⟩
        have q1 := q1.symm
        have q2 := q2.symm
        subst q1 q2
        refine ⟨hT, ih _ a ?_ (f4.trans d2)⟩
        rw [emj, show s.1 - (m + 1) = s.1 - m - 2 + 1 by omega]
        exact d1
      · intro q hq ih2 hq8 u u1 u2 u3
        have c43 : u 174 43 = nI (s.1 - m) := by rw [u3 174 (by omega) (by omega), k2 174 (by omega) (by omega)]; exact h1.1
        refine bX11_multiplies_151 _ _ hT ?_
        rw [c43, z_4, pk_mul, show (8 : Int32) = nI 8 from rfl, pk_sub hq8, nI_clamp (show q < 2 ^ 31 by omega), nI_clamp (show q - 8 < 2 ^ 31 by omega), nI_1]
        refine ⟨fun z => absurd z (nI_ge hq (by omega)), fun _ => ⟨vp_in_nI (by omega) (by decide), vp_in_nI (by omega) (by decide), fun u4 e4 u5 e5 => ?_⟩⟩
        rw [(u2 q (by omega)).1] at e4
        rw [show u4 193 q = w 193 q by rw [e4, zu_row (by omega)]; exact (u2 q (by omega)).2] at e5
        refine ih2 (by omega) u5 (fun r hr => ?_) (fun r hr => ?_) (fun p p1 p2 => by rw [e5, zu_row p2, e4, zu_row p1]; exact u3 p p1 p2)
        · by_cases z : r = q - 8
          · rw [e5, z, zu_eq, zu_row (by omega), e4, zu_eq, show q - 8 + 8 = q by omega]
            exact ⟨rfl, rfl⟩
          · rw [e5, zu_row (by omega), e4, zu_k z, zu_k z, zu_row (by omega)]
            exact u1 r (by omega)
        · rw [e5, zu_row (by omega), e4, zu_k (by omega), zu_k (by omega), zu_row (by omega)]
          exact u2 r (by omega)
    -- the two as one
    have key := zfor (c := k) (P := fun p => ∀ u : zI, (∀ q, q < p → u 194 q = nI (rw2 k (g 0) (g 1) q).1 ∧ u 195 q = nI (rw2 k (g 0) (g 1) q).2.1) → (∀ p, p ≠ 194 → p ≠ 195 → u p = w p) → Zv mX11_multiplies (d + 5) 87 [some (.ref 174), some (.int (nI k)), some (.int (nI p)), none] [] u rv lv (fun a b c' => b = rv ∧ c' = lv ∧ RQ a 1 (ml k s.2.2.1 s.1 (s.1 - 1)) ∧ FP iv a)) ?_ ?_
    · exact key 0 (by omega) w (fun q hq => absurd hq (Nat.not_lt_zero _)) (fun _ _ _ => rfl)
    · intro u u1 u2
      exact bX11_multiplies_87 _ _ hT ⟨fun _ => shf u u1 u2, fun z => absurd (nI_le (by omega) (by omega)) z⟩
    · intro p hp ih2 u u1 u2
      have a0 := h1.2 0 (by omega) p (by omega)
      have a1 := h1.2 1 (by omega) (k - 1 - p) (by omega)
      rw [show 4 * 0 + p = p by omega] at a0
      rw [show 4 * 1 + (k - 1 - p) = 4 + k - 1 - p by omega] at a1
      refine bX11_multiplies_87 _ _ hT ⟨fun z => absurd z (nI_ge hp (by omega)), fun _ => ?_⟩
      rw [nI_1, z_4, nI_add, z_1, pk_sub (show 1 ≤ 4 + k by omega), pk_sub (show p ≤ 4 + k - 1 by omega), nI_clamp (show p < 2 ^ 31 by omega), nI_clamp (show 4 + k - 1 - p < 2 ^ 31 by omega)]
      refine ⟨vp_in_nI (by omega) (by decide), vp_in_nI (by omega) (by decide), vp_in_nI (by omega) (by decide), fun u4 e4 u5 e5 => ?_⟩
      rw [u2 192 (by omega) (by omega), a0.1, a1.1, nI_add] at e4
      rw [show u4 193 p = nI (g 0 p).2.1 by rw [e4, zu_row (by omega), u2 193 (by omega) (by omega)]; exact a0.2, show u4 193 (4 + k - 1 - p) = nI (g 1 (k - 1 - p)).2.1 by rw [e4, zu_row (by omega), u2 193 (by omega) (by omega)]; exact a1.2, bI_or] at e5
      refine ih2 u5 (fun q hq => ?_) (fun r r1 r2 => by rw [e5, zu_row r2, e4, zu_row r1]; exact u2 r r1 r2)
      by_cases z : q = p
      · refine ⟨?_, ?_⟩
        · rw [e5, zu_row (by omega), e4, z, zu_eq]
          rfl
        · rw [e5, z, zu_eq]
          rfl
      · refine ⟨?_, ?_⟩
        · rw [e5, zu_row (by omega), e4, zu_k z]; exact (u1 q (by omega)).1
        · rw [e5, zu_k z, e4, zu_row (by omega)]; exact (u1 q (by omega)).2
  -- each number an item
  have fill := zfor (c := s.1) (P := fun i => ∀ w : zI, RQ w i (mtk k s.2.2.1 i) → FP iv w → Zv mX11_multiplies (d + 5) 7 [some (.ref 174), some (.int (nI k)), some (.int (nI i)), none] [] w rv lv (fun a b c' => b = rv ∧ c' = lv ∧ RQ a 1 (ml k s.2.2.1 s.1 (s.1 - 1)) ∧ FP iv a)) ?_ ?_
  · exact fill 0 (by omega) w1 ⟨by rw [e1, zu_eq]; rfl, fun j hj => absurd hj (Nat.not_lt_zero _)⟩ ⟨fun p hp => by rw [e1, zu_row (by omega)], fun b hb => by rw [e1, zu_k hb]⟩
  · intro w h1 h2
    refine bX11_multiplies_7 _ _ hT ⟨fun _ => main 0 (by omega) _ w h1 h2, fun z => absurd (by rw [h2.1 176 (by omega), n1]; exact nI_le (by omega) (by omega)) z⟩
  · intro i hi ih w h1 h2
    refine bX11_multiplies_7 _ _ hT ⟨fun z => absurd z (by rw [h2.1 176 (by omega), n1]; exact nI_ge hi (by omega)), fun _ => ?_⟩
    have v1 := vs.2.2.1 i hi
    have key := zfor (c := k) (P := fun p => ∀ u : zI, (∀ q, q < p → u 194 q = nI (one s.2.2.1 i q).1 ∧ u 195 q = nI (one s.2.2.1 i q).2.1) → (∀ p, p ≠ 194 → p ≠ 195 → u p = w p) → Zv mX11_multiplies (d + 5) 19 [some (.ref 174), some (.int (nI k)), some (.int (nI i)), some (.int (nI p))] [] u rv lv (fun a b c' => b = rv ∧ c' = lv ∧ RQ a 1 (ml k s.2.2.1 s.1 (s.1 - 1)) ∧ FP iv a)) ?_ ?_
    · exact key 0 (by omega) w (fun q hq => absurd hq (Nat.not_lt_zero _)) (fun _ _ _ => rfl)
    · intro u u1 u2
      refine bX11_multiplies_19 _ _ _ hT ⟨fun _ => ?_, fun z => absurd (nI_le (by omega) (by omega)) z⟩
      have hQ : RQ u i (mtk k s.2.2.1 i) := by
        unfold RQ
        rw [u2 174 (by omega) (by omega), u2 192 (by omega) (by omega), u2 193 (by omega) (by omega)]
        exact h1
      have og := one_IG (k := k) (i := i) (v := s.2.2.1) hk1 (by omega) v1.2
      refine zcallV (y_places (d := d + 1) (f := one s.2.2.1 i) (B := 9999) hT hk1 hk (by omega) (by omega) hQ (mtk_MG hk1 (by omega) (fun j hj => vv j (by omega))).2.1 u1 og.1) ?_
      rintro a rv1 lv1 ⟨q1, q2, d1, d2⟩
      have q1 := q1.symm
      have q2 := q2.symm
      subst q1 q2
      rw [mk2_one hk1 v1.1] at d1
      rw [nI_1]
      exact ⟨hT, ih a d1 ((h2.trans (FP.of (fun p hp => u2 p (by omega) (by omega)))).trans d2)⟩
    · intro p hp ih2 u u1 u2
      have st : ∀ y : Int32, y = nI (one s.2.2.1 i p).1 → Zv mX11_multiplies (d + 5) 42 [some (.ref 174), some (.int (nI k)), some (.int (nI i)), some (.int (nI p))] [.int y, .int (nI p), .ref 194] u rv lv (fun a b c' => b = rv ∧ c' = lv ∧ RQ a 1 (ml k s.2.2.1 s.1 (s.1 - 1)) ∧ FP iv a) := by
        intro y ey
        refine bX11_multiplies_42 _ _ _ _ _ 194 4 hT (by decide) (by decide) ?_
        rw [nI_clamp (show p < 2 ^ 31 by omega), nI_1]
        refine ⟨vp_in_nI (by omega) (by decide), fun y1 f1 => ?_⟩
        have fin : ∀ y2 : zI, y2 = zu y1 195 p (nI (one s.2.2.1 i p).2.1) → Zv mX11_multiplies (d + 5) 19 [some (.ref 174), some (.int (nI k)), some (.int (nI i)), some (.int (nI (p + 1)))] [] y2 rv lv (fun a b c' => b = rv ∧ c' = lv ∧ RQ a 1 (ml k s.2.2.1 s.1 (s.1 - 1)) ∧ FP iv a) := by
          intro y2 f2
          refine ih2 y2 (fun q hq => ?_) (fun q q1 q2 => by rw [f2, zu_row q2, f1, zu_row q1]; exact u2 q q1 q2)
          by_cases z : q = p
          · refine ⟨?_, ?_⟩
            · rw [f2, zu_row (by omega), f1, z, zu_eq]; exact ey
            · rw [f2, z, zu_eq]
          · refine ⟨?_, ?_⟩
            · rw [f2, zu_row (by omega), f1, zu_k z]; exact (u1 q (by omega)).1
            · rw [f2, zu_k z, f1, zu_row (by omega)]; exact (u1 q (by omega)).2
        refine ⟨fun z => ⟨vp_in_nI (by omega) (by decide), fun y2 f2 => fin y2 ?_⟩, fun z => ⟨vp_in_nI (by omega) (by decide), fun y2 f2 => fin y2 ?_⟩⟩
        · rw [f2, one_s (fun q => z (by rw [q]; rfl))]
          rfl
        · have z : p = 0 := by rw [z_0, nI_eq (by omega) (by omega)] at z; exact z
          rw [f2, z, one_0, bI_1shl (by omega)]
      refine bX11_multiplies_19 _ _ _ hT ⟨fun z => absurd z (nI_ge hp (by omega)), fun _ => ⟨fun z => st 0 ?_, fun z => zcall (y_value (n := s.1) (v := s.2.2.1) hT (fun q hq => by rw [u2 176 (by omega) (by omega), h2.1 176 (by omega)]; exact ms.vals q hq) vn.2 hi) hT (st _ ?_)⟩⟩
      · rw [one_s (fun q => z (by rw [q]; rfl))]
        rfl
      · have z : p = 0 := by rw [z_0, nI_eq (by omega) (by omega)] at z; exact z
        rw [z, one_0]
theorem y_multi {d : Nat} {S : St} {k : Int32} {iv : zI} {rv : zR} {lv : zJ} (hT : zTop rv) (h : MB S iv) (hv : VT S) : Ci mX11_multi (d + 9) [.ref 174, .int k] iv rv lv (YR (F_multi S k).2 (F_multi S k).1 iv rv lv) := by
  refine eX11_multi k (bX11_multi_0 k hT ?_)
  intro w0 e0
  have h0 : MB S w0 := e0 ▸ h.th
  have f0 : FM iv w0 := e0 ▸ FM.th
  unfold F_multi
  rw [h0.txt]
  cases e : S.2.1 with
  | none => exact ⟨fun q => absurd rfl q, fun _ => zcall (y_refused hT) hT (YR.tr' rfl h0 f0)⟩
  | some s =>
    have ms := h0.2.1.2 s e
    have vs := hv.2.1 s e
    have vn := vs.1
    refine ⟨fun _ => zcall (y_isK hT) hT ?_, fun q => absurd (show (1 : Int32) = 0 from q) (by decide)⟩
    by_cases hx : k < 2 ∨ 4 < k
    · rw [in_f hx]
      simp only [hx, if_true]
      exact ⟨fun q => absurd rfl q, fun _ => zcall (y_refused hT) hT (YR.tr' rfl h0 f0)⟩
    · rw [in_t (fun q => hx (Or.inl q)) (fun q => hx (Or.inr q))]
      simp only [hx, if_false]
      obtain ⟨j, j1, j2, rfl⟩ := of_k hx
      refine ⟨fun _ => zcallV (y_multiplies (d := d + 3) hT ms vs j1 j2) ?_, fun q => absurd (show (1 : Int32) = 0 from q) (by decide)⟩
      rintro a _ _ ⟨rfl, rfl, g2, g3⟩
      rw [nI_clamp (by omega)]
      have mg := ml_MG (k := j) j1 vn.2 (fun i hi => (vs.2.2.1 i hi).2) (s.1 - 1) (by omega)
      exact ⟨hT, zcall (y_width (j := 0) (c := 1) hT (by omega) (by omega) j1 j2 (g2.2 0 (by omega)) (mg.2.1 0 (by omega))) hT (zcall (y_good hT) hT (YR.fn rfl h0 f0 g3.fn))⟩
theorem y_multiOf {d : Nat} {S : St} {k x : Int32} {iv : zI} {rv : zR} {lv : zJ} (hT : zTop rv) (h : MB S iv) (hv : VT S) : Ci mX11_multiOf (d + 9) [.ref 174, .int k, .int x] iv rv lv (YR (F_multiOf S k x).2 (F_multiOf S k x).1 iv rv lv) := by
  refine eX11_multiOf k x (bX11_multiOf_0 k x hT ?_)
  intro w0 e0
  have h0 : MB S w0 := e0 ▸ h.th
  have f0 : FM iv w0 := e0 ▸ FM.th
  unfold F_multiOf
  rcases nOf_cases S x hv with ⟨hn, hx⟩ | ⟨s, i, hn, es, hi, rfl⟩
  · rw [hn]
    exact zcall (y_isN0 hT h0 hv hx) hT ⟨fun q => absurd rfl q, fun _ => zcall (y_refused hT) hT (YR.tr' rfl h0 f0)⟩
  · rw [hn]
    have ms := h0.2.1.2 s es
    have vs := hv.2.1 s es
    have vn := vs.1
    simp only
    refine zcall (y_isN1 hT h0 hv es hi) hT ⟨fun _ => zcall (y_isK hT) hT ?_, fun q => absurd (show (1 : Int32) = 0 from q) (by decide)⟩
    by_cases hx : k < 2 ∨ 4 < k
    · rw [in_f hx]
      simp only [hx, if_true]
      exact ⟨fun q => absurd rfl q, fun _ => zcall (y_refused hT) hT (YR.tr' rfl h0 f0)⟩
    · rw [in_t (fun q => hx (Or.inl q)) (fun q => hx (Or.inr q))]
      simp only [hx, if_false]
      obtain ⟨j, j1, j2, rfl⟩ := of_k hx
      refine ⟨fun _ => zcallV (y_multiplies (d := d + 3) hT ms vs j1 j2) ?_, fun q => absurd (show (1 : Int32) = 0 from q) (by decide)⟩
      rintro a rv1 lv1 ⟨q1, q2, g2, g3⟩
      have q1 := q1.symm
      have q2 := q2.symm
      subst q1 q2
      rw [nI_clamp (show j < 2 ^ 31 by omega)]
      have mg := ml_MG (k := j) j1 vn.2 (fun i hi => (vs.2.2.1 i hi).2) (s.1 - 1) (by omega)
      have hh : hb j i (ml j s.2.2.1 s.1 (s.1 - 1) 0) := by
        obtain ⟨a, ha, z⟩ := mg.2.2.1 i hi
        rw [show a = 0 by omega] at z
        exact z
      obtain ⟨p1, p2, p3⟩ := hp_ok hh
      have g0 := mg.2.1 0 (by omega)
      have r0 := g2.2 0 (by omega)
      generalize ml j s.2.2.1 s.1 (s.1 - 1) 0 = f at *
      refine ⟨hT, ?_⟩
      have key := zfor (c := hp j f i) (P := fun p => Zi mX11_multiOf (d + 9) 39 [some (.ref 174), some (.int (nI j)), some (.int (nI i)), some (.int (nI p))] [] a rv lv (YR (ok S (nI (hp j f i))).2 (ok S (nI (hp j f i))).1 iv rv lv)) ?_ ?_
      · exact key 0 (by omega)
      · have c := (r0 (hp j f i) (by omega)).2
        have b := (g0.1 _ p1).2.1
        rw [show 4 * 0 + hp j f i = hp j f i by omega] at c
        refine bX11_multiOf_39 _ _ _ hT ?_
        rw [nI_clamp (show hp j f i < 2 ^ 31 by omega), c]
        refine ⟨vp_in_nI (by omega) (by decide), zcall (y_has hT (by omega) (by omega)) hT ?_⟩
        rw [p2]
        exact ⟨fun _ => zcall (y_good hT) hT (YR.fn rfl h0 f0 g3.fn), fun z => absurd (show (1 : Int32) = 0 from z) (by decide)⟩
      · intro p hp ih
        have c := (r0 p (by omega)).2
        have b := (g0.1 p (by omega)).2.1
        rw [show 4 * 0 + p = p by omega] at c
        refine bX11_multiOf_39 _ _ _ hT ?_
        rw [nI_clamp (show p < 2 ^ 31 by omega), c, nI_1]
        refine ⟨vp_in_nI (by omega) (by decide), zcall (y_has hT (by omega) (by omega)) hT ?_⟩
        rw [p3 p hp]
        exact ⟨fun z => absurd rfl z, fun _ => ih⟩
