/-! THE REFERENCE: undo, image, back, about. -/
/-- MB, each part by what it reads -/
theorem MB.mk' {S : St} {iv : zI} (h1 : iv 174 4 = nI S.1.1 ∧ ∀ j, j < S.1.1 → iv 175 j = nI (S.1.2 j)) (h2 : iv 174 19 = bI S.2.1.isSome ∧ ∀ s, S.2.1 = some s → MS iv 176 0 s) (h3 : HM iv S.2.2.1) (h4 : ∀ i, i < 2 → iv 180 i = bI (S.2.2.2.1 i).isSome ∧ ∀ s, S.2.2.2.1 i = some s → MS iv 179 (35 * i) s) (h5 : iv 174 7 = nI S.2.2.2.2.1.1 ∧ iv 174 2 = S.2.2.2.2.1.2.1 ∧ iv 174 1 = nI S.2.2.2.2.1.2.2) (h6 : iv 174 51 = nI S.2.2.2.2.2.1.length ∧ ∀ j, j < S.2.2.2.2.2.1.length → iv 198 j = nI (S.2.2.2.2.2.1.getD j 0)) : MB S iv := ⟨h1, h2, h3, h4, h5, h6⟩
theorem y_undo {d : Nat} {S : St} {iv : zI} {rv : zR} {lv : zJ} (hT : zTop rv) (h : MB S iv) (hv : VT S) : Ci mX11_undo (d + 9) [.ref 174] iv rv lv (YR (F_undo S).2 (F_undo S).1 iv rv lv) := by
  refine eX11_undo (bX11_undo_0 hT ?_)
  intro w0 e0
  have h0 : MB S w0 := e0 ▸ h.th
  have f0 : FM iv w0 := e0 ▸ FM.th
  unfold F_undo
  rw [h0.txt]
  have hh := h0.hm
  have hl := hv.2.2.1
  cases e : S.2.1 with
  | none => exact ⟨fun q => absurd rfl q, fun _ => zcall (y_refused hT) hT (YR.tr' rfl h0 f0)⟩
  | some s =>
    refine ⟨fun _ => ?_, fun q => absurd (show (1 : Int32) = 0 from q) (by decide)⟩
    cases eh : S.2.2.1 with
    | nil =>
      rw [eh] at hh
      rw [hh.1]
      exact ⟨fun q => absurd rfl q, fun _ => zcall (y_refused hT) hT (YR.tr' rfl h0 f0)⟩
    | cons s1 t =>
      rw [eh] at hh hl
      have hl1 : (s1 :: t).length = t.length + 1 := rfl
      have vs1 := hl.2 s1 List.mem_cons_self
      have ht : t.length < 10 := by have := hl.1; rw [hl1] at this; omega
      rw [hh.1, hl1]
      refine ⟨fun _ w1 e1 => ?_, fun q => absurd q (nI_ne0 (by omega) (by omega))⟩
      rw [nI_pred] at e1
      have c21 : w1 174 21 = nI t.length := by rw [e1, zu_eq]
      have key := zfor (c := 35) (P := fun j => ∀ w : zI, (∀ k, k < j → w 176 k = w0 178 (35 * t.length + k)) → (∀ a, a ≠ 176 → w a = w1 a) → Zi mX11_undo (d + 9) 43 [some (.ref 174), some (.int (nI j))] [] w rv lv (YR (S.1, some s1, t, S.2.2.2.1, (S.2.2.2.2.1.1, -1, 0), S.2.2.2.2.2.1, S.2.2.2.2.2.2 + 1) (nI t.length) iv rv lv)) ?_ ?_
      · exact key 0 (by omega) w1 (fun k hk => absurd hk (Nat.not_lt_zero _)) (fun _ _ => rfl)
      · intro w g1 g2
        refine bX11_undo_43 _ hT ⟨fun _ => zcall (y_good hT) hT ?_, fun z => absurd (by decide) z⟩
        have r : ∀ a, a ≠ 174 → a ≠ 176 → zu (zu w 174 1 0) 174 2 (-1) a = w0 a := fun a a1 a2 => by rw [zu_row a1, zu_row a1, g2 a a2, e1, zu_row a1]
        have r6 : zu (zu w 174 1 0) 174 2 (-1) 176 = w 176 := by rw [zu_row (by omega), zu_row (by omega)]
        have k : ∀ b, b ≠ 1 → b ≠ 2 → b ≠ 21 → zu (zu w 174 1 0) 174 2 (-1) 174 b = w0 174 b := fun b b1 b2 b3 => by rw [zu_k b2, zu_k b1, g2 174 (by omega), e1, zu_k b3]
        obtain ⟨q1, q2, q3, q4, q5, q6⟩ := h0
        refine ⟨by rw [g2 174 (by omega)]; exact c21, rfl, rfl, MB.mk' ?_ ⟨?_, fun s' es' => ?_⟩ ⟨?_, fun j hj => ?_⟩ (fun i hi => ⟨?_, fun s' es' => ?_⟩) ⟨?_, zu_eq, ?_⟩ ?_, fun a ha => ?_⟩
        · rw [k 4 (by decide) (by decide) (by decide), r 175 (by omega) (by omega)]; exact q1
        · rw [k 19 (by decide) (by decide) (by decide), q2.1, e]; rfl
        · have es' : some s1 = some s' := es'
          cases es'
          have m := hh.2 0 (by rw [hl1]; omega)
          refine m.copy vs1.1.2 vs1.2.2.2.2.2 (fun j hj => ?_)
          rw [r6, Nat.zero_add, g1 j hj]
          rfl
        · rw [zu_k (by decide), zu_k (by decide), g2 174 (by omega)]; exact c21
        · have hj : j < t.length := hj
          have m := hh.2 (j + 1) (by rw [hl1]; omega)
          rw [hl1, show t.length + 1 - 1 - (j + 1) = t.length - 1 - j by omega] at m
          unfold MS at m ⊢
          rw [r 178 (by omega) (by omega)]
          exact m
        · rw [r 180 (by omega) (by omega)]; exact (q4 i hi).1
        · have m := (q4 i hi).2 s' es'
          unfold MS at m ⊢
          rw [r 179 (by omega) (by omega)]
          exact m
        · rw [k 7 (by decide) (by decide) (by decide)]; exact q5.1
        · rw [zu_k (by decide), zu_eq]; rfl
        · rw [k 51 (by decide) (by decide) (by decide), r 198 (by omega) (by omega)]; exact q6
        · rw [r a (by omega) (by omega)]; exact f0 a ha
      · intro j hj ih w g1 g2
        refine bX11_undo_43 _ hT ⟨fun z => absurd z (show ¬ nI 35 ≤ nI j from nI_ge hj (by omega)), fun _ => ?_⟩
        rw [g2 174 (by omega), c21, z_35, pk_mul, nI_add, nI_clamp (show t.length * 35 + j < 2 ^ 31 by omega), nI_clamp (show j < 2 ^ 31 by omega), nI_1]
        refine ⟨vp_in_nI (by omega) (by decide), vp_in_nI hj (by decide), fun w2 e2 => ?_⟩
        subst e2
        refine ih _ (fun k hk => ?_) (fun a ha => by rw [zu_row ha]; exact g2 a ha)
        by_cases c : k = j
        · rw [c, zu_eq, g2 178 (by omega), e1, zu_row (by omega)]
          congr 1
          omega
        · rw [zu_k c]; exact g1 k (by omega)
theorem y_image {d : Nat} {S : St} {x : Int32} {iv : zI} {rv : zR} {lv : zJ} (hT : zTop rv) (h : MB S iv) (hv : VT S) : Ci mX11_image (d + 9) [.ref 174, .int x] iv rv lv (YR (F_image S x).2 (F_image S x).1 iv rv lv) := by
  refine eX11_image x (bX11_image_0 x hT ?_)
  intro w0 e0
  have h0 : MB S w0 := e0 ▸ h.th
  have f0 : FM iv w0 := e0 ▸ FM.th
  unfold F_image
  rw [h0.txt]
  cases e : S.2.1 with
  | none => exact ⟨fun _ => zcall (y_granted (t := 1) (by omega) hT) hT ⟨Or.inl rfl, YR.tr' rfl h0 f0⟩, fun q => absurd rfl q⟩
  | some s =>
    have ms := h0.2.1.2 s e
    have vs := hv.2.1 s e
    refine ⟨fun q => absurd (show (1 : Int32) = 0 from q) (by decide), fun _ => zcall (y_in hT) hT ?_⟩
    by_cases hx : x < 0 ∨ 2 ≤ x
    · rw [in_f (hx.elim Or.inl (fun q => Or.inr (Int32.lt_of_lt_of_le (show (1 : Int32) < 2 by decide) q)))]
      simp only [hx, if_true]
      exact ⟨fun q => absurd rfl q, fun _ => zcall (y_granted (t := 1) (by omega) hT) hT ⟨Or.inl rfl, YR.tr' rfl h0 f0⟩⟩
    · obtain ⟨i, hi, rfl⟩ := of_i hx
      rw [in_t (b := 1) (nI_pos (by omega)) (show ¬ nI 1 < nI i from Int32.not_lt.mpr (nI_le (by omega) (by omega)))]
      simp only [hx, if_false]
      refine ⟨fun _ => ?_, fun q => absurd (show (1 : Int32) = 0 from q) (by decide)⟩
      rw [nI_clamp (by omega)]
      have key := zfor (c := 35) (P := fun j => ∀ w : zI, (∀ k, k < j → w 179 (35 * i + k) = w0 176 k) → (∀ k, k < 35 * i ∨ 35 * i + 35 ≤ k → w 179 k = w0 179 k) → (∀ a, a ≠ 179 → w a = w0 a) → Zi mX11_image (d + 9) 29 [some (.ref 174), some (.int (nI i)), some (.int (nI j))] [] w rv lv (YR (S.1, S.2.1, S.2.2.1, (fun q => if q = i then some s else S.2.2.2.1 q), (S.2.2.2.2.1.1, -1, 0), S.2.2.2.2.2) 1 iv rv lv)) ?_ ?_
      · have := key 0 (by omega) w0 (fun k hk => absurd hk (Nat.not_lt_zero _)) (fun _ _ => rfl) (fun _ _ => rfl)
        rw [e] at this
        exact this
      · intro w g1 g2 g3
        refine bX11_image_29 _ _ hT ⟨fun _ => ?_, fun z => absurd (by decide) z⟩
        rw [nI_clamp (by omega)]
        refine ⟨vp_in_nI (by omega) (by decide), fun w1 e1 => zcall (y_granted (t := 0) (by omega) hT) hT ⟨Or.inr rfl, rfl, rfl, rfl, ?_⟩⟩
        have r : ∀ a, a ≠ 174 → a ≠ 179 → a ≠ 180 → zu (zu w1 174 1 (nI 0)) 174 2 (-1) a = w0 a := fun a a1 a2 a3 => by rw [zu_row a1, zu_row a1, e1, zu_row a3, g3 a a2]
        have r9 : zu (zu w1 174 1 (nI 0)) 174 2 (-1) 179 = w 179 := by rw [zu_row (by omega), zu_row (by omega), e1, zu_row (by omega)]
        have r8 : ∀ b, zu (zu w1 174 1 (nI 0)) 174 2 (-1) 180 b = if b = i then 1 else w0 180 b := fun b => by
          rw [zu_row (by omega), zu_row (by omega), e1]
          by_cases c : b = i
          · rw [c, zu_eq, if_pos rfl]; rfl
          · rw [zu_k c, if_neg c, g3 180 (by omega)]
        have k : ∀ b, b ≠ 1 → b ≠ 2 → zu (zu w1 174 1 (nI 0)) 174 2 (-1) 174 b = w0 174 b := fun b b1 b2 => by rw [zu_k b2, zu_k b1, e1, zu_row (by omega), g3 174 (by omega)]
        obtain ⟨q1, q2, q3, q4, q5, q6⟩ := h0
        refine ⟨MB.mk' ?_ ⟨?_, fun s' es' => ?_⟩ ⟨?_, fun j hj => ?_⟩ (fun t ht => ?_) ⟨?_, zu_eq, ?_⟩ ?_, fun a ha => ?_⟩
        · rw [k 4 (by decide) (by decide), r 175 (by omega) (by omega) (by omega)]; exact q1
        · rw [k 19 (by decide) (by decide)]; exact q2.1
        · have m := q2.2 s' es'
          unfold MS at m ⊢
          rw [r 176 (by omega) (by omega) (by omega)]
          exact m
        · rw [k 21 (by decide) (by decide)]; exact q3.1
        · have m := q3.2 j hj
          unfold MS at m ⊢
          rw [r 178 (by omega) (by omega) (by omega)]
          exact m
        · rw [r8]
          by_cases c : t = i
          · subst c
            simp only [if_true]
            refine ⟨rfl, fun s' es' => ?_⟩
            have es' : some s = some s' := es'
            cases es'
            refine ms.copy vs.1.2 vs.2.2.2.2.2 (fun j hj => ?_)
            rw [r9, g1 j hj, Nat.zero_add]
          · simp only [c, if_false]
            refine ⟨(q4 t ht).1, fun s' es' => ?_⟩
            have vs' := hv.2.2.2.1 t s' es'
            refine ((q4 t ht).2 s' es').copy vs'.1.2 vs'.2.2.2.2.2 (fun j hj => ?_)
            rw [r9, g2 _ (by omega)]
        · rw [k 7 (by decide) (by decide)]; exact q5.1
        · rw [zu_k (by decide), zu_eq]
        · rw [k 51 (by decide) (by decide), r 198 (by omega) (by omega) (by omega)]; exact q6
        · rw [r a (by omega) (by omega) (by omega)]; exact f0 a ha
      · intro j hj ih w g1 g2 g3
        refine bX11_image_29 _ _ hT ⟨fun z => absurd z (show ¬ nI 35 ≤ nI j from nI_ge hj (by omega)), fun _ => ?_⟩
        rw [z_35, pk_mul, nI_add, nI_clamp (show 35 * i + j < 2 ^ 31 by omega), nI_clamp (show j < 2 ^ 31 by omega), nI_1]
        refine ⟨vp_in_nI hj (by decide), vp_in_nI (by omega) (by decide), fun w2 e2 => ?_⟩
        subst e2
        refine ih _ (fun k hk => ?_) (fun k hk => ?_) (fun a ha => by rw [zu_row ha]; exact g3 a ha)
        · by_cases c : k = j
          · rw [c, zu_eq, g3 176 (by omega)]
          · rw [zu_k (by omega)]; exact g1 k (by omega)
        · rw [zu_k (by omega)]; exact g2 k hk
theorem y_back {d : Nat} {S : St} {x : Int32} {iv : zI} {rv : zR} {lv : zJ} (hT : zTop rv) (h : MB S iv) (hv : VT S) : Ci mX11_back (d + 9) [.ref 174, .int x] iv rv lv (YR (F_back S x).2 (F_back S x).1 iv rv lv) := by
  refine eX11_back x (bX11_back_0 x hT ?_)
  intro w0 e0
  have h0 : MB S w0 := e0 ▸ h.th
  have f0 : FM iv w0 := e0 ▸ FM.th
  unfold F_back
  rw [h0.txt]
  have ref : YR (sT S 1) 0 iv rv lv 0 (zu (zu w0 174 1 (nI 1)) 174 2 (-1)) rv lv := YR.tr' rfl h0 f0
  cases e : S.2.1 with
  | none =>
    have hi := (hv.2.2.2.2.1 e).2
    refine ⟨fun _ => zcall (y_granted (t := 1) (by omega) hT) hT ⟨Or.inl rfl, ?_⟩, fun q => absurd rfl q⟩
    by_cases hx : x < 0 ∨ 2 ≤ x
    · simp only [hx, if_true]
      exact ref
    · simp only [hx, if_false, hi]
      exact ref
  | some s =>
    refine ⟨fun q => absurd (show (1 : Int32) = 0 from q) (by decide), fun _ => zcall (y_in hT) hT ?_⟩
    by_cases hx : x < 0 ∨ 2 ≤ x
    · rw [in_f (hx.elim Or.inl (fun q => Or.inr (Int32.lt_of_lt_of_le (show (1 : Int32) < 2 by decide) q)))]
      simp only [hx, if_true]
      exact ⟨fun _ => zcall (y_granted (t := 1) (by omega) hT) hT ⟨Or.inl rfl, ref⟩, fun q => absurd rfl q⟩
    · obtain ⟨i, hi, rfl⟩ := of_i hx
      rw [in_t (b := 1) (nI_pos (by omega)) (show ¬ nI 1 < nI i from Int32.not_lt.mpr (nI_le (by omega) (by omega)))]
      simp only [hx, if_false]
      refine ⟨fun q => absurd (show (1 : Int32) = 0 from q) (by decide), fun _ => ?_⟩
      rw [nI_clamp (by omega)]
      refine ⟨vp_in_nI (by omega) (by decide), ?_⟩
      rw [(h0.2.2.2.1 i hi).1]
      cases ei : S.2.2.2.1 i with
      | none => exact ⟨fun q => absurd rfl q, fun _ => zcall (y_granted (t := 1) (by omega) hT) hT ⟨Or.inl rfl, ref⟩⟩
      | some s1 =>
        have ms := (h0.2.2.2.1 i hi).2 s1 ei
        have vs := hv.2.2.2.1 i s1 ei
        refine ⟨fun _ => ?_, fun q => absurd (show (1 : Int32) = 0 from q) (by decide)⟩
        have key := zfor (c := 35) (P := fun j => ∀ w : zI, (∀ k, k < j → w 176 k = w0 179 (35 * i + k)) → (∀ a, a ≠ 176 → w a = w0 a) → Zi mX11_back (d + 9) 38 [some (.ref 174), some (.int (nI i)), some (.int (nI j))] [] w rv lv (YR (S.1, some s1, [], S.2.2.2.1, (S.2.2.2.2.1.1, -1, 0), S.2.2.2.2.2.1, S.2.2.2.2.2.2 + 1) 1 iv rv lv)) ?_ ?_
        · exact key 0 (by omega) w0 (fun k hk => absurd hk (Nat.not_lt_zero _)) (fun _ _ => rfl)
        · intro w g1 g2
          refine bX11_back_38 _ _ hT ⟨fun _ w1 e1 => zcall (y_granted (t := 0) (by omega) hT) hT ⟨Or.inr rfl, rfl, rfl, rfl, ?_⟩, fun z => absurd (by decide) z⟩
          have r : ∀ a, a ≠ 174 → a ≠ 176 → zu (zu w1 174 1 (nI 0)) 174 2 (-1) a = w0 a := fun a a1 a2 => by rw [zu_row a1, zu_row a1, e1, zu_row a1, g2 a a2]
          have r6 : zu (zu w1 174 1 (nI 0)) 174 2 (-1) 176 = w 176 := by rw [zu_row (by omega), zu_row (by omega), e1, zu_row (by omega)]
          have k : ∀ b, b ≠ 1 → b ≠ 2 → b ≠ 21 → zu (zu w1 174 1 (nI 0)) 174 2 (-1) 174 b = w0 174 b := fun b b1 b2 b3 => by rw [zu_k b2, zu_k b1, e1, zu_k b3, g2 174 (by omega)]
          obtain ⟨q1, q2, q3, q4, q5, q6⟩ := h0
          refine ⟨MB.mk' ?_ ⟨?_, fun s' es' => ?_⟩ ⟨?_, fun j hj => absurd hj (Nat.not_lt_zero _)⟩ (fun t ht => ⟨?_, fun s' es' => ?_⟩) ⟨?_, zu_eq, ?_⟩ ?_, fun a ha => ?_⟩
          · rw [k 4 (by decide) (by decide) (by decide), r 175 (by omega) (by omega)]; exact q1
          · rw [k 19 (by decide) (by decide) (by decide), q2.1, e]; rfl
          · have es' : some s1 = some s' := es'
            cases es'
            refine ms.copy vs.1.2 vs.2.2.2.2.2 (fun j hj => ?_)
            rw [r6, Nat.zero_add, g1 j hj]
          · rw [zu_k (by decide), zu_k (by decide), e1, zu_eq]; rfl
          · rw [r 180 (by omega) (by omega)]; exact (q4 t ht).1
          · have m := (q4 t ht).2 s' es'
            unfold MS at m ⊢
            rw [r 179 (by omega) (by omega)]
            exact m
          · rw [k 7 (by decide) (by decide) (by decide)]; exact q5.1
          · rw [zu_k (by decide), zu_eq]
          · rw [k 51 (by decide) (by decide) (by decide), r 198 (by omega) (by omega)]; exact q6
          · rw [r a (by omega) (by omega)]; exact f0 a ha
        · intro j hj ih w g1 g2
          refine bX11_back_38 _ _ hT ⟨fun z => absurd z (show ¬ nI 35 ≤ nI j from nI_ge hj (by omega)), fun _ => ?_⟩
          rw [z_35, pk_mul, nI_add, nI_clamp (show 35 * i + j < 2 ^ 31 by omega), nI_clamp (show j < 2 ^ 31 by omega), nI_1]
          refine ⟨vp_in_nI (by omega) (by decide), vp_in_nI hj (by decide), fun w2 e2 => ?_⟩
          subst e2
          refine ih _ (fun k hk => ?_) (fun a ha => by rw [zu_row ha]; exact g2 a ha)
          by_cases c : k = j
          · rw [c, zu_eq, g2 179 (by omega)]
          · rw [zu_k c]; exact g1 k (by omega)
theorem y_about {d : Nat} {S : St} {x : Int32} {iv : zI} {rv : zR} {lv : zJ} (hT : zTop rv) (h : MB S iv) (hv : VT S) : Ci mX11_about (d + 9) [.ref 174, .int x] iv rv lv (YR (F_about S x).2 (F_about S x).1 iv rv lv) := by
  refine eX11_about x (bX11_about_0 x hT ?_)
  intro w0 e0
  have h0 : MB S w0 := e0 ▸ h.th
  have f0 : FM iv w0 := e0 ▸ FM.th
  unfold F_about
  rw [h0.txt]
  cases e : S.2.1 with
  | none => exact ⟨fun q => absurd rfl q, fun _ => zcall (y_refused hT) hT (YR.tr' rfl h0 f0)⟩
  | some s =>
    have ms := h0.2.1.2 s e
    have vs := hv.2.1 s e
    have vn := vs.1
    have vl := vs.2.2.2.2.2
    have n3 : ∀ i, i < s.1 → w0 176 (2 + i) = nI (s.2.2.1 i) := fun i hi => by have := ms.2.2.1 i hi; rw [Nat.zero_add] at this; exact this
    have n4 : ∀ i, i < s.1 → w0 176 (12 + i) = nI (s.2.2.2.1 i) := fun i hi => by have := ms.2.2.2.1 i hi; rw [Nat.zero_add] at this; exact this
    have vb : ∀ i, i < s.1 → s.2.2.1 i < 100000 := fun i hi => by have := (vs.2.2.1 i hi).2; omega
    have n1 : w0 176 0 = nI s.1 := ms.1
    refine ⟨fun _ => ?_, fun q => absurd (show (1 : Int32) = 0 from q) (by decide)⟩
    have key := zfor (c := s.1) (P := fun j => Zi mX11_about (d + 9) 22 [some (.ref 174), some (.int x), some (.int (nI (cn (fun i => decide (0 < s.2.2.2.1 i)) j))), some (.int (nI j))] [] w0 rv lv (YR (F_about S x).2 (F_about S x).1 iv rv lv)) ?_ ?_
    · have := key 0 (by omega)
      unfold F_about at this
      rw [e] at this
      exact this
    · refine bX11_about_22 _ _ _ hT ⟨fun _ => ?_, fun z => absurd (by rw [n1]; exact nI_le (by omega) (by omega)) z⟩
      unfold F_about
      rw [e]
      simp only
      have u0 := un_lt s.1 s.2.2.1 0 (by omega)
      have u1 := un_lt s.1 s.2.2.1 (s.1 - 1) (by omega)
      refine ⟨fun hw => ?_, fun hw => ?_, fun hw => ?_, fun hw => ?_, fun hw => ?_, fun hw => ?_, fun hw => ?_, fun hw => ?_, fun w0 w1 w2 w3 w4 w5 w6 w7 => ?_⟩
      · subst hw; exact zcall (y_good hT) hT (YR.tr' n1 h0 f0)
      · subst hw; exact zcall (y_good hT) hT (YR.tr' ms.2.1 h0 f0)
      · subst hw; exact zcall (y_total hT n1 vn.2 n3) hT (zcall (y_good hT) hT (YR.tr' rfl h0 f0))
      · subst hw; exact zcall (y_good hT) hT (YR.tr' rfl h0 f0)
      · subst hw; exact zcall (y_good hT) hT (YR.tr' ms.2.2.2.2.1 h0 f0)
      · subst hw; exact zcall (y_good hT) hT (YR.tr' h0.hm.1 h0 f0)
      · subst hw; exact zcall (y_ranked (r := 0) hT n1 vn.2 n3 vb (by omega)) hT (zcall (y_value hT n3 vn.2 u0) hT (zcall (y_good hT) hT (YR.tr' rfl h0 f0)))
      · subst hw
        rw [n1, z_1, pk_sub (by omega)]
        exact zcall (y_ranked (r := s.1 - 1) hT n1 vn.2 n3 vb (by omega)) hT (zcall (y_value hT n3 vn.2 u1) hT (zcall (y_good hT) hT (YR.tr' rfl h0 f0)))
      · simp only [w0, w1, w2, w3, w4, w5, w6, w7, if_false]
        exact zcall (y_refused hT) hT (YR.tr' rfl h0 f0)
    · intro j hj ih
      have kb := vs.2.2.2.1 j hj
      refine bX11_about_22 _ _ _ hT ⟨fun z => ?_, fun _ => ?_⟩
      · rw [n1] at z
        exact absurd z (nI_ge hj (by omega))
      · rw [z_12, nI_add, nI_clamp (show 12 + j < 2 ^ 31 by omega), n4 j hj]
        refine ⟨vp_in_nI (by omega) (by decide), fun q => ?_, fun q => ?_⟩
        · rw [z_0, nI_leI (by omega) (by omega)] at q
          have : ¬ 0 < s.2.2.2.1 j := by omega
          rw [z_0, nI_add, nI_1]
          simp only [cn, this, decide_false] at ih
          exact ih
        · rw [z_0, nI_leI (by omega) (by omega)] at q
          have : 0 < s.2.2.2.1 j := by omega
          rw [nI_1, nI_1]
          simp only [cn, this, decide_true, if_true] at ih
          exact ih
