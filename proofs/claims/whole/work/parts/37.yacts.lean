/-! THE REFERENCE: history, acts. -/
theorem YR.tr' {S : St} {t : Nat} {y r : Int32} {iv iv1 : zI} {rv : zR} {lv : zJ} (e : y = r) (h : MB S iv1) (hf : FM iv iv1) : YR (sT S t) r iv rv lv y (zu (zu iv1 174 1 (nI t)) 174 2 (-1)) rv lv := ⟨e, rfl, rfl, h.tr, fun a h1 => by rw [zu_row (by omega), zu_row (by omega)]; exact hf a h1⟩
theorem FM.th {iv : zI} {x : Int32} : FM iv (zu iv 174 0 x) := fun a ha => zu_row (by omega)
theorem MB.txt {S : St} {iv : zI} (h : MB S iv) : iv 174 19 = bI S.2.1.isSome := h.2.1.1
theorem y_isN0 {d : Nat} {S : St} {x : Int32} {iv : zI} {rv : zR} {lv : zJ} (hT : zTop rv) (h : MB S iv) (hv : VT S) (hx : ∀ s, S.2.1 = some s → x < 0 ∨ nI s.1 ≤ x) : Ci mX11_isNumber (d + 1) [.ref 174, .int x] iv rv lv (zP (bI false) iv rv lv) := by
  refine eX11_isNumber x (bX11_isNumber_0 x hT ?_)
  rw [h.txt]
  cases e : S.2.1 with
  | none => exact ⟨fun _ => zP.mk rfl, fun q => absurd rfl q⟩
  | some s =>
    refine ⟨fun q => absurd (show (1 : Int32) = 0 from q) (by decide), fun _ => zcall (y_in hT) hT ?_⟩
    have hs := h.2.1.2 s e
    have vn := (hv.2.1 s e).1
    have hs1 : iv 176 0 = nI s.1 := hs.1
    rw [hs1, z_1, pk_sub (by omega)]
    have : decide (0 ≤ x ∧ x ≤ nI (s.1 - 1)) = false := by
      simp only [decide_eq_false_iff_not]
      intro q
      rcases hx s e with q2 | q2
      · exact absurd q.1 (Int32.not_le.mpr q2)
      · exact absurd (Int32.le_trans q2 q.2) (nI_ge (by omega) (by omega))
    rw [this]
    exact ⟨fun _ => zP.mk rfl, fun q => absurd rfl q⟩
theorem y_isN1 {d i : Nat} {S : St} {s : Sn} {iv : zI} {rv : zR} {lv : zJ} (hT : zTop rv) (h : MB S iv) (hv : VT S) (es : S.2.1 = some s) (hi : i < s.1) : Ci mX11_isNumber (d + 1) [.ref 174, .int (nI i)] iv rv lv (zP (bI true) iv rv lv) := by
  refine eX11_isNumber _ (bX11_isNumber_0 _ hT ?_)
  rw [h.txt, es]
  refine ⟨fun q => absurd (show (1 : Int32) = 0 from q) (by decide), fun _ => zcall (y_in hT) hT ?_⟩
  have hs := h.2.1.2 s es
  have vn := (hv.2.1 s es).1
  have hs1 : iv 176 0 = nI s.1 := hs.1
  rw [hs1, z_1, pk_sub (by omega)]
  have : decide (0 ≤ nI i ∧ nI i ≤ nI (s.1 - 1)) = true := by
    simp only [decide_eq_true_eq]
    exact ⟨nI_pos' (by omega), nI_le (by omega) (by omega)⟩
  rw [this]
  exact ⟨fun q => absurd q (by decide), fun _ => zP.mk rfl⟩
def HM (iv : zI) (hist : List Sn) : Prop := iv 174 21 = nI hist.length ∧ ∀ j, j < hist.length → MS iv 178 (35 * (hist.length - 1 - j)) (hist.getD j d0)
theorem z_35 : (35 : Int32) = nI 35 := rfl
theorem z_300 : (300 : Int32) = nI 300 := rfl
theorem y_rem55 {d q : Nat} {iv0 : zI} {f : Nat → Int32} {iv : zI} {rv : zR} {lv : zJ} (hT : zTop rv) (hq : q ≤ 9) (ha : iv 174 21 = nI q) (hf : ∀ k, iv 178 k = f k) (hr : ∀ a, a ≠ 174 → a ≠ 178 → iv a = iv0 a) (hk : ∀ b, b ≠ 21 → iv 174 b = iv0 174 b) :
    Zv mX11_remembers d 55 [some (.ref 174), some (.int 0)] [] iv rv lv (fun iv' rv' lv' => rv' = rv ∧ lv' = lv ∧ iv' 174 21 = nI (q + 1) ∧ (∀ b, b ≠ 21 → iv' 174 b = iv0 174 b) ∧ (∀ k, k < 35 → iv' 178 (35 * q + k) = iv0 176 k) ∧ (∀ k, k < 35 * q → iv' 178 k = f k) ∧ ∀ a, a ≠ 174 → a ≠ 178 → iv' a = iv0 a) := by
  have key := zfor (c := 35) (P := fun j => ∀ w : zI, (∀ k, k < j → w 178 (35 * q + k) = iv0 176 k) → (∀ k, k < 35 * q → w 178 k = f k) → (∀ a, a ≠ 178 → w a = iv a) → Zv mX11_remembers d 55 [some (.ref 174), some (.int (nI j))] [] w rv lv (fun iv' rv' lv' => rv' = rv ∧ lv' = lv ∧ iv' 174 21 = nI (q + 1) ∧ (∀ b, b ≠ 21 → iv' 174 b = iv0 174 b) ∧ (∀ k, k < 35 → iv' 178 (35 * q + k) = iv0 176 k) ∧ (∀ k, k < 35 * q → iv' 178 k = f k) ∧ ∀ a, a ≠ 174 → a ≠ 178 → iv' a = iv0 a)) ?_ ?_
  · exact key 0 (by omega) iv (fun k hk => absurd hk (Nat.not_lt_zero _)) (fun k _ => hf k) (fun _ _ => rfl)
  · intro w g1 g2 g3
    refine bX11_remembers_55 _ hT ⟨fun _ w1 e1 => ?_, fun z => absurd (by decide) z⟩
    rw [g3 174 (by omega), ha, nI_1] at e1
    refine ⟨rfl, rfl, by rw [e1, zu_eq], fun b hb => by rw [e1, zu_k hb, g3 174 (by omega)]; exact hk b hb, fun k hk => by rw [e1, zu_row (by omega)]; exact g1 k hk, fun k hk => by rw [e1, zu_row (by omega)]; exact g2 k hk, fun a a1 a2 => by rw [e1, zu_row a1, g3 a a2]; exact hr a a1 a2⟩
  · intro j hj ih w g1 g2 g3
    refine bX11_remembers_55 _ hT ⟨fun z => absurd z (show ¬ nI 35 ≤ nI j from nI_ge hj (by omega)), fun _ => ?_⟩
    rw [g3 174 (by omega), ha, z_35, pk_mul, nI_add, nI_clamp (show q * 35 + j < 2 ^ 31 by omega), nI_clamp (show j < 2 ^ 31 by omega), nI_1]
    refine ⟨vp_in_nI hj (by decide), vp_in_nI (by omega) (by decide), fun w1 e1 => ?_⟩
    rw [show q * 35 + j = 35 * q + j by omega, g3 176 (by omega), hr 176 (by omega) (by omega)] at e1
    subst e1
    refine ih _ (fun k hk => ?_) (fun k hk => ?_) (fun a ha => by rw [zu_row ha]; exact g3 a ha)
    · by_cases e : k = j
      · rw [e, zu_eq]
      · rw [zu_k (by omega)]; exact g1 k (by omega)
    · rw [zu_k (by omega)]; exact g2 k hk
theorem y_remembers {d : Nat} {s : Sn} {hist : List Sn} {iv : zI} {rv : zR} {lv : zJ} (hT : zTop rv) (hH : HM iv hist) (hl : hist.length ≤ 10) (hvs : VS s) (hvh : ∀ q ∈ hist, VS q) (hs : MS iv 176 0 s) :
    Cv mX11_remembers d [.ref 174] iv rv lv (fun iv' rv' lv' => rv' = rv ∧ lv' = lv ∧ HM iv' ((s :: hist).take 10) ∧ (∀ b, b ≠ 21 → iv' 174 b = iv 174 b) ∧ ∀ a, a ≠ 174 → a ≠ 178 → iv' a = iv a) := by
  obtain ⟨h1, h2⟩ := hH
  have vh : ∀ j, j < hist.length → VS (hist.getD j d0) := fun j hj => by
    rw [List.getD_eq_getElem?_getD, List.getElem?_eq_getElem hj]
    exact hvh _ (List.getElem_mem hj)
  have getS : ∀ j, j + 1 < 10 → ((s :: hist).take 10).getD (j + 1) d0 = hist.getD j d0 := fun j hj => by
    simp only [List.getD_eq_getElem?_getD]
    rw [List.getElem?_take_of_lt hj, List.getElem?_cons_succ]
  refine eX11_remembers (bX11_remembers_0 hT ?_)
  rw [h1, z_10, nI_eq (by omega) (by omega)]
  refine ⟨fun hne => ?_, fun he w0 e0 => ?_⟩
  · refine Z.mono (y_rem55 (q := hist.length) (iv0 := iv) (f := fun k => iv 178 k) hT (by omega) h1 (fun _ => rfl) (fun _ _ _ => rfl) (fun _ _ => rfl)) ?_
    rintro r w _ _ ⟨rfl, rfl, rfl, a1, a2, a3, a4, a5⟩
    have len : ((s :: hist).take 10).length = hist.length + 1 := by
      simp only [List.length_take, List.length_cons]
      omega
    refine ⟨rfl, rfl, rfl, ⟨by rw [len]; exact a1, fun j hj => ?_⟩, a2, a5⟩
    rw [len] at hj ⊢
    cases j with
    | zero => exact hs.copy hvs.1.2 hvs.2.2.2.2.2 (fun k hk => by rw [show 35 * (hist.length + 1 - 1 - 0) + k = 35 * hist.length + k by omega, a3 k hk, Nat.zero_add])
    | succ j =>
      have v := vh j (by omega)
      rw [getS j (by omega)]
      exact (h2 j (by omega)).copy v.1.2 v.2.2.2.2.2 (fun k hk => by rw [show hist.length + 1 - 1 - (j + 1) = hist.length - 1 - j by omega]; exact a4 _ (by omega))
  · rw [z_1, pk_sub (by omega)] at e0
    have key := zfor (c := 315) (P := fun j => ∀ w : zI, (∀ k, k < j → w 178 k = iv 178 (k + 35)) → (∀ k, j ≤ k → w 178 k = iv 178 k) → (∀ a, a ≠ 178 → w a = w0 a) → Zv mX11_remembers d 21 [some (.ref 174), some (.int (nI j))] [] w rv lv (fun iv' rv' lv' => rv' = rv ∧ lv' = lv ∧ HM iv' ((s :: hist).take 10) ∧ (∀ b, b ≠ 21 → iv' 174 b = iv 174 b) ∧ ∀ a, a ≠ 174 → a ≠ 178 → iv' a = iv a)) ?_ ?_
    · exact key 0 (by omega) w0 (fun k hk => absurd hk (Nat.not_lt_zero _)) (fun k _ => by rw [e0, zu_row (by omega)]) (fun _ _ => rfl)
    · intro w g1 g2 g3
      have c21 : w 174 21 = nI 9 := by rw [g3 174 (by omega), e0, zu_eq, he]
      refine bX11_remembers_21 _ hT ⟨fun _ => ?_, fun z => absurd (by rw [c21]; decide) z⟩
      refine Z.mono (y_rem55 (q := 9) (iv0 := iv) (f := fun k => if k < 315 then iv 178 (k + 35) else iv 178 k) hT (by omega) c21 (fun k => ?_) (fun a a1 a2 => by rw [g3 a a2, e0, zu_row a1]) (fun b hb => by rw [g3 174 (by omega), e0, zu_k hb])) ?_
      · by_cases q : k < 315
        · rw [if_pos q]; exact g1 k q
        · rw [if_neg q]; exact g2 k (by omega)
      · rintro r w _ _ ⟨rfl, rfl, rfl, a1, a2, a3, a4, a5⟩
        have len : ((s :: hist).take 10).length = 10 := by
          simp only [List.length_take, List.length_cons]
          omega
        refine ⟨rfl, rfl, rfl, ⟨by rw [len]; exact a1, fun j hj => ?_⟩, a2, a5⟩
        rw [len] at hj ⊢
        cases j with
        | zero => exact hs.copy hvs.1.2 hvs.2.2.2.2.2 (fun k hk => by rw [show 35 * (10 - 1 - 0) + k = 35 * 9 + k by omega, a3 k hk, Nat.zero_add])
        | succ j =>
          have v := vh j (by omega)
          rw [getS j (by omega)]
          refine (h2 j (by omega)).copy v.1.2 v.2.2.2.2.2 (fun k hk => ?_)
          rw [a4 _ (by omega), if_pos (by omega)]
          congr 1
          omega
    · intro j hj ih w g1 g2 g3
      have c21 : w 174 21 = nI 9 := by rw [g3 174 (by omega), e0, zu_eq, he]
      refine bX11_remembers_21 _ hT ⟨fun z => ?_, fun _ => ?_⟩
      · rw [c21, z_35, pk_mul] at z
        exact absurd z (nI_ge (by omega) (by omega))
      · rw [z_35, nI_add, nI_clamp (show j + 35 < 2 ^ 31 by omega), nI_clamp (show j < 2 ^ 31 by omega), nI_1]
        refine ⟨vp_in_nI (by omega) (by decide), vp_in_nI (by omega) (by decide), fun w1 e1 => ?_⟩
        subst e1
        refine ih _ (fun k hk => ?_) (fun k hk => ?_) (fun a ha => by rw [zu_row ha]; exact g3 a ha)
        · by_cases e : k = j
          · rw [e, zu_eq]; exact g2 _ (by omega)
          · rw [zu_k e]; exact g1 k (by omega)
        · rw [zu_k (by omega)]; exact g2 k (by omega)
/-- an act's end: the numbers are s', the history has s -/
theorem MB.act {S : St} {s s' : Sn} {iv w : zI} (h : MB S iv) (hH : HM w ((s :: S.2.2.1).take 10)) (hk : ∀ b, b ≠ 21 → b ≠ 0 → w 174 b = iv 174 b) (hr : ∀ a, a ≠ 174 → a ≠ 178 → a ≠ 176 → w a = iv a) (hs : MS w 176 0 s') (ht : S.2.1 = some s) : MB (sA S s s') (zu (zu w 174 1 0) 174 2 (-1)) ∧ FM iv (zu (zu w 174 1 0) 174 2 (-1)) := by
  obtain ⟨h1, h2, h3, h4, h5, h6⟩ := h
  have r : ∀ a, a ≠ 174 → zu (zu w 174 1 0) 174 2 (-1) a = w a := fun a ha => by rw [zu_row ha, zu_row ha]
  have k : ∀ b, b ≠ 1 → b ≠ 2 → zu (zu w 174 1 0) 174 2 (-1) 174 b = w 174 b := fun b b1 b2 => by rw [zu_k b2, zu_k b1]
  have m : ∀ {a off : Nat} {s : Sn}, a ≠ 174 → MS w a off s → MS (zu (zu w 174 1 0) 174 2 (-1)) a off s := fun ha hm => by
    unfold MS
    rw [r _ ha]
    exact hm
  have m0 : ∀ {a off : Nat} {s : Sn}, a ≠ 174 → a ≠ 176 → a ≠ 178 → MS iv a off s → MS w a off s := fun a1 a2 a3 hm => by
    unfold MS
    rw [hr _ a1 a3 a2]
    exact hm
  refine ⟨⟨?_, ⟨?_, fun q hq => ?_⟩, ⟨?_, fun j hj => m (by omega) (hH.2 j hj)⟩, fun i hi => ⟨?_, fun q hq => m (by omega) (m0 (by omega) (by omega) (by omega) ((h4 i hi).2 q hq))⟩, ⟨?_, zu_eq, ?_⟩, ?_⟩, fun a ha => by rw [r a (by omega)]; exact hr a (by omega) (by omega) (by omega)⟩
  · rw [k 4 (by decide) (by decide), hk 4 (by decide) (by decide), r 175 (by omega), hr 175 (by omega) (by omega) (by omega)]; exact h1
  · rw [k 19 (by decide) (by decide), hk 19 (by decide) (by decide), h2.1, ht]; rfl
  · have hq : some s' = some q := hq
    cases hq
    exact m (by omega) hs
  · rw [k 21 (by decide) (by decide)]; exact hH.1
  · rw [r 180 (by omega), hr 180 (by omega) (by omega) (by omega)]; exact (h4 i hi).1
  · rw [k 7 (by decide) (by decide), hk 7 (by decide) (by decide)]; exact h5.1
  · rw [zu_k (by decide), zu_eq]; rfl
  · rw [k 51 (by decide) (by decide), hk 51 (by decide) (by decide), r 198 (by omega), hr 198 (by omega) (by omega) (by omega)]; exact h6
theorem z_12 : (12 : Int32) = nI 12 := rfl
theorem z_23 : (23 : Int32) = nI 23 := rfl
theorem MB.hm {S : St} {iv : zI} (h : MB S iv) : HM iv S.2.2.1 := h.2.2.1
theorem y_add {d : Nat} {S : St} {x : Int32} {iv : zI} {rv : zR} {lv : zJ} (hT : zTop rv) (h : MB S iv) (hv : VT S) : Ci mX11_add (d + 9) [.ref 174, .int x] iv rv lv (YR (F_add S x).2 (F_add S x).1 iv rv lv) := by
  refine eX11_add x (bX11_add_0 x hT ?_)
  intro w0 e0
  have h0 : MB S w0 := e0 ▸ h.th
  have f0 : FM iv w0 := e0 ▸ FM.th
  unfold F_add
  rw [h0.txt]
  cases e : S.2.1 with
  | none => exact ⟨fun q => absurd rfl q, fun _ => zcall (y_refused hT) hT (YR.tr' rfl h0 f0)⟩
  | some s =>
    have ms := h0.2.1.2 s e
    have vs := hv.2.1 s e
    have vn := vs.1
    have vl := vs.2.2.2.2.2
    refine ⟨fun _ => zcall (y_in hT) hT ?_, fun q => absurd (show (1 : Int32) = 0 from q) (by decide)⟩
    by_cases hx : x < 1 ∨ 9999 < x
    · have : decide (1 ≤ x ∧ x ≤ 9999) = false := by
        simp only [decide_eq_false_iff_not]
        rintro ⟨q1, q2⟩
        rcases hx with q | q
        · exact absurd q1 (Int32.not_le.mpr q)
        · exact absurd q2 (Int32.not_le.mpr q)
      rw [this]
      simp only [hx, if_true]
      exact ⟨fun q => absurd rfl q, fun _ => zcall (y_refused hT) hT (YR.tr' rfl h0 f0)⟩
    · have : decide (1 ≤ x ∧ x ≤ 9999) = true := by
        simp only [decide_eq_true_eq]
        exact ⟨Int32.not_lt.mp (fun q => hx (Or.inl q)), Int32.not_lt.mp (fun q => hx (Or.inr q))⟩
      rw [this]
      simp only [hx, if_false]
      refine ⟨fun _ => ?_, fun q => absurd q (by decide)⟩
      have ms0 : w0 176 0 = nI s.1 := ms.1
      rw [ms0, z_10, nI_eq (by omega) (by omega)]
      by_cases h10 : s.1 = 10
      · simp only [h10, if_true]
        exact ⟨fun q => absurd trivial q, fun _ => zcall (y_refused hT) hT (YR.tr' rfl h0 f0)⟩
      · simp only [h10, if_false]
        refine ⟨fun _ => ?_, fun q => absurd q (by simp)⟩
        obtain ⟨j, j1, j2, rfl⟩ := of_val hx
        refine zcallV (y_remembers hT h0.hm hv.2.2.1.1 vs hv.2.2.1.2 ms) ?_
        rintro w _ _ ⟨rfl, rfl, m1, m2, m3⟩
        have r176 : w 176 = w0 176 := m3 176 (by omega) (by omega)
        refine ⟨hT, ?_⟩
        rw [r176, ms0, z_2, nI_add, nI_clamp (show 2 + s.1 < 2 ^ 31 by omega)]
        refine ⟨vp_in_nI (by omega) (by decide), fun w1 e1 => ?_⟩
        have q1 : w1 176 0 = nI s.1 := by rw [e1, zu_k (by omega), r176]; exact ms0
        rw [q1, z_12, nI_add, nI_clamp (show 12 + s.1 < 2 ^ 31 by omega)]
        refine ⟨vp_in_nI (by omega) (by decide), fun w2 e2 w3 e3 => ?_⟩
        have q2 : w2 176 0 = nI s.1 := by rw [e2, zu_k (by omega)]; exact q1
        rw [q2, nI_1] at e3
        have v3 : w3 176 0 = nI (s.1 + 1) := by rw [e3, zu_eq]
        have base : ∀ b, b ≠ 0 → b ≠ 2 + s.1 → b ≠ 12 + s.1 → w3 176 b = w0 176 b := fun b b1 b2 b3 => by rw [e3, zu_k b1, e2, zu_k b3, e1, zu_k b2, r176]
        have rr : ∀ a, a ≠ 176 → w3 a = w a := fun a ha => by rw [e3, zu_row ha, e2, zu_row ha, e1, zu_row ha]
        obtain ⟨n1, n2, n3, n4, n5, n6⟩ := ms
        have ms3 : MS w3 176 0 (addS s j) := by
          refine ⟨v3, by rw [base 1 (by omega) (by omega) (by omega)]; exact n2, fun i hi => ?_, fun i hi => ?_, by rw [base 22 (by omega) (by omega) (by omega)]; exact n5, fun p hp => ?_⟩
          · have hi : i < s.1 + 1 := hi
            show w3 176 (0 + 2 + i) = nI (if i = s.1 then j else s.2.2.1 i)
            by_cases c : i = s.1
            · rw [if_pos c, c, show 0 + 2 + s.1 = 2 + s.1 by omega, e3, zu_k (by omega), e2, zu_k (by omega), e1, zu_eq]
            · rw [if_neg c, base _ (by omega) (by omega) (by omega)]; exact n3 i (by omega)
          · have hi : i < s.1 + 1 := hi
            show w3 176 (0 + 12 + i) = nI (if i = s.1 then 0 else s.2.2.2.1 i)
            by_cases c : i = s.1
            · rw [if_pos c, c, show 0 + 12 + s.1 = 12 + s.1 by omega, e3, zu_k (by omega), e2, zu_eq]; rfl
            · rw [if_neg c, base _ (by omega) (by omega) (by omega)]; exact n4 i (by omega)
          · have hp : p < s.2.2.2.2.length := hp
            rw [base _ (by omega) (by omega) (by omega), base _ (by omega) (by omega) (by omega)]
            exact n6 p hp
        have hm3 : HM w3 ((s :: S.2.2.1).take 10) := by
          unfold HM MS
          rw [rr 174 (by omega), rr 178 (by omega)]
          exact m1
        obtain ⟨b1, b2⟩ := MB.act (iv := w0) h0 hm3 (fun b b1 _ => by rw [rr 174 (by omega)]; exact m2 b b1) (fun a a1 a2 a3 => by rw [rr a a3]; exact m3 a a1 a2) ms3 e
        rw [v3, nI_clamp (by omega)]
        exact zcall (y_good hT) hT ⟨rfl, rfl, rfl, b1, fun a ha => by rw [b2 a ha]; exact f0 a ha⟩
