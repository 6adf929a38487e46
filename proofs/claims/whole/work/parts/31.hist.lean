/-! History and 'changed' of the class. -/
theorem pastM : ∀ j, j < 10 → 16 + 5 * j ∈ zSts := by decide +kernel
theorem imgM : ∀ j, j < 2 → 66 + 5 * j ∈ zSts := by decide +kernel
theorem z_10 : (10 : Int32) = nI 10 := rfl
theorem zmn_nI {a b : Nat} (ha : a < 2 ^ 31) (hb : b < 2 ^ 31) : zmn (nI a) (nI b) = nI (min a b) := by
  unfold zmn
  by_cases h : b < a
  · rw [if_pos ((nI_ltI hb ha).mpr h)]
    congr 1
    omega
  · rw [if_neg (fun q => h ((nI_ltI hb ha).mp q))]
    congr 1
    omega
theorem zmx_nI {a b : Nat} (ha : a < 2 ^ 31) (hb : b < 2 ^ 31) : zmx (nI a) (nI b) = nI (max a b) := by
  unfold zmx
  by_cases h : a < b
  · rw [if_pos ((nI_ltI ha hb).mpr h)]
    congr 1
    omega
  · rw [if_neg (fun q => h ((nI_ltI ha hb).mp q))]
    congr 1
    omega
theorem x_keepAct {d : Nat} {s : Sn} {hist : List Sn} {iv : zI} {rv : zR} {lv : zJ} (hT : zTop rv) (hH : HB iv hist) (hl : hist.length ≤ 10) (hs : CS iv 8 s) (hn : s.1 ≤ 10) :
    Cr mX2_keepAct (d + 2) [.ref 13, .ref 8] iv rv lv (fun r iv' rv' lv' => rv' = rv ∧ lv' = lv ∧ r ∈ zSts ∧ 16 ≤ r ∧ r ≤ 61 ∧ HB iv' ((s :: hist).take 10) ∧ (∀ t, 1 ≤ t → t ≤ 4 → ∀ j, j < 10 → iv' (r + t) j = iv (8 + t) j) ∧ ∀ a, a < 13 ∨ 65 < a → iv' a = iv a) := by
  obtain ⟨nx, h1, h2, h3, h4⟩ := hH
  refine eX2_keepAct 8 (bX2_keepAct_0 8 hT (by decide) ?_)
  rw [h2, nI_clamp (by omega)]
  refine ⟨vp_in_nI h1 (by decide), _, hT.2.2.2.2.1 nx h1, pastM nx h1, zcallV (s_copy hT (pastM nx h1) (by decide)) ?_⟩
  rintro w _ _ ⟨rfl, rfl, c1, c2, c3⟩
  refine ⟨hT, fun w1 e1 w2 e2 => ?_⟩
  have r13 : w 13 = iv 13 := c3 13 (by omega)
  rw [r13, h2, nI_1, z_10, pk_rem (by omega) (by omega) (by omega)] at e1
  have a2 : w1 13 2 = nI hist.length := by rw [e1, zu_k (by decide), r13]; exact h3
  have a3 : zmn (w1 13 2 + 1) 10 = nI (min (hist.length + 1) 10) := by
    rw [a2, nI_1, z_10, zmn_nI (by omega) (by omega)]
  rw [a3] at e2
  have r2 : ∀ a, a ≠ 13 → w2 a = w a := fun a ha => by rw [e2, zu_row ha, e1, zu_row ha]
  have keepS : CS w2 (16 + 5 * nx) s := (hs.copy hn c1 c2).fr (fun t ht => r2 _ (by omega))
  refine ⟨rfl, rfl, pastM nx h1, by omega, by omega, ⟨(nx + 1) % 10, by omega, ?_, ?_, ?_⟩, ?_, ?_⟩
  · rw [e2, zu_k (by decide), e1, zu_eq]
  · rw [e2, zu_eq]
    congr 1
    simp only [List.length_take, List.length_cons]
    omega
  · intro j hj
    simp only [List.length_take, List.length_cons] at hj
    cases j with
    | zero =>
      have : ((nx + 1) % 10 + 9 - 0) % 10 = nx := by omega
      rw [this]
      exact keepS
    | succ j =>
      have e : ((nx + 1) % 10 + 9 - (j + 1)) % 10 = (nx + 9 - j) % 10 := by omega
      have g : ((s :: hist).take 10).getD (j + 1) d0 = hist.getD j d0 := by
        simp only [List.getD_eq_getElem?_getD]
        rw [List.getElem?_take_of_lt (by omega), List.getElem?_cons_succ]
      rw [e, g]
      refine (h4 j (by omega)).fr (fun t ht => ?_)
      have far : (nx + 9 - j) % 10 ≠ nx := by omega
      rw [r2 _ (by omega), c3 _ (by omega)]
  · intro t t1 t2 j hj
    rw [r2 _ (by omega)]
    exact c2 t t1 t2 j hj
  · intro a ha
    rw [r2 a (by omega), c3 a (by omega)]
theorem x_takeBack {d : Nat} {s : Sn} {hist : List Sn} {iv : zI} {rv : zR} {lv : zJ} (hT : zTop rv) (hH : HB iv (s :: hist)) (hl : hist.length < 10) (hn : s.1 ≤ 10) :
    Cv mX2_takeBack (d + 2) [.ref 13, .ref 8] iv rv lv (fun iv' rv' lv' => rv' = rv ∧ lv' = lv ∧ HB iv' hist ∧ CS iv' 8 s ∧ ∀ a, a < 8 ∨ 13 < a → iv' a = iv a) := by
  obtain ⟨nx, h1, h2, h3, h4⟩ := hH
  refine eX2_takeBack 8 (bX2_takeBack_0 8 hT (by decide) ?_)
  intro w1 e1 w2 e2
  have hl2 : (s :: hist).length = hist.length + 1 := rfl
  rw [h2, z_10, nI_add, z_1, pk_sub (by omega), pk_rem (by omega) (by omega) (by omega)] at e1
  have a1 : w1 13 2 = nI (hist.length + 1) := by rw [e1, zu_k (by decide)]; exact h3
  rw [a1, nI_pred] at e2
  have a2 : w2 13 1 = nI ((nx + 10 - 1) % 10) := by rw [e2, zu_k (by decide), e1, zu_eq]
  have hx : (nx + 10 - 1) % 10 < 10 := by omega
  rw [a2, nI_clamp (by omega)]
  refine ⟨vp_in_nI hx (by decide), _, hT.2.2.2.2.1 _ hx, pastM _ hx, zcallV (s_copy hT (by decide) (pastM _ hx)) ?_⟩
  rintro w _ _ ⟨rfl, rfl, c1, c2, c3⟩
  have r2 : ∀ a, a ≠ 13 → w2 a = iv a := fun a ha => by rw [e2, zu_row ha, e1, zu_row ha]
  have k0 : CS w2 (16 + 5 * ((nx + 10 - 1) % 10)) s := by
    have := h4 0 (by rw [hl2]; omega)
    have e : (nx + 9 - 0) % 10 = (nx + 10 - 1) % 10 := by omega
    rw [e] at this
    exact this.fr (fun t ht => r2 _ (by omega))
  refine ⟨hT, rfl, rfl, ⟨(nx + 10 - 1) % 10, hx, ?_, ?_, ?_⟩, k0.copy hn c1 c2, fun a ha => ?_⟩
  · rw [c3 13 (by omega)]; exact a2
  · rw [c3 13 (by omega), e2, zu_eq]
  · intro j hj
    have := h4 (j + 1) (by rw [hl2]; omega)
    have e : (nx + 9 - (j + 1)) % 10 = ((nx + 10 - 1) % 10 + 9 - j) % 10 := by omega
    rw [e] at this
    exact CS.fr this (fun t ht => by rw [c3 _ (by omega), r2 _ (by omega)])
  · rw [c3 a (by omega), r2 a (by omega)]
theorem x_forgetActs {d : Nat} {iv : zI} {rv : zR} {lv : zJ} (hT : zTop rv) : Cv mX2_forgetActs d [.ref 13] iv rv lv (zV (zu iv 13 2 0) rv lv) := by
  refine eX2_forgetActs (bX2_forgetActs_0 hT ?_)
  intro w e
  exact ⟨e, rfl, rfl⟩
theorem x_forgetImages {d : Nat} {iv : zI} {rv : zR} {lv : zJ} (hT : zTop rv) : Cv mX2_forgetImages (d + 1) [.ref 13] iv rv lv (fun iv' rv' lv' => rv' = rv ∧ lv' = lv ∧ (∀ i, i < 2 → iv' (66 + 5 * i) 0 = nI 0) ∧ ∀ a, a ≠ 66 → a ≠ 71 → iv' a = iv a) := by
  refine eX2_forgetImages (bX2_forgetImages_0 hT ?_)
  have key := zfor (c := 2) (P := fun j => ∀ w : zI, (∀ i, i < j → w (66 + 5 * i) 0 = nI 0) → (∀ a, a ≠ 66 → a ≠ 71 → w a = iv a) → Zv mX2_forgetImages (d + 1) 2 [some (.ref 13), some (.int (nI j))] [] w rv lv (fun iv' rv' lv' => rv' = rv ∧ lv' = lv ∧ (∀ i, i < 2 → iv' (66 + 5 * i) 0 = nI 0) ∧ ∀ a, a ≠ 66 → a ≠ 71 → iv' a = iv a)) ?_ ?_
  · exact key 0 (by omega) iv (fun i hi => absurd hi (Nat.not_lt_zero _)) (fun _ _ _ => rfl)
  · intro w g1 g2
    exact bX2_forgetImages_2 _ hT ⟨fun _ => ⟨rfl, rfl, g1, g2⟩, fun h => absurd (by decide) h⟩
  · intro j hj ih w g1 g2
    refine bX2_forgetImages_2 _ hT ⟨fun h => absurd h (show ¬ nI 2 ≤ nI j from nI_ge hj (by omega)), fun _ => ?_⟩
    rw [nI_clamp (by omega)]
    refine ⟨vp_in_nI hj (by decide), _, hT.2.2.2.2.2.1 j hj, imgM j hj, zcallV (s_empty hT (imgM j hj)) ?_⟩
    rintro w1 _ _ ⟨rfl, rfl, c1, c2, c3⟩
    refine ⟨hT, ?_⟩
    rw [nI_1]
    refine ih w1 (fun i hi => ?_) (fun a a1 a2 => ?_)
    · by_cases e : i = j
      · rw [e]; exact c1
      · rw [c3 _ (by omega)]; exact g1 i (by omega)
    · rw [c3 a (by omega)]; exact g2 a a1 a2
theorem x_changed {d ver : Nat} {s : Sn} {iv : zI} {rv : zR} {lv : zJ} (hT : zTop rv) (hs : CS iv 8 s) (hv : VS s) (hver : iv 0 3 = nI ver) :
    Cv mX10_changed (d + 1) [.ref 0] iv rv lv (fun iv' rv' lv' => rv' = rv ∧ lv' = lv ∧ (∀ j, j < s.1 → iv' 12 j = nI (un s.1 s.2.2.1 j)) ∧ iv' 0 = zu iv 0 3 (nI (ver + 1)) 0 ∧ ∀ a, a ≠ 0 → a ≠ 12 → iv' a = iv a) := by
  refine eX10_changed (bX10_changed_0 hT (zcallV (s_order (o := 8) (c := s.1) (v := s.2.2.1) hT (by decide) hs.1 hv.1.2 hs.2.2.1 (fun i hi => by have := (hv.2.2.1 i hi).2; omega)) ?_))
  rintro w _ _ ⟨rfl, rfl, c1, c2⟩
  refine ⟨hT, fun w1 e1 => ?_⟩
  have a1 : w 0 3 = nI ver := by rw [c2 0 (by omega)]; exact hver
  rw [a1, nI_1] at e1
  subst e1
  refine ⟨rfl, rfl, fun j hj => by rw [zu_row (by omega)]; exact c1 j hj, ?_, fun a a1 a2 => by rw [zu_row a1]; exact c2 a a2⟩
  funext b
  simp only [zu]
  rw [c2 0 (by omega)]
/-- the end of an act: 'changed', then the answer -/
theorem act_end {d : Nat} {S : St} {s s' : Sn} {iv w : zI} {rv : zR} {lv : zJ} {K : zI → zR → zJ → Prop} (hT : zTop rv) (h : CB S iv) (hr : ∀ a, a < 8 ∨ 65 < a → w a = iv a) (hH : HB w ((s :: S.2.2.1).take 10)) (hs : CS w 8 s') (hv : VS s')
    (hk : ∀ w2 : zI, w2 8 = w 8 → w2 13 = w 13 → CB (sA S s s') (zu (zu w2 0 12 0) 0 14 (-1)) → FC iv (zu (zu w2 0 12 0) 0 14 (-1)) → K w2 rv lv) :
    ∃ Q1 : zI → zR → zJ → Prop, Cv mX10_changed (d + 1) [.ref 0] w rv lv Q1 ∧ ∀ (a : zI) (b : zR) (c : zJ), Q1 a b c → zTop b ∧ K a b c := by
  obtain ⟨h1, h2, h3, h4, h5, h6, h7⟩ := h
  refine zcallV (x_changed hT hs hv (by rw [hr 0 (by omega)]; exact h7)) ?_
  rintro w2 _ _ ⟨rfl, rfl, c1, c2, c3⟩
  have r : ∀ a, a ≠ 0 → a ≠ 12 → zu (zu w2 0 12 0) 0 14 (-1) a = w a := fun a a1 a2 => by rw [zu_row a1, zu_row a1]; exact c3 a a1 a2
  have r0 : ∀ b, b ≠ 3 → b ≠ 12 → b ≠ 14 → zu (zu w2 0 12 0) 0 14 (-1) 0 b = iv 0 b := fun b b1 b2 b3 => by
    rw [zu_k b3, zu_k b2, c2, zu_k b1, hr 0 (by omega)]
  refine ⟨hT, hk w2 (c3 8 (by omega) (by omega)) (c3 13 (by omega) (by omega)) ⟨?_, ⟨hs.fr (fun t ht => r _ (by omega) (by omega)), fun j hj => ?_⟩, hH.fr (fun a _ _ => r a (by omega) (by omega)), h4.fr (fun a a1 a2 => by rw [r a (by omega) (by omega)]; exact hr a (by omega)), ⟨?_, zu_eq, ?_⟩, ⟨?_, ?_⟩, ?_⟩ (fun a a1 a2 => by rw [r a (by omega) (by omega)]; exact hr a (by omega))⟩
  · rw [r 1 (by omega) (by omega), r 7 (by omega) (by omega), hr 1 (by omega), hr 7 (by omega)]; exact h1
  · rw [zu_row (by omega), zu_row (by omega)]; exact c1 j hj
  · rw [r0 13 (by decide) (by decide) (by decide)]; exact h5.1
  · rw [zu_k (by decide), zu_eq]; rfl
  · rw [r0 11 (by decide) (by decide) (by decide)]; exact h6.1
  · intro j hj
    rw [r 158 (by omega) (by omega), hr 158 (by omega)]
    exact h6.2 j hj
  · rw [zu_k (by decide), zu_k (by decide), c2, zu_eq]; rfl
