/-! CALLS of what is known exactly; the small methods of both classes. -/
theorem zcall {M : zM} {d : Nat} {as : List Value} {iv iv0 : zI} {rv rv0 : zR} {lv lv0 : zJ} {x0 : Int32} {K : Int32 → zI → zR → zJ → Prop} (hs : Ci M d as iv rv lv (zP x0 iv0 rv0 lv0)) (hT : zTop rv0) (hk : K x0 iv0 rv0 lv0) : ∃ Q1 : Int32 → zI → zR → zJ → Prop, Ci M d as iv rv lv Q1 ∧ ∀ (x : Int32) (a : zI) (b : zR) (c : zJ), Q1 x a b c → zTop b ∧ K x a b c := ⟨_, hs, by
  rintro _ _ _ _ ⟨rfl, rfl, rfl, rfl⟩
  exact ⟨hT, hk⟩⟩
/-- a call of which only something is known -/
theorem zcallQ {M : zM} {d : Nat} {as : List Value} {iv : zI} {rv : zR} {lv : zJ} {Q : Int32 → zI → zR → zJ → Prop} {K : Int32 → zI → zR → zJ → Prop} (hs : Ci M d as iv rv lv Q) (hk : ∀ (x : Int32) (a : zI) (b : zR) (c : zJ), Q x a b c → zTop b ∧ K x a b c) : ∃ Q1 : Int32 → zI → zR → zJ → Prop, Ci M d as iv rv lv Q1 ∧ ∀ (x : Int32) (a : zI) (b : zR) (c : zJ), Q1 x a b c → zTop b ∧ K x a b c := ⟨_, hs, hk⟩
theorem zcallV {M : zM} {d : Nat} {as : List Value} {iv : zI} {rv : zR} {lv : zJ} {Q : zI → zR → zJ → Prop} {K : zI → zR → zJ → Prop} (hs : Cv M d as iv rv lv Q) (hk : ∀ (a : zI) (b : zR) (c : zJ), Q a b c → zTop b ∧ K a b c) : ∃ Q1 : zI → zR → zJ → Prop, Cv M d as iv rv lv Q1 ∧ ∀ (a : zI) (b : zR) (c : zJ), Q1 a b c → zTop b ∧ K a b c := ⟨_, hs, hk⟩
/-- a void call, its memory known exactly -/
def zV (iv : zI) (rv : zR) (lv : zJ) : zI → zR → zJ → Prop := fun a b c => a = iv ∧ b = rv ∧ c = lv
theorem zcallE {M : zM} {d : Nat} {as : List Value} {iv iv0 : zI} {rv rv0 : zR} {lv lv0 : zJ} {K : zI → zR → zJ → Prop} (hs : Cv M d as iv rv lv (zV iv0 rv0 lv0)) (hT : zTop rv0) (hk : K iv0 rv0 lv0) : ∃ Q1 : zI → zR → zJ → Prop, Cv M d as iv rv lv Q1 ∧ ∀ (a : zI) (b : zR) (c : zJ), Q1 a b c → zTop b ∧ K a b c := ⟨_, hs, by
  rintro _ _ _ ⟨rfl, rfl, rfl⟩
  exact ⟨hT, hk⟩⟩
def bI (b : Bool) : Int32 := if b then 1 else 0
theorem bI_t : bI true = 1 := rfl
theorem bI_f : bI false = 0 := rfl
theorem bI_0 (b : Bool) : (bI b = 0) ↔ b = false := by cases b <;> decide
theorem bI_1 (b : Bool) : (bI b = 1) ↔ b = true := by cases b <;> decide
theorem bI_n0 (b : Bool) : (¬ bI b = 0) ↔ b = true := by cases b <;> decide
theorem bI_01 (b : Bool) : bI b = 0 ∨ bI b = 1 := by cases b <;> decide
-- NumberHeaps
theorem x_refuse {d : Nat} {x : Int32} {iv : zI} {rv : zR} {lv : zJ} (hT : zTop rv) : Ci mX10_refuse d [.ref 0, .int x] iv rv lv (zP (-1) (zu (zu iv 0 12 x) 0 14 (-1)) rv lv) := by
  refine eX10_refuse x (bX10_refuse_0 x hT ?_)
  intro w1 e1 w2 e2
  rw [e2, e1]
  exact zP.mk rfl
theorem x_answer {d : Nat} {x : Int32} {iv : zI} {rv : zR} {lv : zJ} (hT : zTop rv) : Ci mX10_answer d [.ref 0, .int x] iv rv lv (zP x (zu (zu iv 0 12 0) 0 14 (-1)) rv lv) := by
  refine eX10_answer x (bX10_answer_0 x hT ?_)
  intro w1 e1 w2 e2
  rw [e2, e1]
  exact zP.mk rfl
theorem x_noText {d : Nat} {iv : zI} {rv : zR} {lv : zJ} (hT : zTop rv) : Ci mX10_noText d [.ref 0] iv rv lv (zP (bI (decide (iv 8 0 = 0))) iv rv lv) := by
  refine eX10_noText (bX10_noText_0 hT ⟨fun h => zP.mk ?_, fun h => zP.mk ?_⟩) <;> simp [bI, h]
theorem x_noNumber {d : Nat} {x : Int32} {iv : zI} {rv : zR} {lv : zJ} (hT : zTop rv) : Ci mX10_noNumber d [.ref 0, .int x] iv rv lv (zP (bI (decide (x < 0 ∨ iv 8 0 ≤ x))) iv rv lv) := by
  refine eX10_noNumber x (bX10_noNumber_0 x hT ⟨fun h => zP.mk ?_, fun h => ⟨fun h2 => zP.mk ?_, fun h2 => zP.mk ?_⟩⟩)
  · simp [bI, h]
  · have : ¬ iv 8 0 ≤ x := Int32.not_le.mpr h2
    simp [bI, h, this]
  · have : iv 8 0 ≤ x := Int32.not_lt.mp h2
    simp [bI, this]
theorem x_noSuchHeaps {d : Nat} {x : Int32} {iv : zI} {rv : zR} {lv : zJ} (hT : zTop rv) : Ci mX10_noSuchHeaps d [.int x] iv rv lv (zP (bI (decide (x < 2 ∨ 4 < x))) iv rv lv) := by
  refine eX10_noSuchHeaps x (bX10_noSuchHeaps_0 x hT ⟨fun h => zP.mk ?_, fun h => ⟨fun h2 => zP.mk ?_, fun h2 => zP.mk ?_⟩⟩)
  · simp [bI, h]
  · have : ¬ 4 < x := Int32.not_lt.mpr h2
    simp [bI, h, this]
  · have : 4 < x := Int32.not_le.mp h2
    simp [bI, this]
theorem x_noSuchValue {d : Nat} {x : Int32} {iv : zI} {rv : zR} {lv : zJ} (hT : zTop rv) : Ci mX10_noSuchValue d [.int x] iv rv lv (zP (bI (decide (x < 1 ∨ 9999 < x))) iv rv lv) := by
  refine eX10_noSuchValue x (bX10_noSuchValue_0 x hT ⟨fun h => zP.mk ?_, fun h => ⟨fun h2 => zP.mk ?_, fun h2 => zP.mk ?_⟩⟩)
  · simp [bI, h]
  · have : ¬ 9999 < x := Int32.not_lt.mpr h2
    simp [bI, h, this]
  · have : 9999 < x := Int32.not_le.mp h2
    simp [bI, this]
theorem x_noSuchSum {d : Nat} {x : Int32} {iv : zI} {rv : zR} {lv : zJ} (hT : zTop rv) : Ci mX10_noSuchSum d [.int x] iv rv lv (zP (bI (decide (x < 0 ∨ 99999 < x))) iv rv lv) := by
  refine eX10_noSuchSum x (bX10_noSuchSum_0 x hT ⟨fun h => zP.mk ?_, fun h => ⟨fun h2 => zP.mk ?_, fun h2 => zP.mk ?_⟩⟩)
  · simp [bI, h]
  · have : ¬ 99999 < x := Int32.not_lt.mpr h2
    simp [bI, h, this]
  · have : 99999 < x := Int32.not_le.mp h2
    simp [bI, this]
theorem x_not01 {d : Nat} {x : Int32} {iv : zI} {rv : zR} {lv : zJ} (hT : zTop rv) : Ci mX10_notZeroOrOne d [.int x] iv rv lv (zP (bI (decide (x < 0 ∨ 1 < x))) iv rv lv) := by
  refine eX10_notZeroOrOne x (bX10_notZeroOrOne_0 x hT ⟨fun h => zP.mk ?_, fun h => ⟨fun h2 => zP.mk ?_, fun h2 => zP.mk ?_⟩⟩)
  · simp [bI, h]
  · have : ¬ 1 < x := Int32.not_lt.mpr h2
    simp [bI, h, this]
  · have : 1 < x := Int32.not_le.mp h2
    simp [bI, this]
theorem x_refused {d : Nat} {a b : Bool} {iv : zI} {rv : zR} {lv : zJ} (hT : zTop rv) : Ci mX10_refused (d + 1) [.ref 0, .int (bI a), .int (bI b)] iv rv lv (zP (bI (a || b)) (if a then zu (zu iv 0 12 1) 0 14 (-1) else if b then zu (zu iv 0 12 2) 0 14 (-1) else iv) rv lv) := by
  refine eX10_refused _ _ (bX10_refused_0 _ _ hT ?_)
  cases a with
  | true => exact ⟨fun h => absurd h (by decide), fun _ => zcall (x_refuse hT) hT ⟨fun _ => zP.mk rfl, fun h => absurd h (by decide)⟩⟩
  | false =>
    refine ⟨fun _ => ?_, fun h => absurd rfl h⟩
    cases b with
    | true => exact ⟨fun h => absurd h (by decide), fun _ => zcall (x_refuse hT) hT ⟨fun h => absurd rfl h, fun _ => ⟨fun h => absurd h (by decide), fun _ => zP.mk rfl⟩⟩⟩
    | false => exact ⟨fun _ => ⟨fun h => absurd rfl h, fun _ => ⟨fun _ => zP.mk rfl, fun h => absurd rfl h⟩⟩, fun h => absurd rfl h⟩
theorem x_sideOf {d i s : Nat} (hi : i < 10) (hs : s < 1024) {iv : zI} {rv : zR} {lv : zJ} (hT : zTop rv) : Ci mX10_sideOf d [.int (nI i), .int (nI s)] iv rv lv (zP (bI (s.testBit i != s.testBit 0)) iv rv lv) := by
  have h0 : (nI s &&& 1) = nI (s % 2) := by rw [z_1, bI_and, Nat.and_one_is_mod]
  have hb : ((nI s >>> (nI i &&& 31)) &&& 1) = nI (s / 2 ^ i % 2) := by rw [bI_shr (by omega) (by omega), z_1, bI_and, Nat.and_one_is_mod]
  have t1 : s.testBit i = decide (s / 2 ^ i % 2 = 1) := Nat.testBit_eq_decide_div_mod_eq
  have t0 : s.testBit 0 = decide (s % 2 = 1) := by rw [Nat.testBit_eq_decide_div_mod_eq]; simp
  refine eX10_sideOf _ _ (bX10_sideOf_0 _ _ hT ?_)
  rw [h0, hb, nI_eq (by omega) (by omega), t1, t0]
  refine ⟨fun h => zP.mk ?_, fun h => zP.mk ?_⟩
  · have : (decide (s / 2 ^ i % 2 = 1) != decide (s % 2 = 1)) = true := by
      rcases Nat.mod_two_eq_zero_or_one (s / 2 ^ i) with a | a <;> rcases Nat.mod_two_eq_zero_or_one s with b | b <;> simp [a, b] at h ⊢
    rw [this]
    rfl
  · rw [h]
    simp [bI]
-- NumberHeapsModel
theorem y_refused {d : Nat} {x : Int32} {iv : zI} {rv : zR} {lv : zJ} (hT : zTop rv) : Ci mX11_refused d [.ref 174, .int x] iv rv lv (zP (-1) (zu (zu iv 174 1 x) 174 2 (-1)) rv lv) := by
  refine eX11_refused x (bX11_refused_0 x hT ?_)
  intro w1 e1 w2 e2
  rw [e2, e1]
  exact zP.mk rfl
theorem y_good {d : Nat} {x : Int32} {iv : zI} {rv : zR} {lv : zJ} (hT : zTop rv) : Ci mX11_good d [.ref 174, .int x] iv rv lv (zP x (zu (zu iv 174 1 0) 174 2 (-1)) rv lv) := by
  refine eX11_good x (bX11_good_0 x hT ?_)
  intro w1 e1 w2 e2
  rw [e2, e1]
  exact zP.mk rfl
theorem y_in {d : Nat} {x a b : Int32} {iv : zI} {rv : zR} {lv : zJ} (hT : zTop rv) : Ci mX11_in d [.int x, .int a, .int b] iv rv lv (zP (bI (decide (a ≤ x ∧ x ≤ b))) iv rv lv) := by
  refine eX11_in x a b (bX11_in_0 x a b hT ⟨fun h => zP.mk ?_, fun h => ⟨fun h2 => zP.mk ?_, fun h2 => zP.mk ?_⟩⟩)
  · have : ¬ a ≤ x := Int32.not_le.mpr h
    simp [bI, this]
  · have : ¬ x ≤ b := Int32.not_le.mpr h2
    simp [bI, this]
  · have h3 : a ≤ x := Int32.not_lt.mp h
    have h4 : x ≤ b := Int32.not_lt.mp h2
    simp [bI, h3, h4]
theorem y_isK {d : Nat} {x : Int32} {iv : zI} {rv : zR} {lv : zJ} (hT : zTop rv) : Ci mX11_isK (d + 1) [.int x] iv rv lv (zP (bI (decide (2 ≤ x ∧ x ≤ 4))) iv rv lv) := by
  refine eX11_isK x (bX11_isK_0 x hT (zcall (y_in hT) hT ?_))
  exact ⟨bI_01 _, zP.mk rfl⟩
theorem y_isSum {d : Nat} {x : Int32} {iv : zI} {rv : zR} {lv : zJ} (hT : zTop rv) : Ci mX11_isSum (d + 1) [.int x] iv rv lv (zP (bI (decide (0 ≤ x ∧ x ≤ 99999))) iv rv lv) := by
  refine eX11_isSum x (bX11_isSum_0 x hT (zcall (y_in hT) hT ?_))
  exact ⟨bI_01 _, zP.mk rfl⟩
theorem y_value {d i n : Nat} {v : Nat → Nat} {iv : zI} {rv : zR} {lv : zJ} (hT : zTop rv) (hv : ∀ i, i < n → iv 176 (2 + i) = nI (v i)) (hn : n ≤ 10) (hi : i < n) : Ci mX11_value d [.ref 174, .int (nI i)] iv rv lv (zP (nI (v i)) iv rv lv) := by
  refine eX11_value _ (bX11_value_0 _ hT ?_)
  rw [z_2, nI_add, nI_clamp (by omega), hv i hi]
  exact ⟨vp_in_nI (by omega) (by decide), zP.mk rfl⟩
theorem y_total {d n : Nat} {v : Nat → Nat} {iv : zI} {rv : zR} {lv : zJ} (hT : zTop rv) (hc : iv 176 0 = nI n) (hn : n ≤ 10) (hv : ∀ i, i < n → iv 176 (2 + i) = nI (v i)) : Ci mX11_total (d + 1) [.ref 174] iv rv lv (zP (nI (sm v n)) iv rv lv) := by
  refine eX11_total (bX11_total_0 hT ?_)
  refine zfor (P := fun j => Zi mX11_total (d + 1) 4 [some (.ref 174), some (.int (nI (sm v j))), some (.int (nI j))] [] iv rv lv (zP (nI (sm v n)) iv rv lv)) (c := n) ?_ ?_ 0 (Nat.zero_le _)
  · exact bX11_total_4 _ _ hT ⟨fun _ => zP.mk rfl, fun h => absurd (by rw [hc]; exact nI_le (Nat.le_refl _) (by omega)) h⟩
  · intro j hj ih
    refine bX11_total_4 _ _ hT ⟨fun h => ?_, fun _ => zcall (y_value hT hv hn hj) hT ?_⟩
    · rw [hc] at h
      exact absurd h (nI_ge hj (by omega))
    · rw [nI_add, nI_1]
      exact ih
theorem y_rank {d n i : Nat} {v : Nat → Nat} {iv : zI} {rv : zR} {lv : zJ} (hT : zTop rv) (hc : iv 176 0 = nI n) (hn : n ≤ 10) (hv : ∀ i, i < n → iv 176 (2 + i) = nI (v i)) (hb : ∀ i, i < n → v i < 100000) (hi : i < n) : Ci mX11_rank (d + 1) [.ref 174, .int (nI i)] iv rv lv (zP (nI (rk n v i)) iv rv lv) := by
  refine eX11_rank _ (bX11_rank_0 _ hT ?_)
  refine zfor (P := fun j => Zi mX11_rank (d + 1) 4 [some (.ref 174), some (.int (nI i)), some (.int (nI (rk j v i))), some (.int (nI j))] [] iv rv lv (zP (nI (rk n v i)) iv rv lv)) (c := n) ?_ ?_ 0 (Nat.zero_le _)
  · exact bX11_rank_4 _ _ _ hT ⟨fun _ => zP.mk rfl, fun h => absurd (by rw [hc]; exact nI_le (Nat.le_refl _) (by omega)) h⟩
  · intro j hj ih
    have b1 := hb i hi
    have b2 := hb j hj
    have y : ah v j i = true → rk (j + 1) v i = rk j v i + 1 := fun h => by simp [rk, cn, h]
    have z : ah v j i = false → rk (j + 1) v i = rk j v i := fun h => by simp [rk, cn, h]
    refine bX11_rank_4 _ _ _ hT ⟨fun h => ?_, fun _ => zcall (y_value hT hv hn hj) hT (zcall (y_value hT hv hn hi) hT ⟨fun h => ?_, fun h => zcall (y_value hT hv hn hj) hT (zcall (y_value hT hv hn hi) hT ⟨fun h2 => ?_, fun h2 => ⟨fun h3 => ?_, fun h3 => ?_⟩⟩)⟩)⟩
    · rw [hc] at h
      exact absurd h (nI_ge hj (by omega))
    · rw [nI_ltI (by omega) (by omega)] at h
      rw [nI_1, nI_1, ← y (by simp [ah, h])]
      exact ih
    · rw [nI_ltI (by omega) (by omega)] at h
      rw [nI_eq (by omega) (by omega)] at h2
      have e : ¬ v i = v j := fun q => h2 q.symm
      rw [z_0, nI_add, nI_1, Nat.add_zero, ← z (by simp [ah, h, e])]
      exact ih
    · rw [nI_ltI (by omega) (by omega)] at h
      rw [nI_leI (by omega) (by omega)] at h3
      have e : ¬ j < i := by omega
      rw [z_0, nI_add, nI_1, Nat.add_zero, ← z (by simp [ah, h, e])]
      exact ih
    · rw [nI_ltI (by omega) (by omega)] at h
      rw [nI_eq (by omega) (by omega)] at h2
      rw [nI_leI (by omega) (by omega)] at h3
      have e : j < i := by omega
      rw [nI_1, nI_1, ← y (by simp [ah, h2, e])]
      exact ih
theorem y_ranked {d n r : Nat} {v : Nat → Nat} {iv : zI} {rv : zR} {lv : zJ} (hT : zTop rv) (hc : iv 176 0 = nI n) (hn : n ≤ 10) (hv : ∀ i, i < n → iv 176 (2 + i) = nI (v i)) (hb : ∀ i, i < n → v i < 100000) (hr : r < n) : Ci mX11_ranked (d + 2) [.ref 174, .int (nI r)] iv rv lv (zP (nI (un n v r)) iv rv lv) := by
  have hu := un_lt n v r hr
  refine eX11_ranked _ (bX11_ranked_0 _ hT ?_)
  refine zfor (P := fun j => Zi mX11_ranked (d + 2) 2 [some (.ref 174), some (.int (nI r)), some (.int (nI j))] [] iv rv lv (zP (nI (un n v r)) iv rv lv)) (c := un n v r) ?_ ?_ 0 (Nat.zero_le _)
  · refine bX11_ranked_2 _ _ hT (zcall (y_rank hT hc hn hv hb hu) hT ?_)
    rw [rk_un n v r hr]
    exact ⟨fun _ => zP.mk rfl, fun h => absurd rfl h⟩
  · intro j hj ih
    have hk := un_rk n v j (by omega)
    refine bX11_ranked_2 _ _ hT (zcall (y_rank hT hc hn hv hb (by omega)) hT ⟨fun h => ?_, fun _ => ?_⟩)
    · rw [nI_eq (by omega) (by omega)] at h
      rw [← h, hk.2] at hj
      exact absurd hj (by omega)
    · rw [nI_1]
      exact ih
