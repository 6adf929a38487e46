/-! THE CLASS: sums. -/
def KR (rv : zR) : Prop := (rv 155 0 = some 156 ∧ rv 155 1 = some 157) ∨ (rv 155 0 = some 157 ∧ rv 155 1 = some 156)
theorem KR.at {rv : zR} (h : KR rv) : ∃ r q, rv 155 0 = some r ∧ rv 155 1 = some q ∧ zSH r = (0, 1024) ∧ zSH q = (0, 1024) ∧ r ≠ q ∧ 155 < r ∧ r < 158 ∧ 155 < q ∧ q < 158 := by
  rcases h with ⟨h1, h2⟩ | ⟨h1, h2⟩
  · exact ⟨156, 157, h1, h2, by decide +kernel, by decide +kernel, by decide, by decide, by decide, by decide, by decide⟩
  · exact ⟨157, 156, h1, h2, by decide +kernel, by decide +kernel, by decide, by decide, by decide, by decide, by decide⟩
theorem zTop.z155 {rv : zR} (h : zTop rv) {k : Nat} {x : Option Nat} : zTop (zu rv 155 k x) := by
  obtain ⟨h1, h2, h3, h4, h5, h6, h7, h8, h9, h10⟩ := h
  have a1 : ∀ q ∈ zTl, q.1 ≠ 155 := by decide
  have a2 : ∀ o ∈ zSts, o ≠ 155 := by decide
  have a3 : ∀ o ∈ zIts, o ≠ 155 := by decide
  have a4 : ∀ o ∈ zPts, o ≠ 155 := by decide
  refine ⟨fun q hq => by rw [zu_row (a1 q hq)]; exact h1 q hq, fun o ho => by rw [zu_row (a2 o ho)]; exact h2 o ho, fun o ho => by rw [zu_row (a3 o ho)]; exact h3 o ho, fun o ho => by rw [zu_row (a4 o ho)]; exact h4 o ho, ?_, ?_, ?_, ?_, ?_, ?_⟩
  · rw [zu_row (by decide)]; exact h5
  · rw [zu_row (by decide)]; exact h6
  · rw [zu_row (by decide)]; exact h7
  · rw [zu_row (by decide)]; exact h8
  · rw [zu_row (by decide)]; exact h9
  · rw [zu_row (by decide)]; exact h10
def KW (w : zI) (rv : zR) (s : Sn) (i : Nat) : Prop := w 155 2 = nI (2 ^ i) ∧ ∃ K, KS s i K ∧ ∀ r, rv 155 0 = some r → ∀ j, j < 2 ^ i → w r j = nI (K j)
theorem x_mergeWith {d i : Nat} {s : Sn} {iv : zI} {rv : zR} {lv : zJ} (hT : zTop rv) (vs : VS s) (hi : i < s.1) (hR : KR rv) (hK : KW iv rv s i) :
    Cv mX8_mergeWith d [.ref 155, .int (nI (s.2.2.1 i * 16384 + 1024 + 2 ^ i))] iv rv lv (fun a b c' => zTop b ∧ KR b ∧ (∀ p, p ≠ 155 → b p = rv p) ∧ c' = lv ∧ KW a b s (i + 1) ∧ a 155 3 = iv 155 3 ∧ ∀ p, p < 155 ∨ 157 < p → a p = iv p) := by
  have vn := vs.1
  obtain ⟨r, q, h1, h2, s1, s2, ne, r1, r2, q1, q2⟩ := hR.at
  obtain ⟨k1, K, k2, k3⟩ := hK
  have k3 := k3 r h1
  have pe : 2 ^ (i + 1) = 2 ^ i + 2 ^ i := by rw [Nat.pow_succ]; omega
  have p9 : 2 ^ i ≤ 2 ^ 9 := Nat.pow_le_pow_right (by omega) (by omega)
  have p0 : 0 < 2 ^ i := Nat.two_pow_pos i
  have mb : s.2.2.1 i ≤ 9999 := (vs.2.2.1 i hi).2
  have Kb : ∀ j, j < 2 ^ i → K j + (s.2.2.1 i * 16384 + 1024 + 2 ^ i) < 2 ^ 31 ∧ K j < 2 ^ 31 := fun j hj => by
    obtain ⟨t, ht, e⟩ := k2.mem hj
    have b1 := kyS_b vs (t := t + 2 ^ i) (by omega)
    rw [kyS_add vs hi ht] at b1
    omega
  refine eX8_mergeWith _ (bX8_mergeWith_0 _ hT ?_)
  rw [k1, z_2, pk_mul, show (1024 : Int32) = nI 1024 from rfl, nI_leI (by omega) (by omega)]
  refine ⟨fun _ => ?_, fun z => absurd (by omega) z⟩
  rw [show 2 * 2 ^ i = 2 ^ (i + 1) by omega]
  generalize hM : s.2.2.1 i * 16384 + 1024 + 2 ^ i = more at *
  have key := zfor (c := 2 ^ (i + 1)) (P := fun at' => ∀ (x y : Nat) (C : Nat → Nat) (w : zI), x + y = at' → MG2 K (2 ^ i) more C x y → (∀ j, j < at' → w q j = nI (C j)) → (∀ p, p ≠ q → w p = iv p) → Zv mX8_mergeWith d 23 [some (.ref 155), some (.int (nI more)), some (.int (nI (2 ^ (i + 1)))), some (.int (nI x)), some (.int (nI y)), some (.int (nI at'))] [] w rv lv (fun a b c' => zTop b ∧ KR b ∧ (∀ p, p ≠ 155 → b p = rv p) ∧ c' = lv ∧ KW a b s (i + 1) ∧ a 155 3 = iv 155 3 ∧ ∀ p, p < 155 ∨ 157 < p → a p = iv p)) ?_ ?_
  · exact key 0 (Nat.zero_le _) 0 0 (fun _ => 0) iv rfl ⟨Nat.zero_le _, Nat.zero_le _, fun j hj => absurd hj (Nat.not_lt_zero _), fun z => absurd z (Nat.lt_irrefl _), fun P => rfl⟩ (fun j hj => absurd hj (Nat.not_lt_zero _)) (fun _ _ => rfl)
  · intro x y C w exy mg wq wr
    have x1 := mg.1
    have y1 := mg.2.1
    have ex : x = 2 ^ i := by omega
    have ey : y = 2 ^ i := by omega
    subst ex
    rw [ey] at mg
    rw [← hM] at mg
    have KC := mg.fin vs hi k2
    refine bX8_mergeWith_23 _ _ _ _ _ hT ⟨fun _ => ⟨q, h2, s2, by omega, r, h1, s1, by omega, fun rv3 e3 => ⟨e3 ▸ hT.z155, fun rv5 e5 => ⟨e5 ▸ e3 ▸ (hT.z155).z155, fun w7 e7 => ?_⟩⟩⟩, fun z => absurd (nI_le (by omega) (by omega)) z⟩
    have b0 : rv5 155 0 = some q := by rw [e5, zu_eq]
    have b1 : rv5 155 1 = some r := by rw [e5, zu_k (by decide), e3, zu_eq]
    refine ⟨e5 ▸ e3 ▸ (hT.z155).z155, ?_, fun p hp => by rw [e5, zu_row hp, e3, zu_row hp], rfl, ⟨by rw [e7, zu_eq], C, KC, fun r' hr' j hj => ?_⟩, ?_, fun p hp => by rw [e7, zu_row (by omega)]; exact wr p (by omega)⟩
    · rcases hR with ⟨a, b⟩ | ⟨a, b⟩
      · rw [a] at h1
        rw [b] at h2
        cases h1
        cases h2
        exact Or.inr ⟨b0, b1⟩
      · rw [a] at h1
        rw [b] at h2
        cases h1
        cases h2
        exact Or.inl ⟨b0, b1⟩
    · rw [b0] at hr'
      cases hr'
      rw [e7, zu_row (by omega)]
      exact wq j hj
    · rw [e7, zu_k (by decide), wr 155 (by omega)]
  · intro at' hat ih x y C w exy mg wq wr
    have x1 := mg.1
    have y1 := mg.2.1
    have c2 : w 155 2 = nI (2 ^ i) := by rw [wr 155 (by omega)]; exact k1
    have goL : x < 2 ^ i → (y < 2 ^ i → K x ≤ K y + more) → ∀ w1 : zI, w1 = zu w q at' (nI (K x)) → Zv mX8_mergeWith d 23 [some (.ref 155), some (.int (nI more)), some (.int (nI (2 ^ (i + 1)))), some (.int (nI (x + 1))), some (.int (nI y)), some (.int (nI (at' + 1)))] [] w1 rv lv (fun a b c' => zTop b ∧ KR b ∧ (∀ p, p ≠ 155 → b p = rv p) ∧ c' = lv ∧ KW a b s (i + 1) ∧ a 155 3 = iv 155 3 ∧ ∀ p, p < 155 ∨ 157 < p → a p = iv p) := by
      intro z1 z2 w1 e1
      refine ih (x + 1) y _ w1 (by omega) (mg.left z1 k2.1 z2) (fun j hj => ?_) (fun p hp => by rw [e1, zu_row hp]; exact wr p hp)
      rw [exy, e1]
      by_cases z : j = at'
      · rw [z, zu_eq, up_eq]
      · rw [zu_k z, up_ne z]; exact wq j (by omega)
    have goR : y < 2 ^ i → (x < 2 ^ i → K y + more ≤ K x) → ∀ w1 : zI, w1 = zu w q at' (nI (K y + more)) → Zv mX8_mergeWith d 23 [some (.ref 155), some (.int (nI more)), some (.int (nI (2 ^ (i + 1)))), some (.int (nI x)), some (.int (nI (y + 1))), some (.int (nI (at' + 1)))] [] w1 rv lv (fun a b c' => zTop b ∧ KR b ∧ (∀ p, p ≠ 155 → b p = rv p) ∧ c' = lv ∧ KW a b s (i + 1) ∧ a 155 3 = iv 155 3 ∧ ∀ p, p < 155 ∨ 157 < p → a p = iv p) := by
      intro z1 z2 w1 e1
      refine ih x (y + 1) _ w1 (by omega) (mg.right z1 k2.1 z2) (fun j hj => ?_) (fun p hp => by rw [e1, zu_row hp]; exact wr p hp)
      rw [exy, e1]
      by_cases z : j = at'
      · rw [z, zu_eq, up_eq]
      · rw [zu_k z, up_ne z]; exact wq j (by omega)
    refine bX8_mergeWith_23 _ _ _ _ _ hT ⟨fun z => absurd z (nI_ge hat (by omega)), fun _ => ?_⟩
    rw [c2, nI_leI (show 2 ^ i < 2 ^ 31 by omega) (show y < 2 ^ 31 by omega), nI_leI (show 2 ^ i < 2 ^ 31 by omega) (show x < 2 ^ 31 by omega), nI_clamp (show x < 2 ^ 31 by omega), nI_clamp (show y < 2 ^ 31 by omega), nI_clamp (show at' < 2 ^ 31 by omega), nI_1, nI_1, nI_1]
    refine ⟨fun z => ?_, fun z => ⟨fun z2 => ?_, fun z2 => ?_⟩⟩
    · refine ⟨q, h2, s2, by omega, r, h1, s1, by omega, vp_in_nI (by omega) (by decide), vp_in_nI (by omega) (by decide), ?_⟩
      rw [wr r ne, k3 x (by omega)]
      exact goL (by omega) (fun y => by omega)
    · refine ⟨q, h2, s2, by omega, r, h1, s1, by omega, vp_in_nI (by omega) (by decide), vp_in_nI (by omega) (by decide), ?_⟩
      rw [wr r ne, k3 y (by omega), nI_add]
      exact goR (by omega) (fun y => by omega)
    · have bx := Kb x (by omega)
      have by' := Kb y (by omega)
      refine ⟨r, h1, s1, by omega, vp_in_nI (by omega) (by decide), r, h1, s1, by omega, vp_in_nI (by omega) (by decide), ?_⟩
      rw [wr r ne, k3 x (by omega), k3 y (by omega), nI_add, nI_leI by'.1 bx.2]
      refine ⟨fun z3 => ⟨q, h2, s2, by omega, r, h1, s1, by omega, vp_in_nI (by omega) (by decide), ?_⟩, fun z3 => ⟨q, h2, s2, by omega, r, h1, s1, by omega, vp_in_nI (by omega) (by decide), ?_⟩⟩
      · rw [wr r ne, k3 y (by omega), nI_add]
        exact goR (by omega) (fun _ => z3)
      · rw [wr r ne, k3 x (by omega)]
        exact goL (by omega) (fun _ => by omega)
theorem x_prepQ {d v : Nat} {s : Sn} {iv : zI} {rv : zR} {lv : zJ} (hT : zTop rv) (cs : CS iv 8 s) (vs : VS s) (hR : KR rv) (hv : v < 2 ^ 31) (hc : iv 155 3 = -1 ∨ ∃ u, u ≤ v ∧ iv 155 3 = nI u ∧ (u = v → KW iv rv s s.1)) :
    Cv mX8_prepare (d + 1) [.ref 155, .ref 8, .int (nI v)] iv rv lv (fun a b c' => zTop b ∧ KR b ∧ (∀ p, p ≠ 155 → b p = rv p) ∧ c' = lv ∧ KW a b s s.1 ∧ a 155 3 = nI v ∧ ∀ p, p < 155 ∨ 157 < p → a p = iv p) := by
  have vn := vs.1
  refine eX8_prepare 8 _ (bX8_prepare_0 8 _ hT (by decide) ⟨fun hne => ?_, fun he => ?_⟩)
  · intro w1 e1
    obtain ⟨r, q, h1, h2, s1, s2, ne, r1, r2, q1, q2⟩ := hR.at
    refine ⟨r, h1, s1, by omega, fun w2 e2 w3 e3 => ?_⟩
    have key := zfor (c := s.1) (P := fun i => ∀ (w : zI) (b : zR), zTop b → KR b → (∀ p, p ≠ 155 → b p = rv p) → KW w b s i → w 155 3 = nI v → (∀ p, p < 155 ∨ 157 < p → w p = iv p) → Zv mX8_prepare (d + 1) 28 [some (.ref 155), some (.ref 8), some (.int (nI v)), some (.int (nI i))] [] w b lv (fun a b c' => zTop b ∧ KR b ∧ (∀ p, p ≠ 155 → b p = rv p) ∧ c' = lv ∧ KW a b s s.1 ∧ a 155 3 = nI v ∧ ∀ p, p < 155 ∨ 157 < p → a p = iv p)) ?_ ?_
    · refine key 0 (by omega) w3 rv hT hR (fun _ _ => rfl) ⟨by rw [e3, zu_eq]; rfl, fun _ => 0, KS.zero, fun r' hr' j hj => ?_⟩ ?_ (fun p hp => by rw [e3, zu_row (by omega), e2, zu_row (by omega), e1, zu_row (by omega)])
      · rw [h1] at hr'
        cases hr'
        have : j = 0 := by
          have : 2 ^ 0 = 1 := rfl
          omega
        rw [this, e3, zu_row (by omega), e2, zu_eq]
        rfl
      · rw [e3, zu_k (by decide), e2, zu_row (by omega), e1, zu_eq]
    · intro w b g1 g2 g3 g4 g5 g6
      exact bX8_prepare_28 8 _ _ g1 (by decide) ⟨fun _ => ⟨g1, g2, g3, rfl, g4, g5, g6⟩, fun z => absurd (by rw [g6 8 (by omega), cs.1]; exact nI_le (by omega) (by omega)) z⟩
    · intro i hi ih w b g1 g2 g3 g4 g5 g6
      have vi := vs.2.2.1 i hi
      refine bX8_prepare_28 8 _ _ g1 (by decide) ⟨fun z => absurd z (by rw [g6 8 (by omega), cs.1]; exact nI_ge hi (by omega)), fun _ => ?_⟩
      have c9 : w (8 + 1) i = nI (s.2.2.1 i) := by rw [g6 (8 + 1) (by omega)]; exact cs.2.2.1 i hi
      have sh : nI (s.2.2.1 i) <<< ((14 : Int32) &&& 31) = nI (s.2.2.1 i * 2 ^ 14) := bI_shl (n := s.2.2.1 i) (k := 14) (by omega) (by omega)
      rw [nI_clamp (show i < 2 ^ 31 by omega), c9, sh, bI_1shl (by omega), show (1024 : Int32) = nI 1024 from rfl, nI_add, nI_add, nI_1, show s.2.2.1 i * 2 ^ 14 + 1024 + 2 ^ i = s.2.2.1 i * 16384 + 1024 + 2 ^ i by omega]
      refine ⟨vp_in_nI (by omega) (by decide), zcallV (x_mergeWith g1 vs hi g2 g4) ?_⟩
      rintro a b2 c2 ⟨m1, m2, m3, rfl, m4, m5, m6⟩
      exact ⟨m1, ih a b2 m1 m2 (fun p hp => by rw [m3 p hp]; exact g3 p hp) m4 (by rw [m5]; exact g5) (fun p hp => by rw [m6 p hp]; exact g6 p hp)⟩
  · refine ⟨hT, hR, fun _ _ => rfl, rfl, ?_, he, fun _ _ => rfl⟩
    rcases hc with hc | ⟨u, hu, hc, hk⟩
    · rw [hc] at he
      exact absurd he (nI_m1 hv)
    · rw [hc, nI_eq (by omega) hv] at he
      exact hk he
