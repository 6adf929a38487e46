/-! ALL ROWS: how many, whether there are any, and when it is vain to go on. -/
/-- some row, or none -/
def gd (A : Ac) : Prop := (A.1 < 1000000 ∧ 0 < A.2.1) ∨ (A.1 = 1000000 ∧ A.2.1 = 0 ∧ A.2.2.1 = 1000000)
theorem gd_cb {A B : Ac} (ha : gd A) (hb : gd B) : gd (cb A B) ∧ (0 < (cb A B).2.1 ↔ 0 < A.2.1 ∨ 0 < B.2.1) := by
  obtain ⟨a1, a2, a3, a4⟩ := A
  obtain ⟨b1, b2, b3, b4⟩ := B
  have ha : (a1 < 1000000 ∧ 0 < a2) ∨ (a1 = 1000000 ∧ a2 = 0 ∧ a3 = 1000000) := ha
  have hb : (b1 < 1000000 ∧ 0 < b2) ∨ (b1 = 1000000 ∧ b2 = 0 ∧ b3 = 1000000) := hb
  show ((min a1 b1 < 1000000 ∧ 0 < (if a1 ≤ b1 then a2 else 0) + (if b1 ≤ a1 then b2 else 0)) ∨ (min a1 b1 = 1000000 ∧ (if a1 ≤ b1 then a2 else 0) + (if b1 ≤ a1 then b2 else 0) = 0 ∧ min a3 b3 = 1000000)) ∧ (0 < (if a1 ≤ b1 then a2 else 0) + (if b1 ≤ a1 then b2 else 0) ↔ 0 < a2 ∨ 0 < b2)
  repeat' split
  all_goals omega
theorem gd_fdq {okc : Nat → Bool} {C : Nat → Ac} : ∀ m, (∀ h, h < m → gd (C h)) → gd (fdq okc C m) ∧ (0 < (fdq okc C m).2.1 ↔ ∃ h, h < m ∧ okc h = true ∧ 0 < (C h).2.1)
  | 0, _ => ⟨Or.inr ⟨rfl, rfl, rfl⟩, fun h => absurd h (Nat.lt_irrefl _), fun ⟨h, hh, _⟩ => absurd hh (Nat.not_lt_zero _)⟩
  | m + 1, hC => by
    obtain ⟨i1, i2⟩ := gd_fdq (okc := okc) m (fun h hh => hC h (by omega))
    rw [fdq]
    cases q : okc m with
    | true =>
      rw [if_pos rfl]
      obtain ⟨g1, g2⟩ := gd_cb i1 (hC m (by omega))
      refine ⟨g1, g2.trans ⟨?_, ?_⟩⟩
      · rintro (h | h)
        · obtain ⟨x, hx, h⟩ := i2.mp h
          exact ⟨x, by omega, h⟩
        · exact ⟨m, by omega, q, h⟩
      · rintro ⟨x, hx, h1, h2⟩
        by_cases e : x = m
        · right; rw [← e]; exact h2
        · exact Or.inl (i2.mpr ⟨x, by omega, h1, h2⟩)
    | false =>
      rw [if_neg (by simp)]
      refine ⟨i1, i2.trans ⟨?_, ?_⟩⟩
      · rintro ⟨x, hx, h⟩
        exact ⟨x, by omega, h⟩
      · rintro ⟨x, hx, h1, h2⟩
        by_cases e : x = m
        · rw [e, q] at h1
          cases h1
        · exact ⟨x, by omega, h1, h2⟩
theorem mx_hs {s : Sn} (vs : VS s) (ρ : Nat → Nat) (k : Nat) : mx (hsum s.1 s.2.2.1 ρ) k ≤ 99990 := mx_b k (fun j _ => hsum_le s.1 s.2.2.1 ρ j vs.1.2 (fun i hi => (vs.2.2.1 i hi).2)) (hsum_le s.1 s.2.2.1 ρ 0 vs.1.2 (fun i hi => (vs.2.2.1 i hi).2))
theorem tq_gd {s : Sn} (vs : VS s) {k : Nat} {cm : Bool} : ∀ (r : Nat) (ρ : Nat → Nat), gd (tq s k cm r ρ)
  | 0, ρ => by
    rw [tq, lfq]
    have := mx_hs vs ρ k
    cases cm with
    | true => exact Or.inl ⟨by show 0 < 1000000; omega, by show 0 < 1; omega⟩
    | false =>
      refine Or.inl ⟨?_, by show 0 < 1; omega⟩
      show spr (hsum s.1 s.2.2.1 ρ) k < 1000000
      unfold spr
      omega
  | r + 1, ρ => by
    rw [tq]
    exact (gd_fdq k (fun h _ => tq_gd vs r _)).1
theorem tq_pos {s : Sn} (vs : VS s) {k : Nat} {cm : Bool} (r : Nat) (ρ : Nat → Nat) : 0 < (tq s k cm (r + 1) ρ).2.1 ↔ ∃ h, h < k ∧ okR s ρ (s.1 - (r + 1)) h = true ∧ 0 < (tq s k cm r (up ρ (s.1 - (r + 1)) h)).2.1 := by
  rw [tq]
  exact (gd_fdq k (fun h _ => tq_gd vs r _)).2
theorem tq_cm {s : Sn} (vs : VS s) {k : Nat} : ∀ (r : Nat) (ρ : Nat → Nat), 0 < (tq s k true r ρ).2.1 ↔ 0 < (tq s k false r ρ).2.1
  | 0, ρ => by
    rw [tq, tq, lfq, lfq]
    exact ⟨fun _ => by show 0 < 1; omega, fun _ => by show 0 < 1; omega⟩
  | r + 1, ρ => by
    rw [tq_pos vs, tq_pos vs]
    constructor
    · rintro ⟨h, h1, h2, h3⟩
      exact ⟨h, h1, h2, (tq_cm vs r _).mp h3⟩
    · rintro ⟨h, h1, h2, h3⟩
      exact ⟨h, h1, h2, (tq_cm vs r _).mpr h3⟩
theorem tq_none {s : Sn} (vs : VS s) {k i0 : Nat} {cm : Bool} (hi : i0 < s.1) (hk : k < kp s i0) : ∀ (r : Nat), r ≤ s.1 → s.1 - r ≤ i0 → ∀ ρ, ¬ 0 < (tq s k cm r ρ).2.1
  | 0, _, h, _ => by omega
  | r + 1, hr, h, ρ => by
    rw [tq_pos vs]
    rintro ⟨x, h1, h2, h3⟩
    by_cases e : s.1 - (r + 1) = i0
    · unfold okR at h2
      rw [e, Bool.and_eq_true, Bool.or_eq_true, beq_iff_eq, beq_iff_eq] at h2
      have := h2.1
      omega
    · exact tq_none vs hi hk r (by omega) (by omega) _ h3
theorem fdq_c {okc : Nat → Bool} {C : Nat → Ac} {B : Nat} : ∀ m, (∀ h, h < m → (C h).2.1 ≤ B) → (fdq okc C m).2.1 ≤ m * B
  | 0, _ => Nat.zero_le _
  | m + 1, hC => by
    have ih := fdq_c (okc := okc) m (fun h hh => hC h (by omega))
    have := hC m (by omega)
    rw [fdq, Nat.add_mul, Nat.one_mul]
    split
    · show (if (fdq okc C m).1 ≤ (C m).1 then (fdq okc C m).2.1 else 0) + (if (C m).1 ≤ (fdq okc C m).1 then (C m).2.1 else 0) ≤ m * B + B
      repeat' split
      all_goals omega
    · omega
theorem tq_c {s : Sn} {k : Nat} {cm : Bool} : ∀ (r : Nat) (ρ : Nat → Nat), (tq s k cm r ρ).2.1 ≤ k ^ r
  | 0, ρ => by
    rw [tq, lfq]
    cases cm <;> exact Nat.le_refl _
  | r + 1, ρ => by
    rw [tq, Nat.pow_succ, Nat.mul_comm]
    exact fdq_c k (fun h _ => tq_c r _)
theorem tq_c10 {s : Sn} (vs : VS s) {k r : Nat} {cm : Bool} (hk : k ≤ 4) (hr : r ≤ 10) (ρ : Nat → Nat) : (tq s k cm r ρ).2.1 ≤ 1048576 := by
  have h1 := tq_c (s := s) (k := k) (cm := cm) r ρ
  have h2 : k ^ r ≤ 4 ^ r := Nat.pow_le_pow_left hk r
  have h3 : 4 ^ r ≤ 4 ^ 10 := Nat.pow_le_pow_right (by omega) hr
  omega
theorem gd_le {A : Ac} (h : gd A) : A.1 ≤ 1000000 := by
  rcases h with h | h <;> omega
theorem tq_t {s : Sn} (vs : VS s) {k : Nat} {cm : Bool} : ∀ (r : Nat) (ρ : Nat → Nat), (tq s k cm r ρ).2.2.1 ≤ 1000000
  | 0, ρ => by
    rw [tq, lfq]
    have := mx_hs vs ρ k
    cases cm with
    | true => exact Nat.zero_le _
    | false =>
      show mx (hsum s.1 s.2.2.1 ρ) k ≤ 1000000
      omega
  | r + 1, ρ => by
    rw [tq]
    exact (fdq_le _ _ k).2
/-- a number from which none lies apart: where it lies only counts -/
theorem fd3_same {X : T3} {okc : Nat → Bool} (h1 : X.1 ≤ 1000000) (h2 : X.2.2 ≤ 1000000) : ∀ m, (lk okc m = 0 ∧ fd3 (fun h => if okc h then X else e3) m = e3) ∨ (0 < lk okc m ∧ fd3 (fun h => if okc h then X else e3) m = (X.1, lk okc m * X.2.1, X.2.2))
  | 0 => Or.inl ⟨rfl, rfl⟩
  | m + 1 => by
    rw [fd3, lk_s]
    cases q : okc m with
    | false =>
      rw [if_neg (by simp), o3_e (fd3_le _ _).1 (fd3_le _ _).2]
      exact fd3_same h1 h2 m
    | true =>
      rw [if_pos rfl]
      right
      rcases fd3_same (okc := okc) h1 h2 m with ⟨l1, l2⟩ | ⟨l1, l2⟩
      · rw [l1, l2]
        refine ⟨by show 0 < 0 + 1; omega, ?_⟩
        rw [o3_comm]
        have := o3_e (A := X) h1 h2
        rw [this]
        show X = (X.1, (0 + 1) * X.2.1, X.2.2)
        rw [Nat.zero_add, Nat.one_mul]
      · rw [l2]
        refine ⟨by omega, ?_⟩
        unfold o3
        refine Prod.ext (Nat.min_self _) (Prod.ext ?_ (Nat.min_self _))
        show (if X.1 ≤ X.1 then lk okc m * X.2.1 else 0) + (if X.1 ≤ X.1 then X.2.1 else 0) = (lk okc m + 1) * X.2.1
        rw [if_pos (Nat.le_refl _), if_pos (Nat.le_refl _), Nat.add_mul, Nat.one_mul]
theorem lk_all : ∀ m, lk (fun _ => true) m = m
  | 0 => rfl
  | m + 1 => by rw [lk_s, lk_all m]; rfl
theorem lk_one {h0 : Nat} : ∀ m, h0 < m → lk (fun h => h0 + 1 == h + 1) m = 1
  | 0, h => absurd h (Nat.not_lt_zero _)
  | m + 1, h => by
    rw [lk_s]
    by_cases e : h0 = m
    · have z : ∀ n, n ≤ h0 → lk (fun h => h0 + 1 == h + 1) n = 0 := by
        intro n
        induction n with
        | zero => exact fun _ => rfl
        | succ n ih =>
          intro hn
          rw [lk_s, ih (by omega), beq_eq_false_iff_ne.mpr (by omega)]
          rfl
      rw [z m (by omega), e, beq_self_eq_true]
      rfl
    · rw [lk_one m (by omega), beq_eq_false_iff_ne.mpr (by omega)]
      rfl
theorem tq_any {s : Sn} (vs : VS s) {k r : Nat} {ρ : Nat → Nat} (hr : r < s.1) (hf : ∀ t, ap s (s.1 - (r + 1)) t = false) (hk : kp s (s.1 - (r + 1)) ≤ k) :
    p3 (tq s k true (r + 1) ρ) = p3 (sc (if kp s (s.1 - (r + 1)) = 0 then k else 1) (tq s k true r (up ρ (s.1 - (r + 1)) 9))) ∨ k = 0 := by
  by_cases k0 : k = 0
  · exact Or.inr k0
  left
  rw [tq, p3_fdq]
  have nf : ∀ h, foe s ρ (s.1 - (r + 1)) h = false := fun h => by
    cases q : foe s ρ (s.1 - (r + 1)) h with
    | false => rfl
    | true =>
      obtain ⟨j, hj, z⟩ := (exB_iff _).mp q
      rw [hf j] at z
      cases z
  have e : ∀ h, p3 (tq s k true r (up ρ (s.1 - (r + 1)) h)) = p3 (tq s k true r (up ρ (s.1 - (r + 1)) 9)) := fun h => tq_cg r (by omega) _ _ (fun j hj => by
    by_cases z : j = s.1 - (r + 1)
    · right
      rw [z]
      exact ⟨rfl, hf⟩
    · left
      rw [up_ne z, up_ne z])
  have e1 : fd3 (fun h => if okR s ρ (s.1 - (r + 1)) h then p3 (tq s k true r (up ρ (s.1 - (r + 1)) h)) else e3) k = fd3 (fun h => if (kp s (s.1 - (r + 1)) == 0 || kp s (s.1 - (r + 1)) == h + 1) then p3 (tq s k true r (up ρ (s.1 - (r + 1)) 9)) else e3) k := fd3_cg k (fun h _ => by
    unfold okR
    rw [nf h, e h, Bool.not_false, Bool.and_true])
  rw [e1]
  have x1 := gd_le (tq_gd vs (k := k) (cm := true) r (up ρ (s.1 - (r + 1)) 9))
  have x2 := tq_t vs (k := k) (cm := true) r (up ρ (s.1 - (r + 1)) 9)
  have hl : lk (fun h => kp s (s.1 - (r + 1)) == 0 || kp s (s.1 - (r + 1)) == h + 1) k = if kp s (s.1 - (r + 1)) = 0 then k else 1 := by
    by_cases z : kp s (s.1 - (r + 1)) = 0
    · rw [if_pos z]
      simp only [z, beq_self_eq_true, Bool.true_or]
      exact lk_all k
    · rw [if_neg z]
      obtain ⟨h0, hh⟩ : ∃ h0, kp s (s.1 - (r + 1)) = h0 + 1 := ⟨kp s (s.1 - (r + 1)) - 1, by omega⟩
      rw [hh] at hk ⊢
      simp only [beq_eq_false_iff_ne.mpr (Nat.succ_ne_zero h0), Bool.false_or]
      exact lk_one k (by omega)
  rcases fd3_same (okc := fun h => kp s (s.1 - (r + 1)) == 0 || kp s (s.1 - (r + 1)) == h + 1) (X := p3 (tq s k true r (up ρ (s.1 - (r + 1)) 9))) x1 x2 k with ⟨l1, l2⟩ | ⟨l1, l2⟩
  · rw [hl] at l1
    split at l1 <;> omega
  · rw [l2, hl]
    rfl
/-- all heaps together -/
theorem hsum_1 {n : Nat} {v ρ : Nat → Nat} (h : Nat) : hsum (n + 1) v ρ h = hsum n v ρ h + wt (ρ n == h) (v n) := rfl
theorem hsum_tot {v ρ : Nat → Nat} {k : Nat} : ∀ n, (∀ j, j < n → ρ j < k) → sm (hsum n v ρ) k = sm v n
  | 0, _ => sm_0 k
  | n + 1, h => by
    have e := sm_a1 (f := hsum n v ρ) (g := hsum (n + 1) v ρ) (i0 := ρ n) (x := v n) (n := k) (h n (by omega)) (fun i _ hi => by
      rw [hsum_1, beq_eq_false_iff_ne.mpr (fun z => hi z.symm)]
      rfl) (by
      rw [hsum_1, beq_self_eq_true]
      rfl)
    rw [e, hsum_tot n (fun j hj => h j (by omega))]
    rfl
theorem hsum_up {n h' : Nat} {v ρ : Nat → Nat} (h : Nat) : hsum (n + 1) v (up ρ n h') h = hsum n v ρ h + wt (h' == h) (v n) := by
  rw [hsum_1, up_eq, hsum_congr (σ := ρ) (fun i hi => up_ne (by omega))]
theorem fdq_lb {okc : Nat → Bool} {C : Nat → Ac} {D E : Nat} (hD : D ≤ 1000000) (hE : E ≤ 1000000) : ∀ m, (∀ h, h < m → D ≤ (C h).1 ∧ E ≤ (C h).2.2.1) → D ≤ (fdq okc C m).1 ∧ E ≤ (fdq okc C m).2.2.1
  | 0, _ => ⟨hD, hE⟩
  | m + 1, hC => by
    have ih := fdq_lb (okc := okc) hD hE m (fun h hh => hC h (by omega))
    have := hC m (by omega)
    rw [fdq]
    split
    · show D ≤ min (fdq okc C m).1 (C m).1 ∧ E ≤ min (fdq okc C m).2.2.1 (C m).2.2.1
      omega
    · exact ih
theorem tq_lb {s : Sn} {k D E : Nat} {g : Nat → Nat} (hD : D ≤ 1000000) (hE : E ≤ 1000000) (lf : ∀ ρ : Nat → Nat, (∀ j, j < s.1 → ρ j < k) → (∀ h, h < k → g h ≤ hsum s.1 s.2.2.1 ρ h) → D ≤ spr (hsum s.1 s.2.2.1 ρ) k ∧ E ≤ mx (hsum s.1 s.2.2.1 ρ) k) :
    ∀ (r : Nat), r ≤ s.1 → ∀ ρ : Nat → Nat, (∀ j, j < s.1 - r → ρ j < k) → (∀ h, h < k → g h ≤ hsum (s.1 - r) s.2.2.1 ρ h) → D ≤ (tq s k false r ρ).1 ∧ E ≤ (tq s k false r ρ).2.2.1
  | 0, _, ρ, h1, h2 => lf ρ h1 h2
  | r + 1, hr, ρ, h1, h2 => by
    rw [tq]
    refine fdq_lb hD hE k (fun h hh => tq_lb hD hE lf r (by omega) _ (fun j hj => ?_) (fun x hx => ?_))
    · by_cases z : j = s.1 - (r + 1)
      · rw [z, up_eq]; exact hh
      · rw [up_ne z]; exact h1 j (by omega)
    · rw [show s.1 - r = s.1 - (r + 1) + 1 by omega, hsum_up]
      exact Nat.le_trans (h2 x hx) (Nat.le_add_right _ _)
theorem vain {k T rest : Nat} {g G : Nat → Nat} (hk1 : 2 ≤ k) (hk : k ≤ 4) (h1 : ∀ h, h < k → g h ≤ G h) (h2 : sm G k = T) (h3 : sm g k + rest = T) : max (mx g k) ((T - mn g k - rest + k - 2) / (k - 1)) ≤ mx G k ∧ mn G k ≤ min (mn g k + rest) ((T - mx g k) / (k - 1)) := by
  have hh : k = 2 ∨ k = 3 ∨ k = 4 := by omega
  rcases hh with rfl | rfl | rfl
  · have a0 := h1 0 (by omega)
    have a1 := h1 1 (by omega)
    simp only [sm, mx, mn] at *
    omega
  · have a0 := h1 0 (by omega)
    have a1 := h1 1 (by omega)
    have a2 := h1 2 (by omega)
    simp only [sm, mx, mn] at *
    omega
  · have a0 := h1 0 (by omega)
    have a1 := h1 1 (by omega)
    have a2 := h1 2 (by omega)
    have a3 := h1 3 (by omega)
    simp only [sm, mx, mn] at *
    omega
theorem cb_vain {A B : Ac} {w : Nat} (h1 : A.1 < B.1) (h2 : A.2.2.1 ≤ B.2.2.1) : cb A (sc w B) = A := by
  unfold cb sc
  refine Prod.ext (Nat.min_eq_left (by omega)) (Prod.ext ?_ (Prod.ext (Nat.min_eq_left h2) ?_))
  · show (if A.1 ≤ B.1 then A.2.1 else 0) + (if B.1 ≤ A.1 then w * B.2.1 else 0) = A.2.1
    rw [if_pos (by omega), if_neg (by omega), Nat.add_zero]
  · show (if B.1 < A.1 then _ else A.2.2.2) = A.2.2.2
    rw [if_neg (by omega)]
theorem cb_none {A B : Ac} {w : Nat} (h1 : A.1 ≤ 1000000) (h2 : A.2.2.1 ≤ 1000000) (hB : gd B) (h0 : ¬ 0 < B.2.1) : cb A (sc w B) = A := by
  have hB : B.1 = 1000000 ∧ B.2.1 = 0 ∧ B.2.2.1 = 1000000 := by
    rcases hB with h | h
    · exact absurd h.2 h0
    · exact h
  unfold cb sc
  refine Prod.ext (Nat.min_eq_left (show A.1 ≤ B.1 by omega)) (Prod.ext ?_ (Prod.ext (Nat.min_eq_left (show A.2.2.1 ≤ B.2.2.1 by omega)) ?_))
  · show (if A.1 ≤ B.1 then A.2.1 else 0) + (if B.1 ≤ A.1 then w * B.2.1 else 0) = A.2.1
    rw [if_pos (by omega), hB.2.1, Nat.mul_zero, ite_self, Nat.add_zero]
  · show (if B.1 < A.1 then _ else A.2.2.2) = A.2.2.2
    rw [if_neg (by omega)]
