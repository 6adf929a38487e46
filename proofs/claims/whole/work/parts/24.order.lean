/-! ORDER BY SIZE: counting, ranks, the order itself. -/
def cn (p : Nat → Bool) : Nat → Nat
  | 0 => 0
  | n + 1 => cn p n + (if p n then 1 else 0)
theorem cn_le (p : Nat → Bool) : ∀ n, cn p n ≤ n
  | 0 => Nat.le_refl _
  | n + 1 => by
    have := cn_le p n
    simp only [cn]
    split <;> omega
theorem cn_mono {p q : Nat → Bool} : ∀ n, (∀ j, j < n → p j = true → q j = true) → cn p n ≤ cn q n
  | 0, _ => Nat.le_refl _
  | n + 1, h => by
    have h1 := cn_mono n (fun j hj => h j (by omega))
    have h2 := h n (by omega)
    simp only [cn]
    by_cases e : p n = true
    · simp only [e, h2 e, if_true]
      omega
    · simp only [e]
      by_cases e2 : q n = true
      · simp [e2]
        omega
      · simp [e2]
        omega
theorem cn_congr {p q : Nat → Bool} : ∀ n, (∀ j, j < n → p j = q j) → cn p n = cn q n
  | 0, _ => rfl
  | n + 1, h => by
    simp only [cn]
    rw [cn_congr n (fun j hj => h j (by omega)), h n (by omega)]
def ah (v : Nat → Nat) (i j : Nat) : Bool := decide (v j < v i) || (decide (v j = v i) && decide (i < j))
def rk (n : Nat) (v : Nat → Nat) (i : Nat) : Nat := cn (fun j => ah v j i) n
def gec (n : Nat) (v : Nat → Nat) (t : Nat) : Nat := cn (fun j => decide (t ≤ v j)) n
theorem gec_le (n : Nat) (v : Nat → Nat) (t : Nat) : gec n v t ≤ n := cn_le _ n
theorem gec_mono {n : Nat} {v : Nat → Nat} {t u : Nat} (h : t ≤ u) : gec n v u ≤ gec n v t := cn_mono n (fun j _ hj => by
  simp only [decide_eq_true_eq] at hj ⊢
  omega)
theorem gec_succ (n : Nat) (v : Nat → Nat) (t : Nat) : gec (n + 1) v t = gec n v t + (if t ≤ v n then 1 else 0) := by
  simp only [gec, cn, decide_eq_true_eq]
def un : Nat → (Nat → Nat) → Nat → Nat
  | 0, _, _ => 0
  | n + 1, v, r => if r < gec n v (v n) then un n v r else if r = gec n v (v n) then n else un n v (r - 1)
theorem un_lt : ∀ (n : Nat) (v : Nat → Nat) (r : Nat), r < n → un n v r < n
  | 0, _, _, h => absurd h (Nat.not_lt_zero _)
  | n + 1, v, r, h => by
    have hp := gec_le n v (v n)
    simp only [un]
    split
    · have := un_lt n v r (by omega)
      omega
    · split
      · omega
      · have := un_lt n v (r - 1) (by omega)
        omega
theorem un_val : ∀ (n : Nat) (v : Nat → Nat) (t r : Nat), r < n → (v (un n v r) < t ↔ gec n v t ≤ r)
  | 0, _, _, _, h => absurd h (Nat.not_lt_zero _)
  | n + 1, v, t, r, h => by
    have hp := gec_le n v (v n)
    rw [gec_succ]
    simp only [un]
    by_cases ht : t ≤ v n
    · have hm := gec_mono (n := n) (v := v) ht
      simp only [ht, if_true]
      split
      · rw [un_val n v t r (by omega)]
        omega
      · split
        · omega
        · rw [un_val n v t (r - 1) (by omega)]
          omega
    · have hm := gec_mono (n := n) (v := v) (show v n ≤ t by omega)
      simp only [ht, if_false]
      split
      · rw [un_val n v t r (by omega)]
        omega
      · split
        · omega
        · rw [un_val n v t (r - 1) (by omega)]
          omega
theorem rk_last (n : Nat) (v : Nat → Nat) : rk (n + 1) v n = gec n v (v n) := by
  simp only [rk, cn]
  have h1 : ah v n n = false := by simp [ah]
  simp only [h1, gec]
  rw [cn_congr n (q := fun j => decide (v n ≤ v j))]
  · simp
  · intro j hj
    simp only [ah]
    by_cases a : v n < v j
    · simp [a, Nat.le_of_lt a]
    · by_cases b : v n = v j
      · simp [b, hj]
      · have c : ¬ v n ≤ v j := by omega
        simp [a, b, c]
theorem rk_succ {n : Nat} (v : Nat → Nat) {x : Nat} (hx : x < n) : rk (n + 1) v x = rk n v x + (if v x < v n then 1 else 0) := by
  simp only [rk, cn]
  have h1 : ah v n x = decide (v x < v n) := by
    have : ¬ n < x := by omega
    simp [ah, this]
  simp [h1]
theorem rk_un : ∀ (n : Nat) (v : Nat → Nat) (r : Nat), r < n → rk n v (un n v r) = r
  | 0, _, _, h => absurd h (Nat.not_lt_zero _)
  | n + 1, v, r, h => by
    have hp := gec_le n v (v n)
    simp only [un]
    split
    · have h1 := un_val n v (v n) r (by omega)
      rw [rk_succ v (un_lt n v r (by omega)), rk_un n v r (by omega)]
      simp only [h1]
      split <;> omega
    · split
      · rw [rk_last]
        omega
      · have h1 := un_val n v (v n) (r - 1) (by omega)
        rw [rk_succ v (un_lt n v (r - 1) (by omega)), rk_un n v (r - 1) (by omega)]
        simp only [h1]
        split <;> omega
theorem un_rk : ∀ (n : Nat) (v : Nat → Nat) (i : Nat), i < n → rk n v i < n ∧ un n v (rk n v i) = i
  | 0, _, _, h => absurd h (Nat.not_lt_zero _)
  | n + 1, v, i, h => by
    have hp := gec_le n v (v n)
    by_cases e : i = n
    · subst e
      rw [rk_last]
      refine ⟨by omega, ?_⟩
      simp only [un]
      simp
    · have hi : i < n := by omega
      obtain ⟨h1, h2⟩ := un_rk n v i hi
      have h3 := un_val n v (v n) (rk n v i) h1
      rw [h2] at h3
      rw [rk_succ v hi]
      by_cases c : v i < v n
      · have h4 := h3.mp c
        simp only [c, if_true]
        refine ⟨by omega, ?_⟩
        simp only [un]
        rw [if_neg (by omega), if_neg (by omega)]
        exact h2
      · have h4 : ¬ gec n v (v n) ≤ rk n v i := fun q => c (h3.mpr q)
        simp only [c, if_false, Nat.add_zero]
        refine ⟨by omega, ?_⟩
        simp only [un]
        rw [if_pos (by omega)]
        exact h2
theorem un_inj {n : Nat} {v : Nat → Nat} {r s : Nat} (hr : r < n) (hs : s < n) (h : un n v r = un n v s) : r = s := by
  rw [← rk_un n v r hr, h, rk_un n v s hs]
