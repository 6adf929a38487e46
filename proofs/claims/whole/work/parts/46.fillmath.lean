/-! HEAPS FILLED, CLIMBED: what is meant. -/
def up (f : Nat → Nat) (i x : Nat) : Nat → Nat := fun j => if j = i then x else f j
theorem up_eq {f : Nat → Nat} {i x : Nat} : up f i x i = x := by simp [up]
theorem up_ne {f : Nat → Nat} {i x j : Nat} (h : j ≠ i) : up f i x j = f j := by simp [up, h]
theorem up_id {f : Nat → Nat} {i : Nat} : up f i (f i) = f := by
  funext j
  by_cases h : j = i
  · rw [h, up_eq]
  · rw [up_ne h]
theorem sm_a1 {f g : Nat → Nat} {i0 x : Nat} : ∀ {n : Nat}, i0 < n → (∀ i, i < n → i ≠ i0 → g i = f i) → g i0 = f i0 + x → sm g n = sm f n + x
  | 0, h, _, _ => absurd h (Nat.not_lt_zero _)
  | n + 1, h, h1, h2 => by
    simp only [sm]
    by_cases e : i0 = n
    · subst e
      rw [sm_congr i0 (fun i hi => h1 i (by omega) (by omega)), h2]
      omega
    · rw [sm_a1 (by omega) (fun i hi he => h1 i (by omega) he) h2, h1 n (by omega) (fun q => e q.symm)]
      omega
/-- the first of the least below k -/
def lh (s : Nat → Nat) : Nat → Nat
  | 0 => 0
  | j + 1 => if s j < s (lh s j) then j else lh s j
theorem lh_lt (s : Nat → Nat) : ∀ k, 0 < k → lh s k < k
  | 0, h => absurd h (Nat.lt_irrefl _)
  | 1, _ => by simp [lh]
  | k + 2, _ => by
    have := lh_lt s (k + 1) (by omega)
    rw [lh]
    split <;> omega
def mx (s : Nat → Nat) : Nat → Nat
  | 0 => s 0
  | j + 1 => max (mx s j) (s j)
def mn (s : Nat → Nat) : Nat → Nat
  | 0 => s 0
  | j + 1 => min (mn s j) (s j)
theorem mx_1 (s : Nat → Nat) : mx s 1 = s 0 := by simp [mx]
theorem mn_1 (s : Nat → Nat) : mn s 1 = s 0 := by simp [mn]
theorem mx_ge (s : Nat → Nat) : ∀ k j, j < k → s j ≤ mx s k
  | 0, _, h => absurd h (Nat.not_lt_zero _)
  | k + 1, j, h => by
    rw [mx]
    by_cases e : j = k
    · subst e
      omega
    · have := mx_ge s k j (by omega)
      omega
theorem mn_le (s : Nat → Nat) : ∀ k j, j < k → mn s k ≤ s j
  | 0, _, h => absurd h (Nat.not_lt_zero _)
  | k + 1, j, h => by
    rw [mn]
    by_cases e : j = k
    · subst e
      omega
    · have := mn_le s k j (by omega)
      omega
theorem mx_b {s : Nat → Nat} {b : Nat} : ∀ k, (∀ j, j < k → s j ≤ b) → s 0 ≤ b → mx s k ≤ b
  | 0, _, h0 => h0
  | k + 1, h, h0 => by
    have h1 := mx_b k (fun j hj => h j (by omega)) h0
    have h2 := h k (by omega)
    rw [mx]
    omega
theorem mn_mx (s : Nat → Nat) : ∀ k, mn s k ≤ mx s k
  | 0 => Nat.le_refl _
  | k + 1 => by
    have := mn_mx s k
    rw [mn, mx]
    omega
theorem mx_congr {s t : Nat → Nat} : ∀ k, 0 < k → (∀ j, j < k → s j = t j) → mx s k = mx t k
  | 0, h, _ => absurd h (Nat.lt_irrefl _)
  | 1, _, h => by rw [mx_1, mx_1, h 0 (by omega)]
  | k + 2, _, h => by
    rw [mx, mx_congr (k + 1) (by omega) (fun j hj => h j (by omega)), h (k + 1) (by omega)]
    rfl
theorem mn_congr {s t : Nat → Nat} : ∀ k, 0 < k → (∀ j, j < k → s j = t j) → mn s k = mn t k
  | 0, h, _ => absurd h (Nat.lt_irrefl _)
  | 1, _, h => by rw [mn_1, mn_1, h 0 (by omega)]
  | k + 2, _, h => by
    rw [mn, mn_congr (k + 1) (by omega) (fun j hj => h j (by omega)), h (k + 1) (by omega)]
    rfl
def spr (s : Nat → Nat) (k : Nat) : Nat := mx s k - mn s k
def wt (b : Bool) (x : Nat) : Nat := if b then x else 0
theorem wt_le (b : Bool) (x : Nat) : wt b x ≤ x := by
  unfold wt
  split <;> omega
/-- what a heap comes to -/
def hsum (n : Nat) (v ρ : Nat → Nat) (h : Nat) : Nat := sm (fun i => wt (ρ i == h) (v i)) n
theorem hsum_le (n : Nat) (v ρ : Nat → Nat) (h : Nat) (hn : n ≤ 10) (hv : ∀ i, i < n → v i ≤ 9999) : hsum n v ρ h ≤ 99990 := by
  have := sm_le (f := fun i => wt (ρ i == h) (v i)) (b := 9999) n (fun i hi => Nat.le_trans (wt_le _ _) (hv i hi))
  unfold hsum
  have h2 : 9999 * n ≤ 9999 * 10 := Nat.mul_le_mul_left _ hn
  omega
theorem hsum_congr {n : Nat} {v ρ σ : Nat → Nat} {h : Nat} (he : ∀ i, i < n → ρ i = σ i) : hsum n v ρ h = hsum n v σ h := sm_congr n (fun i hi => by simp only [he i hi])
/-- sums, row after r numbers by size -/
def fl (k : Nat) (v u : Nat → Nat) : Nat → (Nat → Nat) × (Nat → Nat)
  | 0 => (fun _ => 0, fun _ => 0)
  | r + 1 => (up (fl k v u r).1 (lh (fl k v u r).1 k) ((fl k v u r).1 (lh (fl k v u r).1 k) + v (u r)), up (fl k v u r).2 (u r) (lh (fl k v u r).1 k))
def gr (n k : Nat) (v : Nat → Nat) : Nat → Nat := (fl k v (un n v) n).2
theorem fl_lt {k : Nat} {v u : Nat → Nat} (hk : 0 < k) : ∀ r i, (fl k v u r).2 i < k
  | 0, _ => hk
  | r + 1, i => by
    simp only [fl]
    by_cases e : i = u r
    · rw [e, up_eq]
      exact lh_lt _ _ hk
    · rw [up_ne e]
      exact fl_lt hk r i
theorem sm_0 : ∀ m, sm (fun _ => 0) m = 0
  | 0 => rfl
  | m + 1 => by simp [sm, sm_0 m]
theorem fl_sum {n k : Nat} {v : Nat → Nat} : ∀ r, r ≤ n → ∀ h, (fl k v (un n v) r).1 h = sm (fun i => wt (decide (rk n v i < r) && ((fl k v (un n v) r).2 i == h)) (v i)) n
  | 0, _, h => by
    rw [sm_congr (g := fun _ => 0) n (fun i _ => by simp [wt]), sm_0]
    rfl
  | r + 1, hr, h => by
    have ih := fl_sum (n := n) (k := k) (v := v) r (by omega)
    have hu := un_lt n v r (by omega)
    have hru := rk_un n v r (by omega)
    simp only [fl]
    have ne : ∀ i, i < n → i ≠ un n v r → decide (rk n v i < r + 1) = decide (rk n v i < r) := fun i hi hne => by
      have : rk n v i ≠ r := fun q => hne (by rw [← q, (un_rk n v i hi).2])
      rw [decide_eq_decide]
      omega
    have d1 : decide (r < r) = false := by simp
    have d2 : decide (r < r + 1) = true := by simp
    generalize lh (fl k v (un n v) r).1 k = g
    generalize (fl k v (un n v) r).1 = s at *
    generalize (fl k v (un n v) r).2 = ρ at *
    by_cases e : h = g
    · subst e
      rw [up_eq, ih h]
      refine (sm_a1 hu (fun i hi hne => ?_) ?_).symm
      · rw [ne i hi hne, up_ne hne]
      · rw [hru, up_eq, d1, d2]
        simp [wt]
    · rw [up_ne e, ih h]
      refine sm_congr n (fun i hi => ?_)
      by_cases c : i = un n v r
      · have c2 : (g == h) = false := by simp; exact fun q => e q.symm
        rw [c, hru, up_eq, d1, d2, c2]
        simp [wt]
      · rw [ne i hi c, up_ne c]
theorem fl_hsum {n k : Nat} {v : Nat → Nat} (h : Nat) : (fl k v (un n v) n).1 h = hsum n v (gr n k v) h := by
  rw [fl_sum n (Nat.le_refl _)]
  exact sm_congr n (fun i hi => by
    have h1 : decide (rk n v i < n) = true := by simp [(un_rk n v i hi).1]
    rw [h1]
    rfl)
theorem fl_b {k : Nat} {v u : Nat → Nat} {b : Nat} : ∀ r, (∀ j, j < r → v (u j) ≤ b) → ∀ h, (fl k v u r).1 h ≤ b * r
  | 0, _, _ => by simp [fl]
  | r + 1, hv, h => by
    have ih := fl_b (k := k) r (fun j hj => hv j (by omega))
    have h1 := hv r (by omega)
    simp only [fl]
    rw [Nat.mul_succ]
    by_cases e : h = lh (fl k v u r).1 k
    · rw [e, up_eq]
      have := ih (lh (fl k v u r).1 k)
      omega
    · rw [up_ne e]
      have := ih h
      omega
/-- a move (true, number, heap) or an exchange (false, number, number) -/
def app (ρ : Nat → Nat) (c : Bool × Nat × Nat) : Nat → Nat := if c.1 then up ρ c.2.1 c.2.2 else up (up ρ c.2.1 (ρ c.2.2)) c.2.2 (ρ c.2.1)
abbrev Bs : Type := Nat × Option (Bool × Nat × Nat)
def tr1 (f : (Nat → Nat) → Nat) (ρ : Nat → Nat) (st : Bs) (c : Bool × Nat × Nat) : Bs := if f (app ρ c) < st.1 then (f (app ρ c), some c) else st
def mvH (f : (Nat → Nat) → Nat) (ρ : Nat → Nat) (st : Bs) (i : Nat) : Nat → Bs
  | 0 => st
  | h + 1 => tr1 f ρ (mvH f ρ st i h) (true, i, h)
def mvI (f : (Nat → Nat) → Nat) (ρ : Nat → Nat) (k : Nat) : Nat → Bs
  | 0 => (f ρ, none)
  | i + 1 => mvH f ρ (mvI f ρ k i) i k
def exJ (f : (Nat → Nat) → Nat) (ρ : Nat → Nat) (st : Bs) (i : Nat) : Nat → Bs
  | 0 => st
  | m + 1 => tr1 f ρ (exJ f ρ st i m) (false, i, i + 1 + m)
def exI (f : (Nat → Nat) → Nat) (ρ : Nat → Nat) (n k : Nat) : Nat → Bs
  | 0 => mvI f ρ k n
  | i + 1 => exJ f ρ (exI f ρ n k i) i (n - (i + 1))
/-- a state of the search for the best: what it says is so -/
def BsOk (f : (Nat → Nat) → Nat) (ρ : Nat → Nat) (n k : Nat) (st : Bs) : Prop := st.1 ≤ f ρ ∧ ∀ c, st.2 = some c → st.1 < f ρ ∧ st.1 = f (app ρ c) ∧ c.2.1 < n ∧ (c.1 = true → c.2.2 < k) ∧ (c.1 = false → c.2.1 < c.2.2 ∧ c.2.2 < n)
theorem tr1_ok {f : (Nat → Nat) → Nat} {ρ : Nat → Nat} {n k : Nat} {st : Bs} {c : Bool × Nat × Nat} (h : BsOk f ρ n k st) (h1 : c.2.1 < n) (h2 : c.1 = true → c.2.2 < k) (h3 : c.1 = false → c.2.1 < c.2.2 ∧ c.2.2 < n) : BsOk f ρ n k (tr1 f ρ st c) := by
  unfold tr1
  by_cases q : f (app ρ c) < st.1
  · rw [if_pos q]
    have := h.1
    refine ⟨by simp only; omega, fun c' e => ?_⟩
    have e : some c = some c' := e
    cases e
    exact ⟨by simp only; omega, rfl, h1, h2, h3⟩
  · rw [if_neg q]
    exact h
theorem mvH_ok {f : (Nat → Nat) → Nat} {ρ : Nat → Nat} {n k : Nat} {st : Bs} {i : Nat} (h : BsOk f ρ n k st) (hi : i < n) : ∀ m, m ≤ k → BsOk f ρ n k (mvH f ρ st i m)
  | 0, _ => h
  | m + 1, hm => tr1_ok (mvH_ok h hi m (by omega)) hi (fun _ => by show m < k; omega) (fun q => by cases q)
theorem mvI_ok {f : (Nat → Nat) → Nat} {ρ : Nat → Nat} {n k : Nat} : ∀ m, m ≤ n → BsOk f ρ n k (mvI f ρ k m)
  | 0, _ => ⟨Nat.le_refl _, fun c e => by cases e⟩
  | m + 1, hm => mvH_ok (mvI_ok m (by omega)) (by omega) k (Nat.le_refl _)
theorem exJ_ok {f : (Nat → Nat) → Nat} {ρ : Nat → Nat} {n k : Nat} {st : Bs} {i : Nat} (h : BsOk f ρ n k st) (hi : i < n) : ∀ m, i + 1 + m ≤ n → BsOk f ρ n k (exJ f ρ st i m)
  | 0, _ => h
  | m + 1, hm => tr1_ok (exJ_ok h hi m (by omega)) hi (fun q => by cases q) (fun _ => ⟨by show i < i + 1 + m; omega, by show i + 1 + m < n; omega⟩)
theorem exI_ok {f : (Nat → Nat) → Nat} {ρ : Nat → Nat} {n k : Nat} : ∀ m, m ≤ n → BsOk f ρ n k (exI f ρ n k m)
  | 0, _ => mvI_ok n (Nat.le_refl _)
  | m + 1, hm => exJ_ok (exI_ok m (by omega)) (by omega) _ (by omega)
/-- what changes nothing is no better -/
theorem tr1_same {f : (Nat → Nat) → Nat} {ρ : Nat → Nat} {n k : Nat} {st : Bs} {c : Bool × Nat × Nat} (h : BsOk f ρ n k st) (e : app ρ c = ρ) : tr1 f ρ st c = st := by
  unfold tr1
  have := h.1
  rw [e, if_neg (by omega)]
theorem app_mv {ρ : Nat → Nat} {i : Nat} : app ρ (true, i, ρ i) = ρ := by
  unfold app
  simp only [if_true]
  exact up_id
theorem app_ex {ρ : Nat → Nat} {i j : Nat} (h : ρ i = ρ j) : app ρ (false, i, j) = ρ := by
  unfold app
  simp only [Bool.false_eq_true, if_false]
  funext x
  by_cases e : x = j
  · rw [e, up_eq, h]
  · rw [up_ne e]
    by_cases e2 : x = i
    · rw [e2, up_eq, h]
    · rw [up_ne e2]
theorem app_lt {ρ : Nat → Nat} {n k : Nat} {c : Bool × Nat × Nat} (h : ∀ i, i < n → ρ i < k) (h1 : c.2.1 < n) (h2 : c.1 = true → c.2.2 < k) (h3 : c.1 = false → c.2.1 < c.2.2 ∧ c.2.2 < n) : ∀ i, i < n → app ρ c i < k := by
  intro i hi
  unfold app
  obtain ⟨b, x, y⟩ := c
  cases b with
  | true =>
    simp only [if_true]
    by_cases e : i = x
    · rw [e, up_eq]
      exact h2 rfl
    · rw [up_ne e]
      exact h i hi
  | false =>
    have := h3 rfl
    simp only [Bool.false_eq_true, if_false]
    by_cases e : i = y
    · rw [e, up_eq]
      exact h x h1
    · rw [up_ne e]
      by_cases e2 : i = x
      · rw [e2, up_eq]
        exact h y this.2
      · rw [up_ne e2]
        exact h i hi
/-- the climb: how many changes, the row at last -/
def cl (f : (Nat → Nat) → Nat) (n k : Nat) : Nat → (Nat → Nat) → Nat × (Nat → Nat)
  | 0, ρ => (0, ρ)
  | F + 1, ρ => match (exI f ρ n k n).2 with
    | none => (0, ρ)
    | some c => ((cl f n k F (app ρ c)).1 + 1, (cl f n k F (app ρ c)).2)
theorem cl_le (f : (Nat → Nat) → Nat) (n k : Nat) : ∀ F ρ, (cl f n k F ρ).1 ≤ F
  | 0, _ => Nat.le_refl _
  | F + 1, ρ => by
    rw [cl]
    split
    · exact Nat.zero_le _
    · have := cl_le f n k F
      simp only
      exact Nat.succ_le_succ (this _)
theorem cl_lt (f : (Nat → Nat) → Nat) (n k : Nat) : ∀ F ρ, (∀ i, i < n → ρ i < k) → ∀ i, i < n → (cl f n k F ρ).2 i < k
  | 0, _, h => h
  | F + 1, ρ, h => by
    rw [cl]
    cases e : (exI f ρ n k n).2 with
    | none => exact h
    | some c =>
      have ok := (exI_ok (f := f) (ρ := ρ) (n := n) (k := k) n (Nat.le_refl _)).2 c e
      exact cl_lt f n k F (app ρ c) (app_lt h ok.2.2.1 ok.2.2.2.1 ok.2.2.2.2)
/-- sums, one number gone to another heap -/
theorem hsum_mv {n i h0 : Nat} {v ρ : Nat → Nat} (hi : i < n) (hne : ρ i ≠ h0) (h : Nat) : (h = ρ i → hsum n v ρ h = hsum n v (up ρ i h0) h + v i) ∧ (h = h0 → hsum n v (up ρ i h0) h = hsum n v ρ h + v i) ∧ (h ≠ ρ i → h ≠ h0 → hsum n v (up ρ i h0) h = hsum n v ρ h) := by
  unfold hsum
  refine ⟨fun e => ?_, fun e => ?_, fun e1 e2 => ?_⟩
  · refine sm_a1 hi (fun j hj hne => by rw [up_ne hne]) ?_
    have c1 : (h0 == h) = false := beq_eq_false_iff_ne.mpr (fun q => hne (by rw [q, e]))
    have c2 : (ρ i == h) = true := beq_iff_eq.mpr e.symm
    rw [up_eq, c1, c2]
    simp [wt]
  · refine sm_a1 hi (fun j hj hne => by rw [up_ne hne]) ?_
    have c1 : (h0 == h) = true := beq_iff_eq.mpr e.symm
    have c2 : (ρ i == h) = false := beq_eq_false_iff_ne.mpr (fun q => hne (by rw [q, e]))
    rw [up_eq, c1, c2]
    simp [wt]
  · refine sm_congr n (fun j hj => ?_)
    by_cases c : j = i
    · have c1 : (h0 == h) = false := beq_eq_false_iff_ne.mpr (fun q => e2 q.symm)
      have c2 : (ρ i == h) = false := beq_eq_false_iff_ne.mpr (fun q => e1 q.symm)
      rw [c, up_eq, c1, c2]
    · rw [up_ne c]
