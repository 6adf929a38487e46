/-! ITEMS in order: what is meant. -/
abbrev It : Type := Nat × Nat × Nat
def lwA (x : Nat) : Nat → Nat → Nat
  | 0, j => j
  | f + 1, j => if x.testBit j then j else lwA x f (j + 1)
/-- the least member; 10 if there is none -/
def lw (x : Nat) : Nat := lwA x 10 0
def zlm (x : Int32) : Int32 := if x = 0 then 1024 else x &&& (-x)
theorem zlm_ok : ∀ x, x < 1024 → zlm (nI x) = nI (2 ^ lw x) := by decide +kernel
theorem lw_le : ∀ x, x < 1024 → lw x ≤ 10 := by decide +kernel
def lo (x : Nat) : Nat := if lw x = 10 then 16 else lw x
def ahead (x y : It) : Bool := decide (y.1 < x.1) || (decide (x.1 = y.1) && decide (lw (x.2.1 ||| x.2.2) < lw (y.2.1 ||| y.2.2)))
theorem ahead_as {x y : It} (h : ahead x y = true) : ahead y x = false := by
  unfold ahead at h ⊢
  simp only [Bool.or_eq_true, Bool.and_eq_true, decide_eq_true_eq, Bool.or_eq_false_iff, Bool.and_eq_false_iff, decide_eq_false_iff_not] at h ⊢
  omega
def pos (x : It) (f : Nat → It) : Nat → Nat
  | 0 => 0
  | a + 1 => if ahead x (f a) then pos x f a else a + 1
def put (f : Nat → It) (p : Nat) (x : It) : Nat → It := fun j => if j < p then f j else if j = p then x else f (j - 1)
def ins (x : It) (f : Nat → It) (c : Nat) : Nat → It := put f (pos x f c) x
theorem pos_le (x : It) (f : Nat → It) : ∀ c, pos x f c ≤ c
  | 0 => Nat.le_refl _
  | c + 1 => by
    have := pos_le x f c
    rw [pos]
    split <;> omega
theorem pos_ah (x : It) (f : Nat → It) : ∀ c j, pos x f c ≤ j → j < c → ahead x (f j) = true
  | 0, _, _, h => absurd h (Nat.not_lt_zero _)
  | c + 1, j, h1, h2 => by
    rw [pos] at h1
    split at h1
    · rename_i q
      by_cases e : j = c
      · rw [e]; exact q
      · exact pos_ah x f c j h1 (by omega)
    · omega
theorem pos_nah (x : It) (f : Nat → It) : ∀ c, 0 < pos x f c → ahead x (f (pos x f c - 1)) = false
  | 0, h => absurd h (Nat.lt_irrefl _)
  | c + 1, h => by
    rw [pos] at h ⊢
    split
    · rename_i q
      rw [if_pos q] at h
      exact pos_nah x f c h
    · rename_i q
      simpa using q
theorem put_lt {f : Nat → It} {p j : Nat} {x : It} (h : j < p) : put f p x j = f j := by simp [put, h]
theorem put_eq {f : Nat → It} {p : Nat} {x : It} : put f p x p = x := by simp [put]
theorem put_gt {f : Nat → It} {p j : Nat} {x : It} (h : p < j) : put f p x j = f (j - 1) := by
  have h1 : ¬ j < p := by omega
  have h2 : ¬ j = p := by omega
  simp [put, h1, h2]
/-- none goes ahead of the one before it -/
def srt (f : Nat → It) (c : Nat) : Prop := ∀ j, j + 1 < c → ahead (f (j + 1)) (f j) = false
theorem srt_ins {x : It} {f : Nat → It} {c : Nat} (h : srt f c) : srt (ins x f c) (c + 1) := by
  intro j hj
  have hp := pos_le x f c
  unfold ins
  rcases Nat.lt_trichotomy (j + 1) (pos x f c) with q | q | q
  · rw [put_lt q, put_lt (by omega)]
    exact h j (by omega)
  · rw [← q, put_eq, put_lt (by omega)]
    have := pos_nah x f c (by omega)
    rw [← q] at this
    exact this
  · rw [put_gt q, Nat.add_sub_cancel]
    by_cases e : j = pos x f c
    · rw [e, put_eq]
      exact ahead_as (pos_ah x f c _ (Nat.le_refl _) (by omega))
    · rw [put_gt (by omega)]
      have := h (j - 1) (by omega)
      rw [show j - 1 + 1 = j by omega] at this
      exact this
def BI (f : Nat → It) (c B : Nat) : Prop := ∀ j, j < c → (f j).1 ≤ B ∧ (f j).2.1 < 1024 ∧ (f j).2.2 < 1024
theorem BI_ins {x : It} {f : Nat → It} {c B : Nat} (h : BI f c B) (hx : x.1 ≤ B ∧ x.2.1 < 1024 ∧ x.2.2 < 1024) : BI (ins x f c) (c + 1) B := by
  intro j hj
  have hp := pos_le x f c
  unfold ins
  rcases Nat.lt_trichotomy j (pos x f c) with q | q | q
  · rw [put_lt q]; exact h j (by omega)
  · rw [q, put_eq]; exact hx
  · rw [put_gt q]; exact h (j - 1) (by omega)
theorem BI_up {f : Nat → It} {c B C : Nat} (h : BI f c B) (hb : B ≤ C) : BI f c C := fun j hj => ⟨Nat.le_trans (h j hj).1 hb, (h j hj).2⟩
def jd (f : Nat → It) (df : Bool) : It := if df then ((f 0).1 - (f 1).1, (f 0).2.1 ||| (f 1).2.2, (f 0).2.2 ||| (f 1).2.1) else ((f 0).1 + (f 1).1, (f 0).2.1 ||| (f 1).2.1, (f 0).2.2 ||| (f 1).2.2)
def jn (f : Nat → It) (c : Nat) (df : Bool) : Nat → It := ins (jd f df) (fun j => f (j + 2)) (c - 2)
theorem or_10 {a b : Nat} (ha : a < 1024) (hb : b < 1024) : a ||| b < 1024 := Nat.or_lt_two_pow (n := 10) ha hb
theorem jd_b {f : Nat → It} {c B : Nat} (df : Bool) (h : BI f c B) (hc : 2 ≤ c) : (jd f df).1 ≤ 2 * B ∧ (jd f df).2.1 < 1024 ∧ (jd f df).2.2 < 1024 := by
  have a0 := h 0 (by omega)
  have a1 := h 1 (by omega)
  cases df with
  | true =>
    refine ⟨?_, or_10 a0.2.1 a1.2.2, or_10 a0.2.2 a1.2.1⟩
    show (f 0).1 - (f 1).1 ≤ 2 * B
    omega
  | false =>
    refine ⟨?_, or_10 a0.2.1 a1.2.1, or_10 a0.2.2 a1.2.2⟩
    show (f 0).1 + (f 1).1 ≤ 2 * B
    omega
theorem jn_b {f : Nat → It} {c B : Nat} (df : Bool) (h : BI f c B) (hc : 2 ≤ c) : BI (jn f c df) (c - 1) (2 * B) := by
  have h2 : BI (fun j => f (j + 2)) (c - 2) (2 * B) := fun j hj => ⟨by have := (h (j + 2) (by omega)).1; show (f (j + 2)).1 ≤ 2 * B; omega, (h (j + 2) (by omega)).2⟩
  have := BI_ins h2 (jd_b df h hc)
  rw [show c - 2 + 1 = c - 1 by omega] at this
  exact this
theorem jn_s {f : Nat → It} {c : Nat} (df : Bool) (h : srt f c) (hc : 2 ≤ c) : srt (jn f c df) (c - 1) := by
  have h2 : srt (fun j => f (j + 2)) (c - 2) := fun j hj => h (j + 2) (by omega)
  have := srt_ins (x := jd f df) h2
  rw [show c - 2 + 1 = c - 1 by omega] at this
  exact this
theorem srt_01 {f : Nat → It} {c : Nat} (h : srt f c) (hc : 2 ≤ c) : (f 1).1 ≤ (f 0).1 := by
  have := h 0 (by omega)
  unfold ahead at this
  simp only [Bool.or_eq_false_iff, decide_eq_false_iff_not] at this
  have := this.1
  simp only [Nat.zero_add] at this
  omega
/-- numbers as items -/
def tk (v : Nat → Nat) : Nat → Nat → It
  | 0 => fun _ => (0, 0, 0)
  | i + 1 => ins (v i, 2 ^ i, 0) (tk v i) i
theorem tk_s (v : Nat → Nat) : ∀ i, srt (tk v i) i
  | 0 => fun j hj => absurd hj (Nat.not_lt_zero _)
  | i + 1 => srt_ins (tk_s v i)
theorem tk_b {v : Nat → Nat} : ∀ i, i ≤ 10 → (∀ j, j < i → v j ≤ 9999) → BI (tk v i) i 9999
  | 0, _, _ => fun j hj => absurd hj (Nat.not_lt_zero _)
  | i + 1, hi, hv => BI_ins (tk_b i (by omega) (fun j hj => hv j (by omega))) ⟨hv i (by omega), Nat.pow_lt_pow_right (by omega) (show i < 10 by omega), by show 0 < 1024; omega⟩
/-- sorted items come again to their places -/
theorem ins_end {x : It} {f : Nat → It} {c : Nat} (h : c = 0 ∨ ahead x (f (c - 1)) = false) : pos x f c = c := by
  cases c with
  | zero => rfl
  | succ c =>
    rw [pos]
    rcases h with h | h
    · omega
    · rw [Nat.add_sub_cancel] at h
      rw [h]
      simp
theorem pos_cg {x : It} {f g : Nat → It} : ∀ {c : Nat}, (∀ j, j < c → f j = g j) → pos x f c = pos x g c
  | 0, _ => rfl
  | c + 1, h => by
    rw [pos, pos, h c (by omega), pos_cg (fun j hj => h j (by omega))]
theorem ins_cg {x : It} {f g : Nat → It} {c : Nat} (h : ∀ j, j < c → f j = g j) : ∀ j, j < c + 1 → ins x f c j = ins x g c j := by
  intro j hj
  unfold ins
  rw [pos_cg h]
  have := pos_le x g c
  rcases Nat.lt_trichotomy j (pos x g c) with q | q | q
  · rw [put_lt q, put_lt q, h j (by omega)]
  · rw [q, put_eq, put_eq]
  · rw [put_gt q, put_gt q, h (j - 1) (by omega)]
/-- the sum of all values -/
def vsum (f : Nat → It) (c : Nat) : Nat := sm (fun j => (f j).1) c
theorem vsum_put {f : Nat → It} {p : Nat} {x : It} : ∀ {c : Nat}, p ≤ c → vsum (put f p x) (c + 1) = vsum f c + x.1
  | 0, h => by
    have : p = 0 := by omega
    subst this
    simp [vsum, sm, put_eq]
  | c + 1, h => by
    unfold vsum at *
    simp only [sm]
    by_cases e : p = c + 1
    · subst e
      rw [put_eq]
      have : sm (fun j => (put f (c + 1) x j).1) c = sm (fun j => (f j).1) c := sm_congr c (fun j hj => by rw [put_lt (by omega)])
      rw [this, put_lt (by omega)]
    · have ih := vsum_put (f := f) (x := x) (p := p) (c := c) (by omega)
      unfold vsum at ih
      simp only [sm] at ih
      rw [ih, put_gt (by omega), Nat.add_sub_cancel]
      omega
theorem vsum_ins {f : Nat → It} {x : It} {c : Nat} : vsum (ins x f c) (c + 1) = vsum f c + x.1 := vsum_put (pos_le x f c)
theorem sm_2 {g : Nat → Nat} : ∀ c, sm g (c + 2) = g 0 + g 1 + sm (fun j => g (j + 2)) c
  | 0 => by simp [sm]
  | c + 1 => by
    rw [sm, sm_2 c]
    simp only [sm]
    omega
theorem jn_par {f : Nat → It} {c : Nat} (df : Bool) (h : srt f c) (hc : 2 ≤ c) : vsum (jn f c df) (c - 1) % 2 = vsum f c % 2 := by
  have h1 := srt_01 h hc
  obtain ⟨m, rfl⟩ := Nat.exists_eq_add_of_le hc
  have a1 : vsum (jn f (2 + m) df) (2 + m - 1) = vsum (fun j => f (j + 2)) m + (jd f df).1 := by
    rw [show 2 + m - 1 = m + 1 by omega]
    unfold jn
    rw [show 2 + m - 2 = m by omega]
    exact vsum_ins
  have a2 : vsum f (2 + m) = (f 0).1 + (f 1).1 + vsum (fun j => f (j + 2)) m := by
    rw [show 2 + m = m + 2 by omega]
    exact sm_2 m
  rw [a1, a2]
  cases df with
  | true =>
    show (_ + ((f 0).1 - (f 1).1)) % 2 = _
    omega
  | false =>
    show (_ + ((f 0).1 + (f 1).1)) % 2 = _
    omega
theorem tk_sum (v : Nat → Nat) : ∀ i, vsum (tk v i) i = sm v i
  | 0 => rfl
  | i + 1 => by
    rw [tk, vsum_ins, tk_sum v i]
    rfl
/-- differencing: the items after m turns -/
def df1 (v : Nat → Nat) (n : Nat) : Nat → Nat → It
  | 0 => tk v n
  | m + 1 => jn (df1 v n m) (n - m) true
theorem df1_s {v : Nat → Nat} {n : Nat} : ∀ m, m < n → srt (df1 v n m) (n - m)
  | 0, _ => tk_s v n
  | m + 1, h => by
    have := jn_s true (df1_s (v := v) (n := n) m (by omega)) (by omega)
    rw [show n - m - 1 = n - (m + 1) by omega] at this
    exact this
theorem df1_b {v : Nat → Nat} {n : Nat} (hn : n ≤ 10) (hv : ∀ j, j < n → v j ≤ 9999) : ∀ m, m < n → BI (df1 v n m) (n - m) (9999 * 2 ^ m)
  | 0, _ => by
    rw [Nat.pow_zero, Nat.mul_one]
    exact tk_b n hn hv
  | m + 1, h => by
    have := jn_b true (df1_b (n := n) hn hv m (by omega)) (by omega)
    rw [show n - m - 1 = n - (m + 1) by omega] at this
    rw [Nat.pow_succ]
    exact BI_up this (by omega)
