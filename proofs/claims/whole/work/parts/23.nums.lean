/-! NUMBERS, loops, memory. -/
def J (a : Int) : Int32 := Int32.ofInt a
theorem J_nat (n : Nat) : J (n : Int) = nI n := by
  unfold J nI
  rfl
theorem J_add (a b : Int) : J a + J b = J (a + b) := by
  unfold J
  exact (Int32.ofInt_add a b).symm
theorem J_sub (a b : Int) : J a - J b = J (a - b) := by
  unfold J
  exact (Int32.ofInt_sub a b).symm
theorem J_neg (a : Int) : - J a = J (-a) := by
  unfold J
  exact (Int32.ofInt_neg a).symm
theorem J_mul (a b : Int) : J a * J b = J (a * b) := by
  unfold J
  exact (Int32.ofInt_mul a b).symm
theorem J_toInt {a : Int} (h1 : -2147483648 ≤ a) (h2 : a < 2147483648) : (J a).toInt = a := by
  unfold J
  rw [Int32.toInt_ofInt]
  have hs : Int32.size = 4294967296 := rfl
  exact Int.bmod_eq_of_le (by rw [hs]; omega) (by rw [hs]; omega)
theorem J_le {a b : Int} (h1 : -2147483648 ≤ a) (h2 : a < 2147483648) (h3 : -2147483648 ≤ b) (h4 : b < 2147483648) : J a ≤ J b ↔ a ≤ b := by
  rw [Int32.le_iff_toInt_le, J_toInt h1 h2, J_toInt h3 h4]
theorem J_lt {a b : Int} (h1 : -2147483648 ≤ a) (h2 : a < 2147483648) (h3 : -2147483648 ≤ b) (h4 : b < 2147483648) : J a < J b ↔ a < b := by
  rw [Int32.lt_iff_toInt_lt, J_toInt h1 h2, J_toInt h3 h4]
theorem J_eq {a b : Int} (h1 : -2147483648 ≤ a) (h2 : a < 2147483648) (h3 : -2147483648 ≤ b) (h4 : b < 2147483648) : J a = J b ↔ a = b := by
  rw [← Int32.toInt_inj, J_toInt h1 h2, J_toInt h3 h4]
theorem z_0 : (0 : Int32) = nI 0 := rfl
theorem z_1 : (1 : Int32) = nI 1 := rfl
theorem z_2 : (2 : Int32) = nI 2 := rfl
theorem z_3 : (3 : Int32) = nI 3 := rfl
theorem z_4 : (4 : Int32) = nI 4 := rfl
/-- a loop that counts up -/
theorem zfor {P : Nat → Prop} {c : Nat} (he : P c) (hs : ∀ j, j < c → P (j + 1) → P j) : ∀ j, j ≤ c → P j := by
  intro j hj
  obtain ⟨k, rfl⟩ := Nat.exists_eq_add_of_le hj
  clear hj
  induction k generalizing j with
  | zero => exact he
  | succ k ih => exact hs j (by omega) (ih (j + 1) (by rw [Nat.add_right_comm]; exact he) (by rw [Nat.add_right_comm]; exact hs))
/-- the sum of the first n -/
def sm (f : Nat → Nat) : Nat → Nat
  | 0 => 0
  | n + 1 => sm f n + f n
theorem sm_le {f : Nat → Nat} {b : Nat} : ∀ n, (∀ i, i < n → f i ≤ b) → sm f n ≤ b * n
  | 0, _ => by simp [sm]
  | n + 1, h => by
    have h1 := sm_le n (fun i hi => h i (by omega))
    have h2 := h n (by omega)
    simp only [sm]
    rw [Nat.mul_succ]
    omega
theorem sm_congr {f g : Nat → Nat} : ∀ n, (∀ i, i < n → f i = g i) → sm f n = sm g n
  | 0, _ => rfl
  | n + 1, h => by
    simp only [sm]
    rw [sm_congr n (fun i hi => h i (by omega)), h n (by omega)]
/-- an answer, the memory as it was -/
def zP (x : Int32) (iv : zI) (rv : zR) (lv : zJ) : Int32 → zI → zR → zJ → Prop := fun y a b c => y = x ∧ a = iv ∧ b = rv ∧ c = lv
theorem zP.mk {x y : Int32} {iv : zI} {rv : zR} {lv : zJ} (h : y = x) : zP x iv rv lv y iv rv lv := ⟨h, rfl, rfl, rfl⟩
