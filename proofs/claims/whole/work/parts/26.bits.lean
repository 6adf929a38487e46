/-! BITS. -/
theorem bI_and (a b : Nat) : nI a &&& nI b = nI (a &&& b) := by
  unfold nI
  apply Int32.toBitVec_inj.mp
  show BitVec.ofNat 32 a &&& BitVec.ofNat 32 b = BitVec.ofNat 32 (a &&& b)
  exact BitVec.ofNat_and.symm
theorem bI_or (a b : Nat) : nI a ||| nI b = nI (a ||| b) := by
  unfold nI
  apply Int32.toBitVec_inj.mp
  show BitVec.ofNat 32 a ||| BitVec.ofNat 32 b = BitVec.ofNat 32 (a ||| b)
  exact BitVec.ofNat_or.symm
theorem bI_xor (a b : Nat) : nI a ^^^ nI b = nI (a ^^^ b) := by
  unfold nI
  apply Int32.toBitVec_inj.mp
  show BitVec.ofNat 32 a ^^^ BitVec.ofNat 32 b = BitVec.ofNat 32 (a ^^^ b)
  exact BitVec.ofNat_xor.symm
theorem bI_sm {k : Nat} (hk : k < 16) : ((nI k &&& 31).toBitVec.smod 32).toNat = k := by
  have : ∀ k, k < 16 → ((nI k &&& 31).toBitVec.smod 32).toNat = k := by decide +kernel
  exact this k hk
theorem bI_shl {n k : Nat} (hk : k < 16) (h : n * 2 ^ k < 2 ^ 32) : nI n <<< (nI k &&& 31) = nI (n * 2 ^ k) := pk_shlN _ k (bI_sm hk) h
theorem bI_shr {n k : Nat} (hk : k < 16) (h : n < 2 ^ 31) : nI n >>> (nI k &&& 31) = nI (n / 2 ^ k) := pk_shrN h _ k (bI_sm hk)
theorem bI_1shl {k : Nat} (hk : k < 16) : (1 : Int32) <<< (nI k &&& 31) = nI (2 ^ k) := by
  have h : 2 ^ k < 2 ^ 32 := Nat.pow_lt_pow_right (by omega) (by omega)
  have := bI_shl (n := 1) hk (by omega)
  rw [Nat.one_mul] at this
  exact this
/-- bit k of n -/
theorem bI_bit {n k : Nat} (hk : k < 16) (h : n < 2 ^ 31) : ((nI n >>> (nI k &&& 31)) &&& 1 = 1) ↔ n.testBit k = true := by
  rw [bI_shr hk h, z_1, bI_and, Nat.and_one_is_mod, nI_eq (by omega) (by omega), Nat.testBit_eq_decide_div_mod_eq]
  simp
/-- the set of those below n that p takes -/
def mk (p : Nat → Bool) : Nat → Nat
  | 0 => 0
  | n + 1 => mk p n ||| (if p n then 2 ^ n else 0)
theorem mk_lt (p : Nat → Bool) : ∀ n, mk p n < 2 ^ n
  | 0 => by simp [mk]
  | n + 1 => by
    have h1 : mk p n < 2 ^ (n + 1) := Nat.lt_of_lt_of_le (mk_lt p n) (Nat.pow_le_pow_right (by omega) (by omega))
    have h2 : (if p n then 2 ^ n else 0) < 2 ^ (n + 1) := by
      have : 2 ^ n < 2 ^ (n + 1) := Nat.pow_lt_pow_right (by omega) (by omega)
      split <;> omega
    exact Nat.or_lt_two_pow h1 h2
theorem mk_bit (p : Nat → Bool) (j : Nat) : ∀ n, (mk p n).testBit j = (decide (j < n) && p j)
  | 0 => by simp [mk]
  | n + 1 => by
    simp only [mk, Nat.testBit_or, mk_bit p j n]
    by_cases e : j = n
    · subst e
      by_cases h : p j = true
      · simp [h, Nat.testBit_two_pow]
      · simp [h]
    · have h1 : (if p n then 2 ^ n else 0).testBit j = false := by
        split
        · rw [Nat.testBit_two_pow]
          simp
          omega
        · simp
      rw [h1, Bool.or_false]
      by_cases h2 : j < n
      · have : j < n + 1 := by omega
        simp [h2, this]
      · have : ¬ j < n + 1 := by omega
        simp [h2, this]
theorem mk_lt10 {p : Nat → Bool} {n : Nat} (h : n ≤ 10) : mk p n < 1024 := Nat.lt_of_lt_of_le (mk_lt p n) (show 2 ^ n ≤ 2 ^ 10 from Nat.pow_le_pow_right (by omega) h)
theorem mk_of {p : Nat → Bool} {n x : Nat} (h : ∀ j, x.testBit j = (decide (j < n) && p j)) : x = mk p n := Nat.eq_of_testBit_eq fun j => by rw [h, mk_bit]
theorem mk_congr {p q : Nat → Bool} {n : Nat} (h : ∀ j, j < n → p j = q j) : mk p n = mk q n := mk_of fun j => by
  rw [mk_bit]
  by_cases e : j < n
  · simp [e, h j e]
  · simp [e]
/-- how many bits, of ten -/
def bc (x : Nat) : Nat := cn (fun j => x.testBit j) 10
def zbF (x : Int32) : Int32 := 
  let sh := fun (a s : Int32) => (a.toUInt32 >>> (s.toUInt32 &&& Int32.toUInt32 31)).toInt32
  let a := x - (sh x 1 &&& 1431655765)
  let b := (a &&& 858993459) + (sh a 2 &&& 858993459)
  let c := (b + sh b 4) &&& 252645135
  let d := c + sh c 8
  let e := d + sh d 16
  e &&& 63
theorem zbF_ok : ∀ x, x < 1024 → zbF (nI x) = nI (bc x) := by decide +kernel
theorem cBC_265 : Cond.constant "java/lang/Integer" 265 1431655765 ∈ Wd := zwd 673 (by decide +kernel) (by decide +kernel)
theorem cBC_266 : Cond.constant "java/lang/Integer" 266 858993459 ∈ Wd := zwd 674 (by decide +kernel) (by decide +kernel)
theorem cBC_267 : Cond.constant "java/lang/Integer" 267 252645135 ∈ Wd := zwd 675 (by decide +kernel) (by decide +kernel)
theorem Z_iushr {M : zM} {B : zB} {pc q : Nat} {loc : List (Option Value)} {rest : List Value} {n : Nat} {iv : zI} {rv : zR} {lv : zJ} {Q : zQ} {x y : Int32} (hd : decode M.2.1 pc = .ok (.iushr, 1)) (hq : pc + 1 = q) (k : Z M B q loc (.int (x.toUInt32 >>> (y.toUInt32 &&& Int32.toUInt32 31)).toInt32 :: rest) n iv rv lv Q) : Z M B pc loc (.int y :: .int x :: rest) n iv rv lv Q := by
  subst hq
  exact Z.pure (fun hx hb _ k => lv_iushr hx hb hd rfl k) k
theorem s_bc {d : Nat} {x : Int32} {iv : zI} {rv : zR} {lv : zJ} {Q : Int32 → zI → zR → zJ → Prop} (h : Q (zbF x) iv rv lv) : Ci mBC d [.int x] iv rv lv Q := by
  refine Ci.of (by decide +kernel) (by simp [Value.category]) (Nat.le_of_ble_eq_true rfl) rfl ?_
  unfold Zi
  refine Z_iload_n (a := 0) (q := 1) (by decide +kernel) rfl rfl ?_
  refine Z_iload_n (a := 0) (q := 2) (by decide +kernel) rfl rfl ?_
  refine Z_iconst (a := 1) (v := 1) (q := 3) (by decide +kernel) (by decide +kernel) rfl ?_
  refine Z_iushr (q := 4) (by decide +kernel) rfl ?_
  refine Z_ldcw (a := 265) (v := 1431655765) (q := 7) (by decide +kernel) cBC_265 rfl ?_
  refine Z_iand (q := 8) (by decide +kernel) rfl ?_
  refine Z_isub (q := 9) (by decide +kernel) rfl ?_
  refine Z_istore_n (a := 0) (loc2 := [_]) (q := 10) (by decide +kernel) (by decide +kernel) rfl rfl rfl ?_
  refine Z_iload_n (a := 0) (q := 11) (by decide +kernel) rfl rfl ?_
  refine Z_ldcw (a := 266) (v := 858993459) (q := 14) (by decide +kernel) cBC_266 rfl ?_
  refine Z_iand (q := 15) (by decide +kernel) rfl ?_
  refine Z_iload_n (a := 0) (q := 16) (by decide +kernel) rfl rfl ?_
  refine Z_iconst (a := 2) (v := 2) (q := 17) (by decide +kernel) (by decide +kernel) rfl ?_
  refine Z_iushr (q := 18) (by decide +kernel) rfl ?_
  refine Z_ldcw (a := 266) (v := 858993459) (q := 21) (by decide +kernel) cBC_266 rfl ?_
  refine Z_iand (q := 22) (by decide +kernel) rfl ?_
  refine Z_iadd (q := 23) (by decide +kernel) rfl ?_
  refine Z_istore_n (a := 0) (loc2 := [_]) (q := 24) (by decide +kernel) (by decide +kernel) rfl rfl rfl ?_
  refine Z_iload_n (a := 0) (q := 25) (by decide +kernel) rfl rfl ?_
  refine Z_iload_n (a := 0) (q := 26) (by decide +kernel) rfl rfl ?_
  refine Z_iconst (a := 4) (v := 4) (q := 27) (by decide +kernel) (by decide +kernel) rfl ?_
  refine Z_iushr (q := 28) (by decide +kernel) rfl ?_
  refine Z_iadd (q := 29) (by decide +kernel) rfl ?_
  refine Z_ldcw (a := 267) (v := 252645135) (q := 32) (by decide +kernel) cBC_267 rfl ?_
  refine Z_iand (q := 33) (by decide +kernel) rfl ?_
  refine Z_istore_n (a := 0) (loc2 := [_]) (q := 34) (by decide +kernel) (by decide +kernel) rfl rfl rfl ?_
  refine Z_iload_n (a := 0) (q := 35) (by decide +kernel) rfl rfl ?_
  refine Z_iload_n (a := 0) (q := 36) (by decide +kernel) rfl rfl ?_
  refine Z_bipush (a := 8) (v := 8) (q := 38) (by decide +kernel) (by decide +kernel) rfl ?_
  refine Z_iushr (q := 39) (by decide +kernel) rfl ?_
  refine Z_iadd (q := 40) (by decide +kernel) rfl ?_
  refine Z_istore_n (a := 0) (loc2 := [_]) (q := 41) (by decide +kernel) (by decide +kernel) rfl rfl rfl ?_
  refine Z_iload_n (a := 0) (q := 42) (by decide +kernel) rfl rfl ?_
  refine Z_iload_n (a := 0) (q := 43) (by decide +kernel) rfl rfl ?_
  refine Z_bipush (a := 16) (v := 16) (q := 45) (by decide +kernel) (by decide +kernel) rfl ?_
  refine Z_iushr (q := 46) (by decide +kernel) rfl ?_
  refine Z_iadd (q := 47) (by decide +kernel) rfl ?_
  refine Z_istore_n (a := 0) (loc2 := [_]) (q := 48) (by decide +kernel) (by decide +kernel) rfl rfl rfl ?_
  refine Z_iload_n (a := 0) (q := 49) (by decide +kernel) rfl rfl ?_
  refine Z_bipush (a := 63) (v := 63) (q := 51) (by decide +kernel) (by decide +kernel) rfl ?_
  refine Z_iand (q := 52) (by decide +kernel) rfl ?_
  exact Z_iret (ty := .int) (by decide +kernel) rfl rfl rfl ⟨_, rfl, h⟩
theorem s_bitCount {d x : Nat} {iv : zI} {rv : zR} {lv : zJ} (hx : x < 1024) : Ci mBC d [.int (nI x)] iv rv lv (zP (nI (bc x)) iv rv lv) := s_bc (zP.mk (zbF_ok x hx))
