/-! SUMS: what is meant. -/
def ssum (s : Sn) (t : Nat) : Nat := sm (fun i => wt (t.testBit i) (s.2.2.1 i)) s.1
def scard (t : Nat) : Nat := lk (fun i => t.testBit i) 16
def kyS (s : Sn) (t : Nat) : Nat := ssum s t * 16384 + scard t * 1024 + t
theorem scard_b : ∀ t, t < 1024 → scard t ≤ 10 := by decide +kernel
theorem tb_add : ∀ i, i < 10 → ∀ t, t < 2 ^ i → ∀ j, j < 16 → (t + 2 ^ i).testBit j = (t.testBit j || j == i) := by decide +kernel
theorem tb_no : ∀ i, i < 10 → ∀ t, t < 2 ^ i → t.testBit i = false := fun i _ t h => Nat.testBit_lt_two_pow h
theorem tb_clr : ∀ t, t < 1024 → 0 < t → t &&& (t - 1) < t ∧ lo t < 10 ∧ t.testBit (lo t) = true ∧ ∀ i, i < 10 → (t &&& (t - 1)).testBit i = (t.testBit i && !(i == lo t)) := by decide +kernel
theorem ssum_le {s : Sn} (vs : VS s) (t : Nat) : ssum s t ≤ 99990 := by
  have : ssum s t ≤ 9999 * s.1 := sm_le s.1 (fun i hi => Nat.le_trans (wt_le _ _) (vs.2.2.1 i hi).2)
  have := vs.1
  omega
theorem ssum_clr {s : Sn} (vs : VS s) {t : Nat} (ht : t < 2 ^ s.1) (h0 : 0 < t) : lo t < s.1 ∧ ssum s t = ssum s (t &&& (t - 1)) + s.2.2.1 (lo t) := by
  have t10 : t < 1024 := Nat.lt_of_lt_of_le ht (show 2 ^ s.1 ≤ 2 ^ 10 from Nat.pow_le_pow_right (by omega) vs.1.2)
  obtain ⟨h1, h2, h3, h4⟩ := tb_clr t t10 h0
  have ln : lo t < s.1 := by
    apply Nat.lt_of_not_le
    intro z
    have := Nat.testBit_lt_two_pow (Nat.lt_of_lt_of_le ht (Nat.pow_le_pow_right (by omega) z))
    rw [this] at h3
    cases h3
  refine ⟨ln, ?_⟩
  have vn := vs.1
  refine sm_a1 (i0 := lo t) ln (fun i hi hne => ?_) ?_
  · show wt (t.testBit i) _ = wt ((t &&& (t - 1)).testBit i) _
    rw [h4 i (by omega), beq_eq_false_iff_ne.mpr hne, Bool.not_false, Bool.and_true]
  · show wt (t.testBit (lo t)) _ = wt ((t &&& (t - 1)).testBit (lo t)) _ + _
    rw [h4 (lo t) h2, h3, beq_self_eq_true]
    show _ = 0 + _
    rw [Nat.zero_add]
    rfl
theorem kyS_add {s : Sn} (vs : VS s) {i t : Nat} (hi : i < s.1) (ht : t < 2 ^ i) : kyS s (t + 2 ^ i) = kyS s t + (s.2.2.1 i * 16384 + 1024 + 2 ^ i) := by
  have vn := vs.1
  have i10 : i < 10 := by omega
  have nb := tb_no i i10 t ht
  have e1 : ssum s (t + 2 ^ i) = ssum s t + s.2.2.1 i := by
    refine sm_a1 (i0 := i) hi (fun j hj hne => ?_) ?_
    · show wt ((t + 2 ^ i).testBit j) _ = wt (t.testBit j) _
      rw [tb_add i i10 t ht j (by omega), beq_eq_false_iff_ne.mpr hne, Bool.or_false]
    · show wt ((t + 2 ^ i).testBit i) _ = wt (t.testBit i) _ + _
      rw [tb_add i i10 t ht i (by omega), nb, beq_self_eq_true]
      show _ = 0 + _
      rw [Nat.zero_add]
      rfl
  have e2 : scard (t + 2 ^ i) = scard t + 1 := by
    refine sm_a1 (i0 := i) (by omega) (fun j hj hne => ?_) ?_
    · show wt ((t + 2 ^ i).testBit j) _ = wt (t.testBit j) _
      rw [tb_add i i10 t ht j (by omega), beq_eq_false_iff_ne.mpr hne, Bool.or_false]
    · show wt ((t + 2 ^ i).testBit i) _ = wt (t.testBit i) _ + _
      rw [tb_add i i10 t ht i (by omega), nb, beq_self_eq_true]
      rfl
  unfold kyS
  rw [e1, e2]
  omega
theorem kyS_d {s : Sn} {t : Nat} (ht : t < 1024) : kyS s t / 16384 = ssum s t ∧ kyS s t % 1024 = t := by
  have := scard_b t ht
  unfold kyS
  omega
theorem kyS_b {s : Sn} (vs : VS s) {t : Nat} (ht : t < 1024) : kyS s t < 2 ^ 31 := by
  have := scard_b t ht
  have := ssum_le vs t
  unfold kyS
  omega
theorem lk_cg {p q : Nat → Bool} : ∀ m, (∀ j, j < m → p j = q j) → lk p m = lk q m
  | 0, _ => rfl
  | m + 1, h => by rw [lk_s, lk_s, lk_cg m (fun j hj => h j (by omega)), h m (by omega)]
theorem lk_add {p : Nat → Bool} {a : Nat} : ∀ b, lk p (a + b) = lk p a + lk (fun j => p (a + j)) b
  | 0 => rfl
  | b + 1 => by
    rw [← Nat.add_assoc, lk_s, lk_s, lk_add b, Nat.add_assoc]
theorem lk_le {p : Nat → Bool} : ∀ m, lk p m ≤ m
  | 0 => Nat.le_refl _
  | m + 1 => by
    rw [lk_s]
    have := lk_le (p := p) m
    have := wt_le (p m) 1
    omega
theorem lk_pos {p : Nat → Bool} : ∀ m, 0 < lk p m ↔ ∃ j, j < m ∧ p j = true
  | 0 => ⟨fun h => absurd h (Nat.lt_irrefl _), fun ⟨j, hj, _⟩ => absurd hj (Nat.not_lt_zero _)⟩
  | m + 1 => by
    rw [lk_s]
    constructor
    · intro h
      cases q : p m with
      | true => exact ⟨m, by omega, q⟩
      | false =>
        rw [q] at h
        obtain ⟨j, hj, z⟩ := (lk_pos m).mp h
        exact ⟨j, by omega, z⟩
    · rintro ⟨j, hj, z⟩
      by_cases e : j = m
      · rw [e] at z
        rw [z]
        show 0 < _ + 1
        omega
      · have := (lk_pos m).mpr ⟨j, by omega, z⟩
        omega
theorem lk_full {p : Nat → Bool} : ∀ m, (∀ j, j < m → p j = true) → lk p m = m
  | 0, _ => rfl
  | m + 1, h => by
    rw [lk_s, lk_full m (fun j hj => h j (by omega)), h m (by omega)]
    rfl
/-- what holds of the first ones holds of as many as it holds of -/
theorem lk_dc {p : Nat → Bool} : ∀ m, (∀ j, j + 1 < m → p (j + 1) = true → p j = true) → ∀ j, j < m → (p j = true ↔ j < lk p m)
  | 0, _, j, hj => absurd hj (Nat.not_lt_zero _)
  | m + 1, h, j, hj => by
    have ih := lk_dc m (fun j hj => h j (by omega))
    rw [lk_s]
    cases q : p m with
    | true =>
      have all : ∀ n x, x + n = m → p x = true := by
        intro n
        induction n with
        | zero =>
          intro x hx
          rw [show x = m by omega]
          exact q
        | succ n ihn =>
          intro x hx
          exact h x (by omega) (ihn (x + 1) (by omega))
      rw [lk_full m (fun x hx => all (m - x) x (by omega))]
      refine ⟨fun _ => by show j < m + 1; omega, fun _ => all (m - j) j (by omega)⟩
    | false =>
      show p j = true ↔ j < lk p m + 0
      rw [Nat.add_zero]
      by_cases e : j = m
      · rw [e, q]
        refine ⟨fun z => (by cases z), fun z => ?_⟩
        have := lk_le (p := p) m
        omega
      · exact ih j (by omega)
def KS (s : Sn) (i : Nat) (K : Nat → Nat) : Prop := (∀ j, j + 1 < 2 ^ i → K j ≤ K (j + 1)) ∧ ∀ P : Nat → Bool, lk (fun j => P (K j)) (2 ^ i) = lk (fun t => P (kyS s t)) (2 ^ i)
theorem KS.mem {s : Sn} {i : Nat} {K : Nat → Nat} (h : KS s i K) {j : Nat} (hj : j < 2 ^ i) : ∃ t, t < 2 ^ i ∧ K j = kyS s t := by
  have := h.2 (fun x => x == K j)
  have p1 : 0 < lk (fun x => K x == K j) (2 ^ i) := (lk_pos _).mpr ⟨j, hj, by show (K j == K j) = true; rw [beq_self_eq_true]⟩
  rw [this] at p1
  obtain ⟨t, ht, z⟩ := (lk_pos _).mp p1
  exact ⟨t, ht, (beq_iff_eq.mp z).symm⟩
theorem KS.mem2 {s : Sn} {i : Nat} {K : Nat → Nat} (h : KS s i K) {t : Nat} (ht : t < 2 ^ i) : ∃ j, j < 2 ^ i ∧ K j = kyS s t := by
  have := h.2 (fun x => x == kyS s t)
  have p1 : 0 < lk (fun x => kyS s x == kyS s t) (2 ^ i) := (lk_pos _).mpr ⟨t, ht, by show (kyS s t == kyS s t) = true; rw [beq_self_eq_true]⟩
  rw [← this] at p1
  obtain ⟨j, hj, z⟩ := (lk_pos _).mp p1
  exact ⟨j, hj, beq_iff_eq.mp z⟩
theorem KS.le {s : Sn} {i : Nat} {K : Nat → Nat} (h : KS s i K) : ∀ n j, j + n < 2 ^ i → K j ≤ K (j + n)
  | 0, _, _ => Nat.le_refl _
  | n + 1, j, hj => Nat.le_trans (h.le n j (by omega)) (h.1 (j + n) (by omega))
def MG2 (A : Nat → Nat) (m more : Nat) (C : Nat → Nat) (x y : Nat) : Prop := x ≤ m ∧ y ≤ m ∧ (∀ j, j + 1 < x + y → C j ≤ C (j + 1)) ∧ (0 < x + y → (x < m → C (x + y - 1) ≤ A x) ∧ (y < m → C (x + y - 1) ≤ A y + more)) ∧ ∀ P : Nat → Bool, lk (fun j => P (C j)) (x + y) = lk (fun a => P (A a)) x + lk (fun b => P (A b + more)) y
theorem MG2.add {A C : Nat → Nat} {m more x y v : Nat} (h : MG2 A m more C x y) (hv : 0 < x + y → C (x + y - 1) ≤ v) : (∀ j, j + 1 < x + y + 1 → up C (x + y) v j ≤ up C (x + y) v (j + 1)) ∧ up C (x + y) v (x + y) = v ∧ ∀ P : Nat → Bool, lk (fun j => P (up C (x + y) v j)) (x + y + 1) = lk (fun a => P (A a)) x + lk (fun b => P (A b + more)) y + wt (P v) 1 := by
  obtain ⟨h1, h2, h3, h4, h5⟩ := h
  refine ⟨fun j hj => ?_, up_eq, fun P => ?_⟩
  · by_cases e : j + 1 = x + y
    · rw [e, up_eq, up_ne (by omega)]
      have := hv (by omega)
      rw [← e, Nat.add_sub_cancel] at this
      exact this
    · rw [up_ne (by omega), up_ne (by omega)]
      exact h3 j (by omega)
  · rw [lk_s, up_eq, ← h5 P]
    congr 1
    exact lk_cg _ (fun j hj => by rw [up_ne (by omega)])
theorem MG2.left {A C : Nat → Nat} {m more x y : Nat} (h : MG2 A m more C x y) (hx : x < m) (ha : ∀ j, j + 1 < m → A j ≤ A (j + 1)) (hxy : y < m → A x ≤ A y + more) : MG2 A m more (up C (x + y) (A x)) (x + 1) y := by
  obtain ⟨g1, g2, g3⟩ := h.add (v := A x) (fun z => (h.2.2.2.1 z).1 hx)
  refine ⟨hx, h.2.1, ?_, fun _ => ?_, fun P => ?_⟩
  · rw [show x + 1 + y = x + y + 1 by omega]
    exact g1
  · rw [show x + 1 + y - 1 = x + y by omega, g2]
    exact ⟨fun z => ha x z, hxy⟩
  · rw [show x + 1 + y = x + y + 1 by omega, g3 P, lk_s]
    omega
theorem MG2.right {A C : Nat → Nat} {m more x y : Nat} (h : MG2 A m more C x y) (hy : y < m) (ha : ∀ j, j + 1 < m → A j ≤ A (j + 1)) (hxy : x < m → A y + more ≤ A x) : MG2 A m more (up C (x + y) (A y + more)) x (y + 1) := by
  obtain ⟨g1, g2, g3⟩ := h.add (v := A y + more) (fun z => (h.2.2.2.1 z).2 hy)
  refine ⟨h.1, hy, ?_, fun _ => ?_, fun P => ?_⟩
  · rw [show x + (y + 1) = x + y + 1 by omega]
    exact g1
  · rw [show x + (y + 1) - 1 = x + y by omega, g2]
    exact ⟨hxy, fun z => by have := ha y z; omega⟩
  · rw [show x + (y + 1) = x + y + 1 by omega, g3 P, lk_s, Nat.add_assoc]
theorem MG2.fin {A C : Nat → Nat} {s : Sn} (vs : VS s) {i : Nat} (hi : i < s.1) (hA : KS s i A) (h : MG2 A (2 ^ i) (s.2.2.1 i * 16384 + 1024 + 2 ^ i) C (2 ^ i) (2 ^ i)) : KS s (i + 1) C := by
  obtain ⟨h1, h2, h3, h4, h5⟩ := h
  have e : 2 ^ (i + 1) = 2 ^ i + 2 ^ i := by rw [Nat.pow_succ]; omega
  refine ⟨?_, fun P => ?_⟩
  · rw [e]
    exact h3
  · rw [e, h5 P, lk_add]
    congr 1
    · exact hA.2 P
    · rw [hA.2 (fun x => P (x + (s.2.2.1 i * 16384 + 1024 + 2 ^ i)))]
      exact lk_cg _ (fun t ht => by rw [Nat.add_comm (2 ^ i) t, kyS_add vs hi ht])
theorem KS.zero {s : Sn} : KS s 0 (fun _ => 0) := by
  refine ⟨fun j hj => Nat.le_refl _, fun P => lk_cg _ (fun j hj => ?_)⟩
  have : j = 0 := by
    have : 2 ^ 0 = 1 := rfl
    omega
  subst this
  have e : kyS s 0 = 0 := by
    have : ssum s 0 = 0 := by
      unfold ssum
      have : ∀ n, sm (fun i => wt ((0 : Nat).testBit i) (s.2.2.1 i)) n = 0 := fun n => by
        induction n with
        | zero => rfl
        | succ n ih => rw [sm, ih, Nat.zero_testBit]; rfl
      exact this _
    unfold kyS
    rw [this]
    rfl
  rw [e]
/-- how many sets have a lesser sum -/
def cF (s : Sn) (x : Nat) : Nat := lk (fun t => decide (ssum s t < x)) (2 ^ s.1)
theorem t10 {s : Sn} (vs : VS s) {t : Nat} (h : t < 2 ^ s.1) : t < 1024 := Nat.lt_of_lt_of_le h (show 2 ^ s.1 ≤ 2 ^ 10 from Nat.pow_le_pow_right (by omega) vs.1.2)
theorem KS_cF {s : Sn} (vs : VS s) {K : Nat → Nat} (h : KS s s.1 K) (x : Nat) : cF s x ≤ 2 ^ s.1 ∧ ∀ j, j < 2 ^ s.1 → (K j / 16384 < x ↔ j < cF s x) := by
  have e : cF s x = lk (fun j => decide (K j / 16384 < x)) (2 ^ s.1) := by
    rw [h.2 (fun y => decide (y / 16384 < x))]
    unfold cF
    exact lk_cg _ (fun t ht => by rw [(kyS_d (t10 vs ht)).1])
  rw [e]
  refine ⟨lk_le _, fun j hj => ?_⟩
  have := lk_dc (p := fun j => decide (K j / 16384 < x)) (2 ^ s.1) (fun j hj z => ?_) j hj
  · rw [← this]
    simp
  · have z := of_decide_eq_true z
    have := h.1 j hj
    have : K j / 16384 ≤ K (j + 1) / 16384 := Nat.div_le_div_right this
    exact decide_eq_true (by omega)
