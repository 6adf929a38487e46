/-! ALL ROWS: what is meant. (least spread, how many have it, least greatest heap, the first such row) -/
abbrev Ac : Type := Nat × Nat × Nat × (Nat → Nat)
abbrev T3 : Type := Nat × Nat × Nat
def o3 (A B : T3) : T3 := (min A.1 B.1, (if A.1 ≤ B.1 then A.2.1 else 0) + (if B.1 ≤ A.1 then B.2.1 else 0), min A.2.2 B.2.2)
def e3 : T3 := (1000000, 0, 1000000)
def p3 (A : Ac) : T3 := (A.1, A.2.1, A.2.2.1)
def cb (A B : Ac) : Ac := (min A.1 B.1, (if A.1 ≤ B.1 then A.2.1 else 0) + (if B.1 ≤ A.1 then B.2.1 else 0), min A.2.2.1 B.2.2.1, if B.1 < A.1 then B.2.2.2 else A.2.2.2)
def e0 : Ac := (1000000, 0, 1000000, fun _ => 0)
def sc (w : Nat) (A : Ac) : Ac := (A.1, w * A.2.1, A.2.2.1, A.2.2.2)
theorem p3_cb (A B : Ac) : p3 (cb A B) = o3 (p3 A) (p3 B) := rfl
theorem o3_comm (A B : T3) : o3 A B = o3 B A := by
  unfold o3
  rw [Nat.min_comm A.1, Nat.min_comm A.2.2, Nat.add_comm]
theorem o3_assoc (A B C : T3) : o3 (o3 A B) C = o3 A (o3 B C) := by
  obtain ⟨a1, a2, a3⟩ := A
  obtain ⟨b1, b2, b3⟩ := B
  obtain ⟨c1, c2, c3⟩ := C
  unfold o3
  refine Prod.ext (Nat.min_assoc _ _ _) (Prod.ext ?_ (Nat.min_assoc _ _ _))
  show (if min a1 b1 ≤ c1 then (if a1 ≤ b1 then a2 else 0) + (if b1 ≤ a1 then b2 else 0) else 0) + (if c1 ≤ min a1 b1 then c2 else 0) = (if a1 ≤ min b1 c1 then a2 else 0) + (if min b1 c1 ≤ a1 then (if b1 ≤ c1 then b2 else 0) + (if c1 ≤ b1 then c2 else 0) else 0)
  repeat' split
  all_goals omega
theorem cb_assoc (A B C : Ac) : cb (cb A B) C = cb A (cb B C) := by
  obtain ⟨a1, a2, a3, a4⟩ := A
  obtain ⟨b1, b2, b3, b4⟩ := B
  obtain ⟨c1, c2, c3, c4⟩ := C
  unfold cb
  refine Prod.ext (Nat.min_assoc _ _ _) (Prod.ext ?_ (Prod.ext (Nat.min_assoc _ _ _) ?_))
  · show (if min a1 b1 ≤ c1 then (if a1 ≤ b1 then a2 else 0) + (if b1 ≤ a1 then b2 else 0) else 0) + (if c1 ≤ min a1 b1 then c2 else 0) = (if a1 ≤ min b1 c1 then a2 else 0) + (if min b1 c1 ≤ a1 then (if b1 ≤ c1 then b2 else 0) + (if c1 ≤ b1 then c2 else 0) else 0)
    repeat' split
    all_goals omega
  · show (if c1 < min a1 b1 then c4 else if b1 < a1 then b4 else a4) = if min b1 c1 < a1 then (if c1 < b1 then c4 else b4) else a4
    by_cases h1 : c1 < min a1 b1
    · rw [if_pos h1, if_pos (by omega), if_pos (by omega)]
    · rw [if_neg h1]
      by_cases h2 : b1 < a1
      · rw [if_pos h2, if_pos (by omega), if_neg (by omega)]
      · rw [if_neg h2, if_neg (by omega)]
theorem sc_cb (w : Nat) (A B : Ac) : sc w (cb A B) = cb (sc w A) (sc w B) := by
  unfold sc cb
  refine Prod.ext rfl (Prod.ext ?_ rfl)
  show w * ((if A.1 ≤ B.1 then A.2.1 else 0) + (if B.1 ≤ A.1 then B.2.1 else 0)) = (if A.1 ≤ B.1 then w * A.2.1 else 0) + (if B.1 ≤ A.1 then w * B.2.1 else 0)
  rw [Nat.mul_add]
  congr 1 <;> split <;> simp
theorem sc_sc (w l : Nat) (A : Ac) : sc w (sc l A) = sc (w * l) A := by
  unfold sc
  rw [Nat.mul_assoc]
theorem sc_1 (A : Ac) : sc 1 A = A := by
  unfold sc
  rw [Nat.one_mul]
theorem cb_e0 {A : Ac} (h1 : A.1 ≤ 1000000) (h2 : A.2.2.1 ≤ 1000000) : cb A e0 = A := by
  unfold cb e0
  refine Prod.ext (Nat.min_eq_left h1) (Prod.ext ?_ (Prod.ext (Nat.min_eq_left h2) ?_))
  · show (if A.1 ≤ 1000000 then A.2.1 else 0) + (if 1000000 ≤ A.1 then 0 else 0) = A.2.1
    rw [if_pos h1, ite_self, Nat.add_zero]
  · show (if 1000000 < A.1 then _ else A.2.2.2) = A.2.2.2
    rw [if_neg (by omega)]
theorem o3_e {A : T3} (h1 : A.1 ≤ 1000000) (h2 : A.2.2 ≤ 1000000) : o3 A e3 = A := by
  unfold o3 e3
  refine Prod.ext (Nat.min_eq_left h1) (Prod.ext ?_ (Nat.min_eq_left h2))
  show (if A.1 ≤ 1000000 then A.2.1 else 0) + (if 1000000 ≤ A.1 then 0 else 0) = A.2.1
  rw [if_pos h1, ite_self, Nat.add_zero]
def fdq (okc : Nat → Bool) (C : Nat → Ac) : Nat → Ac
  | 0 => e0
  | m + 1 => if okc m then cb (fdq okc C m) (C m) else fdq okc C m
def fd3 (g : Nat → T3) : Nat → T3
  | 0 => e3
  | m + 1 => o3 (fd3 g m) (g m)
theorem fd3_le (g : Nat → T3) : ∀ m, (fd3 g m).1 ≤ 1000000 ∧ (fd3 g m).2.2 ≤ 1000000
  | 0 => ⟨Nat.le_refl _, Nat.le_refl _⟩
  | m + 1 => ⟨Nat.le_trans (Nat.min_le_left _ _) (fd3_le g m).1, Nat.le_trans (Nat.min_le_left _ _) (fd3_le g m).2⟩
theorem fdq_le (okc : Nat → Bool) (C : Nat → Ac) : ∀ m, (fdq okc C m).1 ≤ 1000000 ∧ (fdq okc C m).2.2.1 ≤ 1000000
  | 0 => ⟨Nat.le_refl _, Nat.le_refl _⟩
  | m + 1 => by
    rw [fdq]
    split
    · exact ⟨Nat.le_trans (Nat.min_le_left _ _) (fdq_le okc C m).1, Nat.le_trans (Nat.min_le_left _ _) (fdq_le okc C m).2⟩
    · exact fdq_le okc C m
theorem p3_fdq (okc : Nat → Bool) (C : Nat → Ac) : ∀ m, p3 (fdq okc C m) = fd3 (fun h => if okc h then p3 (C h) else e3) m
  | 0 => rfl
  | m + 1 => by
    rw [fdq, fd3, ← p3_fdq okc C m]
    cases q : okc m with
    | true => rfl
    | false =>
      have h := fdq_le okc C m
      exact (o3_e (A := p3 (fdq okc C m)) h.1 h.2).symm
def u3 (g : Nat → T3) (a : Nat) (x : T3) : Nat → T3 := fun h => if h = a then x else g h
theorem fd3_cg {f g : Nat → T3} : ∀ m, (∀ h, h < m → f h = g h) → fd3 f m = fd3 g m
  | 0, _ => rfl
  | m + 1, h => by rw [fd3, fd3, fd3_cg m (fun x hx => h x (by omega)), h m (by omega)]
theorem fd3_pull {g : Nat → T3} {a : Nat} : ∀ m, a < m → fd3 g m = o3 (fd3 (u3 g a e3) m) (g a)
  | 0, h => absurd h (Nat.not_lt_zero _)
  | m + 1, h => by
    by_cases e : a = m
    · subst e
      have h1 : fd3 (u3 g a e3) (a + 1) = fd3 g a := by
        rw [fd3, show u3 g a e3 a = e3 from if_pos rfl, o3_e (fd3_le _ _).1 (fd3_le _ _).2]
        exact fd3_cg a (fun x hx => if_neg (by omega))
      rw [h1]
      rfl
    · have h1 : fd3 (u3 g a e3) (m + 1) = o3 (fd3 (u3 g a e3) m) (g m) := by
        rw [fd3, show u3 g a e3 m = g m from if_neg (by omega)]
      rw [h1, fd3, fd3_pull (a := a) m (by omega), o3_assoc, o3_comm (g a), ← o3_assoc]
def tau (a b x : Nat) : Nat := if x = a then b else if x = b then a else x
theorem tau_a {a b : Nat} : tau a b a = b := if_pos rfl
theorem tau_b {a b : Nat} : tau a b b = a := by
  unfold tau
  split
  · rename_i h; exact h
  · rw [if_pos rfl]
theorem tau_n {a b x : Nat} (h1 : x ≠ a) (h2 : x ≠ b) : tau a b x = x := by
  unfold tau
  rw [if_neg h1, if_neg h2]
theorem tau_tau (a b x : Nat) : tau a b (tau a b x) = x := by
  by_cases h1 : x = a
  · rw [h1, tau_a, tau_b]
  · by_cases h2 : x = b
    · rw [h2, tau_b, tau_a]
    · rw [tau_n h1 h2, tau_n h1 h2]
theorem tau_lt {a b k x : Nat} (ha : a < k) (hb : b < k) (hx : x < k) : tau a b x < k := by
  unfold tau
  split
  · exact hb
  · split
    · exact ha
    · exact hx
theorem fd3_tau {g : Nat → T3} {a b k : Nat} (ha : a < k) (hb : b < k) : fd3 (fun h => g (tau a b h)) k = fd3 g k := by
  by_cases e : a = b
  · subst e
    refine fd3_cg k (fun h _ => ?_)
    have : tau a a h = h := by
      by_cases z : h = a
      · rw [z, tau_a]
      · exact tau_n z z
    rw [this]
  · rw [fd3_pull k ha, fd3_pull (g := u3 (fun h => g (tau a b h)) a e3) k hb, fd3_pull (g := g) k ha, fd3_pull (g := u3 g a e3) k hb]
    have e1 : fd3 (u3 (u3 (fun h => g (tau a b h)) a e3) b e3) k = fd3 (u3 (u3 g a e3) b e3) k := fd3_cg k (fun h _ => by
      unfold u3
      by_cases z1 : h = b
      · rw [if_pos z1, if_pos z1]
      · rw [if_neg z1, if_neg z1]
        by_cases z2 : h = a
        · rw [if_pos z2, if_pos z2]
        · rw [if_neg z2, if_neg z2]
          show g (tau a b h) = g h
          rw [tau_n z2 z1])
    have e2 : u3 (fun h => g (tau a b h)) a e3 b = g a := by
      unfold u3
      rw [if_neg (fun z => e z.symm)]
      show g (tau a b b) = g a
      rw [tau_b]
    have e4 : u3 g a e3 b = g b := if_neg (fun z => e z.symm)
    rw [e1, e2, e4, tau_a, o3_assoc, o3_comm (g a), ← o3_assoc]
def exB (p : Nat → Bool) : Nat → Bool
  | 0 => false
  | m + 1 => exB p m || p m
theorem exB_iff {p : Nat → Bool} : ∀ m, exB p m = true ↔ ∃ j, j < m ∧ p j = true
  | 0 => ⟨fun h => (by cases h), fun ⟨j, hj, _⟩ => absurd hj (Nat.not_lt_zero _)⟩
  | m + 1 => by
    rw [exB, Bool.or_eq_true, exB_iff m]
    constructor
    · rintro (⟨j, hj, h⟩ | h)
      · exact ⟨j, by omega, h⟩
      · exact ⟨m, by omega, h⟩
    · rintro ⟨j, hj, h⟩
      by_cases e : j = m
      · right; rw [← e]; exact h
      · exact Or.inl ⟨j, by omega, h⟩
theorem exB_cg {p q : Nat → Bool} : ∀ m, (∀ j, j < m → p j = q j) → exB p m = exB q m
  | 0, _ => rfl
  | m + 1, h => by rw [exB, exB, exB_cg m (fun j hj => h j (by omega)), h m (by omega)]
abbrev kp (s : Sn) : Nat → Nat := s.2.2.2.1
abbrev ap (s : Sn) : Nat → Nat → Bool := apb s.2.2.2.2
def foe (s : Sn) (ρ : Nat → Nat) (i h : Nat) : Bool := exB (fun j => ap s i j && (ρ j == h)) i
def okR (s : Sn) (ρ : Nat → Nat) (i h : Nat) : Bool := (kp s i == 0 || kp s i == h + 1) && !foe s ρ i h
def lfq (s : Sn) (k : Nat) (cm : Bool) (ρ : Nat → Nat) : Ac := if cm then (0, 1, 0, ρ) else (spr (hsum s.1 s.2.2.1 ρ) k, 1, mx (hsum s.1 s.2.2.1 ρ) k, ρ)
def tq (s : Sn) (k : Nat) (cm : Bool) : Nat → (Nat → Nat) → Ac
  | 0, ρ => lfq s k cm ρ
  | r + 1, ρ => fdq (okR s ρ (s.1 - (r + 1))) (fun h => tq s k cm r (up ρ (s.1 - (r + 1)) h)) k
theorem mn_gb {s : Nat → Nat} {b : Nat} : ∀ k, (∀ j, j < k → b ≤ s j) → b ≤ s 0 → b ≤ mn s k
  | 0, _, h0 => h0
  | k + 1, h, h0 => by
    have := mn_gb k (fun j hj => h j (by omega)) h0
    have h2 := h k (by omega)
    rw [mn]
    omega
theorem mx_tau {s : Nat → Nat} {a b k : Nat} (ha : a < k) (hb : b < k) : mx (fun h => s (tau a b h)) k = mx s k := by
  apply Nat.le_antisymm
  · exact mx_b k (fun j hj => mx_ge s k _ (tau_lt ha hb hj)) (mx_ge s k _ (tau_lt ha hb (by omega)))
  · refine mx_b k (fun j hj => ?_) ?_
    · have := mx_ge (fun h => s (tau a b h)) k (tau a b j) (tau_lt ha hb hj)
      simp only [tau_tau] at this
      exact this
    · have := mx_ge (fun h => s (tau a b h)) k (tau a b 0) (tau_lt ha hb (by omega))
      simp only [tau_tau] at this
      exact this
theorem mn_tau {s : Nat → Nat} {a b k : Nat} (ha : a < k) (hb : b < k) : mn (fun h => s (tau a b h)) k = mn s k := by
  apply Nat.le_antisymm
  · refine mn_gb k (fun j hj => ?_) ?_
    · have := mn_le (fun h => s (tau a b h)) k (tau a b j) (tau_lt ha hb hj)
      simp only [tau_tau] at this
      exact this
    · have := mn_le (fun h => s (tau a b h)) k (tau a b 0) (tau_lt ha hb (by omega))
      simp only [tau_tau] at this
      exact this
  · exact mn_gb k (fun j hj => mn_le s k _ (tau_lt ha hb hj)) (mn_le s k _ (tau_lt ha hb (by omega)))
theorem tau_beq (a b x h : Nat) : (tau a b x == h) = (x == tau a b h) := by
  by_cases e : tau a b x = h
  · rw [beq_iff_eq.mpr e, ← e, tau_tau]
    simp
  · rw [beq_eq_false_iff_ne.mpr e, beq_eq_false_iff_ne.mpr (fun z => e (by rw [z, tau_tau]))]
theorem hsum_tau {n a b : Nat} {v ρ : Nat → Nat} (h : Nat) : hsum n v (fun j => tau a b (ρ j)) h = hsum n v ρ (tau a b h) := sm_congr n (fun i _ => by simp only [tau_beq])
theorem foe_cg {s : Sn} {ρ σ : Nat → Nat} {i h h' : Nat} (e : ∀ j, j < i → ap s i j = true → (ρ j == h) = (σ j == h')) : foe s ρ i h = foe s σ i h' := exB_cg i (fun j hj => by
  show (ap s i j && (ρ j == h)) = (ap s i j && (σ j == h'))
  cases q : ap s i j with
  | false => rfl
  | true => rw [e j hj q])
theorem tq_cg {s : Sn} {k : Nat} {cm : Bool} : ∀ (r : Nat), r ≤ s.1 → ∀ (ρ σ : Nat → Nat), (∀ j, j < s.1 - r → ρ j = σ j ∨ (cm = true ∧ ∀ t, ap s j t = false)) → p3 (tq s k cm r ρ) = p3 (tq s k cm r σ)
  | 0, _, ρ, σ, h => by
    rw [tq, tq, lfq, lfq]
    cases cm with
    | true => rfl
    | false =>
      have e : hsum s.1 s.2.2.1 ρ = hsum s.1 s.2.2.1 σ := funext (fun x => hsum_congr (fun i hi => (h i (by omega)).elim id (fun z => by cases z.1)))
      simp only [Bool.false_eq_true, if_false, e]
      rfl
  | r + 1, hr, ρ, σ, h => by
    rw [tq, tq, p3_fdq, p3_fdq]
    refine fd3_cg k (fun x hx => ?_)
    have e1 : okR s ρ (s.1 - (r + 1)) x = okR s σ (s.1 - (r + 1)) x := by
      unfold okR
      rw [foe_cg (ρ := ρ) (σ := σ) (h' := x) (fun j hj ha => ?_)]
      rcases h j hj with z | z
      · rw [z]
      · have := z.2 (s.1 - (r + 1))
        rw [show ap s j (s.1 - (r + 1)) = ap s (s.1 - (r + 1)) j from apb_comm _ _ _, ha] at this
        cases this
    have e2 := tq_cg (s := s) (k := k) (cm := cm) r (by omega) (up ρ (s.1 - (r + 1)) x) (up σ (s.1 - (r + 1)) x) (fun j hj => by
      by_cases z : j = s.1 - (r + 1)
      · left
        rw [z, up_eq, up_eq]
      · rw [up_ne z, up_ne z]
        exact h j (by omega))
    simp only [e1, e2]
theorem tq_tau {s : Sn} {k a b : Nat} {cm : Bool} (ha : a < k) (hb : b < k) (hn : ∀ i, i < s.1 → kp s i ≠ a + 1 ∧ kp s i ≠ b + 1) : ∀ (r : Nat), r ≤ s.1 → ∀ (ρ : Nat → Nat), p3 (tq s k cm r (fun j => tau a b (ρ j))) = p3 (tq s k cm r ρ)
  | 0, _, ρ => by
    rw [tq, tq, lfq, lfq]
    cases cm with
    | true => rfl
    | false =>
      have e : hsum s.1 s.2.2.1 (fun j => tau a b (ρ j)) = fun h => hsum s.1 s.2.2.1 ρ (tau a b h) := funext (fun x => hsum_tau x)
      simp only [Bool.false_eq_true, if_false, e]
      unfold p3 spr
      simp only [mx_tau ha hb, mn_tau ha hb]
  | r + 1, hr, ρ => by
    rw [tq, tq, p3_fdq, p3_fdq]
    rw [← fd3_tau (g := fun h => if okR s ρ (s.1 - (r + 1)) h then p3 (tq s k cm r (up ρ (s.1 - (r + 1)) h)) else e3) ha hb]
    refine fd3_cg k (fun x hx => ?_)
    have e1 : okR s (fun j => tau a b (ρ j)) (s.1 - (r + 1)) x = okR s ρ (s.1 - (r + 1)) (tau a b x) := by
      unfold okR
      have hk := hn (s.1 - (r + 1)) (by omega)
      rw [foe_cg (ρ := fun j => tau a b (ρ j)) (σ := ρ) (h' := tau a b x) (fun j _ _ => tau_beq a b (ρ j) x)]
      congr 2
      by_cases z1 : x = a
      · rw [z1, tau_a, beq_eq_false_iff_ne.mpr hk.1, beq_eq_false_iff_ne.mpr hk.2]
      · by_cases z2 : x = b
        · rw [z2, tau_b, beq_eq_false_iff_ne.mpr hk.1, beq_eq_false_iff_ne.mpr hk.2]
        · rw [tau_n z1 z2]
    have e2 : up (fun j => tau a b (ρ j)) (s.1 - (r + 1)) x = fun j => tau a b (up ρ (s.1 - (r + 1)) (tau a b x) j) := by
      funext j
      by_cases z : j = s.1 - (r + 1)
      · rw [z, up_eq, up_eq, tau_tau]
      · rw [up_ne z, up_ne z]
    simp only [e1, e2, tq_tau ha hb hn r (by omega)]
/-- heaps that are empty so far and in which none is kept are alike -/
theorem tq_like {s : Sn} {k a b r : Nat} {cm : Bool} {ρ : Nat → Nat} (ha : a < k) (hb : b < k) (hn : ∀ i, i < s.1 → kp s i ≠ a + 1 ∧ kp s i ≠ b + 1) (hr : r < s.1) (he : ∀ j, j < s.1 - (r + 1) → ρ j ≠ a ∧ ρ j ≠ b) :
    p3 (tq s k cm r (up ρ (s.1 - (r + 1)) a)) = p3 (tq s k cm r (up ρ (s.1 - (r + 1)) b)) := by
  rw [← tq_tau ha hb hn r (by omega) (up ρ (s.1 - (r + 1)) a)]
  refine tq_cg r (by omega) _ _ (fun j hj => Or.inl ?_)
  by_cases z : j = s.1 - (r + 1)
  · rw [z, up_eq, up_eq, tau_a]
  · rw [up_ne z, up_ne z]
    have := he j (by omega)
    exact tau_n this.1 this.2
/-- how the class goes through the heaps -/
def lk (nl : Nat → Bool) (k : Nat) : Nat := sm (fun h => wt (nl h) 1) k
def cf (okc nl : Nat → Bool) (C : Nat → Ac) (L w : Nat) (a0 : Ac) : Nat → Bool × Ac
  | 0 => (false, a0)
  | h + 1 => if okc h && !(nl h && (cf okc nl C L w a0 h).1) then ((cf okc nl C L w a0 h).1 || nl h, cb (cf okc nl C L w a0 h).2 (sc (w * (if nl h then L else 1)) (C h))) else cf okc nl C L w a0 h
def ad (X : Ac) (y : Nat) : Ac := (X.1, X.2.1 + y, X.2.2.1, X.2.2.2)
theorem lk_s (nl : Nat → Bool) (h : Nat) : lk nl (h + 1) = lk nl h + wt (nl h) 1 := rfl
theorem lk_mono (nl : Nat → Bool) : ∀ n h, lk nl h ≤ lk nl (h + n)
  | 0, _ => Nat.le_refl _
  | n + 1, h => by
    rw [← Nat.add_assoc, lk_s]
    exact Nat.le_trans (lk_mono nl n h) (Nat.le_add_right _ _)
theorem cb_sc (a0 X Y : Ac) (w l : Nat) : cb (cb a0 (sc w X)) (sc (w * l) Y) = cb a0 (sc w (cb X (sc l Y))) := by
  rw [cb_assoc, sc_cb, sc_sc]
theorem cf_ok {okc nl : Nat → Bool} {C : Nat → Ac} {k w : Nat} {a0 : Ac} {fr : Bool} (h1 : ∀ h, h < k → nl h = true → okc h = fr) (h2 : ∀ h h', h < k → h' < k → nl h = true → nl h' = true → p3 (C h) = p3 (C h')) (ha : a0.1 ≤ 1000000 ∧ a0.2.2.1 ≤ 1000000) :
    (cf okc nl C (lk nl k) w a0 k).2 = cb a0 (sc w (fdq okc C k)) := by
  have z0 : cb a0 (sc w e0) = a0 := by
    have : sc w e0 = e0 := rfl
    rw [this, cb_e0 ha.1 ha.2]
  cases fr with
  | false =>
    have key : ∀ h, h ≤ k → (cf okc nl C (lk nl k) w a0 h).1 = false ∧ (cf okc nl C (lk nl k) w a0 h).2 = cb a0 (sc w (fdq okc C h)) := by
      intro h
      induction h with
      | zero => exact fun _ => ⟨rfl, z0.symm⟩
      | succ h ih =>
        intro hh
        obtain ⟨i1, i2⟩ := ih (by omega)
        rw [cf, fdq]
        cases q : okc h with
        | false =>
          simp only [Bool.false_and, Bool.false_eq_true, if_false]
          exact ⟨i1, i2⟩
        | true =>
          have nh : nl h = false := by
            cases z : nl h with
            | false => rfl
            | true =>
              have := h1 h (by omega) z
              rw [q] at this
              cases this
          simp only [nh, i1, Bool.false_and, Bool.not_false, Bool.and_true, if_true, Bool.or_false, Bool.false_eq_true, if_false, true_and]
          rw [i2, cb_sc, sc_1]
    exact (key k (Nat.le_refl _)).2
  | true =>
    have key : ∀ h, h ≤ k → (lk nl h = 0 → (cf okc nl C (lk nl k) w a0 h).1 = false ∧ (cf okc nl C (lk nl k) w a0 h).2 = cb a0 (sc w (fdq okc C h))) ∧ (0 < lk nl h → (cf okc nl C (lk nl k) w a0 h).1 = true ∧ ∃ g, g < h ∧ nl g = true ∧ (fdq okc C h).1 ≤ (C g).1 ∧ (fdq okc C h).2.2.1 ≤ (C g).2.2.1 ∧ (cf okc nl C (lk nl k) w a0 h).2 = cb a0 (sc w (ad (fdq okc C h) (if (C g).1 ≤ (fdq okc C h).1 then (lk nl k - lk nl h) * (C g).2.1 else 0)))) := by
      intro h
      induction h with
      | zero => exact fun _ => ⟨fun _ => ⟨rfl, z0.symm⟩, fun z => absurd z (Nat.lt_irrefl _)⟩
      | succ h ih =>
        intro hh
        obtain ⟨i1, i2⟩ := ih (by omega)
        have lm := lk_mono nl (k - (h + 1)) (h + 1)
        rw [show h + 1 + (k - (h + 1)) = k by omega] at lm
        rw [cf, fdq]
        cases nh : nl h with
        | true =>
          have oh := h1 h (by omega) nh
          have es : lk nl (h + 1) = lk nl h + 1 := by rw [lk_s, nh]; rfl
          rw [es] at lm ⊢
          refine ⟨fun z => by omega, fun _ => ?_⟩
          by_cases z : lk nl h = 0
          · obtain ⟨j1, j2⟩ := i1 z
            rw [oh, j1]
            simp only [Bool.and_false, Bool.not_false, Bool.and_true, if_true, Bool.false_or, true_and]
            refine ⟨h, by omega, nh, Nat.min_le_right _ _, Nat.min_le_right _ _, ?_⟩
            rw [j2, cb_sc]
            congr 2
            unfold cb sc ad
            refine Prod.ext rfl (Prod.ext ?_ rfl)
            show (if (fdq okc C h).1 ≤ (C h).1 then (fdq okc C h).2.1 else 0) + (if (C h).1 ≤ (fdq okc C h).1 then lk nl k * (C h).2.1 else 0) = (if (fdq okc C h).1 ≤ (C h).1 then (fdq okc C h).2.1 else 0) + (if (C h).1 ≤ (fdq okc C h).1 then (C h).2.1 else 0) + (if (C h).1 ≤ min (fdq okc C h).1 (C h).1 then (lk nl k - (lk nl h + 1)) * (C h).2.1 else 0)
            obtain ⟨m, hm⟩ : ∃ m, lk nl k = m + 1 := ⟨lk nl k - 1, by omega⟩
            rw [hm, z, Nat.add_mul, Nat.one_mul, show m + 1 - (0 + 1) = m by omega]
            repeat' split
            all_goals omega
          · obtain ⟨j1, g, g1, g2, g3, g4, g5⟩ := i2 (by omega)
            rw [oh, j1]
            simp only [Bool.and_true, Bool.not_true, Bool.and_false, Bool.false_eq_true, if_false, if_true]
            have e := h2 h g (by omega) (by omega) nh g2
            have c1 : (C h).1 = (C g).1 := congrArg (fun t => t.1) e
            have c2 : (C h).2.1 = (C g).2.1 := congrArg (fun t => t.2.1) e
            have c3 : (C h).2.2.1 = (C g).2.2.1 := congrArg (fun t => t.2.2) e
            refine ⟨j1, g, by omega, g2, Nat.le_trans (Nat.min_le_left _ _) g3, Nat.le_trans (Nat.min_le_left _ _) g4, ?_⟩
            rw [g5]
            congr 2
            unfold cb ad
            refine Prod.ext ?_ (Prod.ext ?_ (Prod.ext ?_ ?_))
            · show (fdq okc C h).1 = min (fdq okc C h).1 (C h).1
              omega
            · show (fdq okc C h).2.1 + (if (C g).1 ≤ (fdq okc C h).1 then (lk nl k - lk nl h) * (C g).2.1 else 0) = (if (fdq okc C h).1 ≤ (C h).1 then (fdq okc C h).2.1 else 0) + (if (C h).1 ≤ (fdq okc C h).1 then (C h).2.1 else 0) + (if (C g).1 ≤ min (fdq okc C h).1 (C h).1 then (lk nl k - (lk nl h + 1)) * (C g).2.1 else 0)
              rw [c1, c2]
              obtain ⟨m, hm⟩ : ∃ m, lk nl k - lk nl h = m + 1 := ⟨lk nl k - lk nl h - 1, by omega⟩
              rw [hm, Nat.add_mul, Nat.one_mul, show lk nl k - (lk nl h + 1) = m by omega]
              repeat' split
              all_goals omega
            · show (fdq okc C h).2.2.1 = min (fdq okc C h).2.2.1 (C h).2.2.1
              omega
            · show (fdq okc C h).2.2.2 = if (C h).1 < (fdq okc C h).1 then (C h).2.2.2 else (fdq okc C h).2.2.2
              rw [if_neg (by omega)]
        | false =>
          have es : lk nl (h + 1) = lk nl h := by rw [lk_s, nh]; rfl
          rw [es]
          cases oh : okc h with
          | false =>
            simp only [Bool.false_and, Bool.false_eq_true, if_false]
            refine ⟨i1, fun z => ?_⟩
            obtain ⟨j1, g, g1, g2⟩ := i2 z
            exact ⟨j1, g, by omega, g2⟩
          | true =>
            simp only [Bool.false_and, Bool.not_false, Bool.and_true, if_true, Bool.or_false, Bool.false_eq_true, if_false]
            refine ⟨fun z => ?_, fun z => ?_⟩
            · obtain ⟨j1, j2⟩ := i1 z
              refine ⟨j1, ?_⟩
              rw [j2, cb_sc, sc_1]
            · obtain ⟨j1, g, g1, g2, g3, g4, g5⟩ := i2 z
              refine ⟨j1, g, by omega, g2, Nat.le_trans (Nat.min_le_left _ _) g3, Nat.le_trans (Nat.min_le_left _ _) g4, ?_⟩
              rw [g5, cb_sc, sc_1]
              congr 2
              unfold cb ad
              refine Prod.ext rfl (Prod.ext ?_ rfl)
              show (if (fdq okc C h).1 ≤ (C h).1 then (fdq okc C h).2.1 + (if (C g).1 ≤ (fdq okc C h).1 then (lk nl k - lk nl h) * (C g).2.1 else 0) else 0) + (if (C h).1 ≤ (fdq okc C h).1 then (C h).2.1 else 0) = (if (fdq okc C h).1 ≤ (C h).1 then (fdq okc C h).2.1 else 0) + (if (C h).1 ≤ (fdq okc C h).1 then (C h).2.1 else 0) + (if (C g).1 ≤ min (fdq okc C h).1 (C h).1 then (lk nl k - lk nl h) * (C g).2.1 else 0)
              generalize (lk nl k - lk nl h) * (C g).2.1 = Y
              repeat' split
              all_goals omega
    obtain ⟨k1, k2⟩ := key k (Nat.le_refl _)
    by_cases z : lk nl k = 0
    · exact (k1 z).2
    · obtain ⟨j1, g, g1, g2, g3, g4, g5⟩ := k2 (by omega)
      rw [g5, Nat.sub_self, Nat.zero_mul, ite_self]
      rfl
