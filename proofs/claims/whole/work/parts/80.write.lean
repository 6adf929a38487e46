/-! WRITING: what is meant. -/
def pc (u v : Nat) : List Nat := if u ≤ v then [48 + v / u % 10] else []
def dg (v : Nat) : List Nat := pc 1000 v ++ pc 100 v ++ pc 10 v ++ pc 1 v
def hpl (s : Sn) (ρ : Nat → Nat) (h : Nat) : Nat → List Nat
  | 0 => []
  | i + 1 => if ρ i = h then hpl s ρ h i ++ (if hpl s ρ h i = [] then [] else [43]) ++ dg (s.2.2.1 i) else hpl s ρ h i
def wHp (s : Sn) (ρ : Nat → Nat) (h : Nat) : List Nat := if hpl s ρ h s.1 = [] then [48] else hpl s ρ h s.1
def wrt (s : Sn) (ρ : Nat → Nat) : Nat → List Nat
  | 0 => []
  | h + 1 => wrt s ρ h ++ (if h = 0 then [] else [47]) ++ wHp s ρ h
theorem pc_len (u v : Nat) : (pc u v).length ≤ 1 ∧ ∀ x ∈ pc u v, x < 128 := by
  unfold pc
  split
  · refine ⟨Nat.le_refl _, fun x hx => ?_⟩
    rw [List.mem_singleton] at hx
    omega
  · exact ⟨Nat.zero_le _, fun x hx => absurd hx (List.not_mem_nil)⟩
theorem dg_len (v : Nat) : (dg v).length ≤ 4 ∧ ∀ x ∈ dg v, x < 128 := by
  have a := pc_len 1000 v
  have b := pc_len 100 v
  have c := pc_len 10 v
  have d := pc_len 1 v
  refine ⟨?_, fun x hx => ?_⟩
  · unfold dg
    simp only [List.length_append]
    omega
  · unfold dg at hx
    simp only [List.mem_append] at hx
    rcases hx with ((h | h) | h) | h
    · exact a.2 x h
    · exact b.2 x h
    · exact c.2 x h
    · exact d.2 x h
theorem dg_ne {v : Nat} (hv : 1 ≤ v) : dg v ≠ [] := by
  intro h
  have : pc 1 v = [] := by
    unfold dg at h
    have := congrArg List.length h
    simp only [List.length_append, List.length_nil] at this
    exact List.eq_nil_of_length_eq_zero (by omega)
  unfold pc at this
  rw [if_pos hv] at this
  cases this
def cnH (ρ : Nat → Nat) (h n : Nat) : Nat := hsum n (fun _ => 1) ρ h
theorem hpl_len (s : Sn) (ρ : Nat → Nat) (h : Nat) : ∀ i, (hpl s ρ h i).length ≤ 5 * cnH ρ h i ∧ ∀ x ∈ hpl s ρ h i, x < 128
  | 0 => ⟨Nat.zero_le _, fun x hx => absurd hx (List.not_mem_nil)⟩
  | i + 1 => by
    obtain ⟨i1, i2⟩ := hpl_len s ρ h i
    have d := dg_len (s.2.2.1 i)
    have e : cnH ρ h (i + 1) = cnH ρ h i + wt (ρ i == h) 1 := rfl
    rw [hpl, e]
    by_cases q : ρ i = h
    · rw [if_pos q, beq_iff_eq.mpr q]
      have l43 : (if hpl s ρ h i = [] then ([] : List Nat) else [43]).length ≤ 1 := by split <;> simp
      refine ⟨?_, fun x hx => ?_⟩
      · simp only [List.length_append]
        show _ ≤ 5 * (cnH ρ h i + 1)
        omega
      · simp only [List.mem_append] at hx
        rcases hx with (hx | hx) | hx
        · exact i2 x hx
        · split at hx
          · exact absurd hx (List.not_mem_nil)
          · rw [List.mem_singleton] at hx
            omega
        · exact d.2 x hx
    · rw [if_neg q, beq_eq_false_iff_ne.mpr q]
      exact ⟨i1, i2⟩
theorem wHp_len (s : Sn) (ρ : Nat → Nat) (h : Nat) : (wHp s ρ h).length ≤ 5 * cnH ρ h s.1 + 1 ∧ ∀ x ∈ wHp s ρ h, x < 128 := by
  obtain ⟨i1, i2⟩ := hpl_len s ρ h s.1
  unfold wHp
  split
  · refine ⟨by simp, fun x hx => ?_⟩
    rw [List.mem_singleton] at hx
    omega
  · exact ⟨by omega, i2⟩
theorem wrt_len (s : Sn) (ρ : Nat → Nat) : ∀ h, (wrt s ρ h).length ≤ 5 * sm (fun x => cnH ρ x s.1) h + 2 * h ∧ ∀ x ∈ wrt s ρ h, x < 128
  | 0 => ⟨Nat.zero_le _, fun x hx => absurd hx (List.not_mem_nil)⟩
  | h + 1 => by
    obtain ⟨i1, i2⟩ := wrt_len s ρ h
    obtain ⟨j1, j2⟩ := wHp_len s ρ h
    rw [wrt, sm]
    have l47 : (if h = 0 then ([] : List Nat) else [47]).length ≤ 1 := by split <;> simp
    refine ⟨?_, fun x hx => ?_⟩
    · simp only [List.length_append]
      omega
    · simp only [List.mem_append] at hx
      rcases hx with (hx | hx) | hx
      · exact i2 x hx
      · split at hx
        · exact absurd hx (List.not_mem_nil)
        · rw [List.mem_singleton] at hx
          omega
      · exact j2 x hx
theorem cn_tot {ρ : Nat → Nat} {k : Nat} (n : Nat) (h : ∀ j, j < n → ρ j < k) : sm (fun x => cnH ρ x n) k = n := by
  have := hsum_tot (v := fun _ => 1) (ρ := ρ) (k := k) n h
  have e : ∀ n, sm (fun _ => 1) n = n := fun n => by
    induction n with
    | zero => rfl
    | succ n ih => rw [sm, ih]
  rw [e] at this
  exact this
theorem sm_mono {f : Nat → Nat} : ∀ n a, sm f a ≤ sm f (a + n)
  | 0, _ => Nat.le_refl _
  | n + 1, a => Nat.le_trans (sm_mono n a) (Nat.le_add_right _ _)
theorem cnH_mono {ρ : Nat → Nat} {h : Nat} : ∀ n a, cnH ρ h a ≤ cnH ρ h (a + n)
  | 0, _ => Nat.le_refl _
  | n + 1, a => Nat.le_trans (cnH_mono n a) (Nat.le_add_right _ _)
/-- before number i of heap h: what is written, and what may come -/
theorem wr_b {s : Sn} (vs : VS s) {ρ : Nat → Nat} {k h i : Nat} (hk : k ≤ 4) (hρ : ∀ j, j < s.1 → ρ j < k) (hh : h < k) (hi : i ≤ s.1) : (wrt s ρ h).length + 1 + (hpl s ρ h i).length ≤ 58 ∧ (i < s.1 → ρ i = h → (wrt s ρ h).length + 1 + (hpl s ρ h i).length ≤ 53) := by
  have vn := vs.1
  have w := (wrt_len s ρ h).1
  have l := (hpl_len s ρ h i).1
  have t := cn_tot s.1 hρ
  have m := sm_mono (f := fun x => cnH ρ x s.1) (k - (h + 1)) (h + 1)
  rw [show h + 1 + (k - (h + 1)) = k by omega, t, sm] at m
  refine ⟨?_, fun hi2 e => ?_⟩
  · have c := cnH_mono (ρ := ρ) (h := h) (s.1 - i) i
    rw [show i + (s.1 - i) = s.1 by omega] at c
    omega
  · have c := cnH_mono (ρ := ρ) (h := h) (s.1 - (i + 1)) (i + 1)
    rw [show i + 1 + (s.1 - (i + 1)) = s.1 by omega] at c
    have e2 : cnH ρ h (i + 1) = cnH ρ h i + 1 := by
      show cnH ρ h i + wt (ρ i == h) 1 = _
      rw [beq_iff_eq.mpr e]
      rfl
    omega
theorem wrt_64 {s : Sn} (vs : VS s) {ρ : Nat → Nat} {k : Nat} (hk : k ≤ 4) (hρ : ∀ j, j < s.1 → ρ j < k) : (wrt s ρ k).length ≤ 64 := by
  have vn := vs.1
  have w := (wrt_len s ρ k).1
  rw [cn_tot s.1 hρ] at w
  omega
theorem fdq_f {okc : Nat → Bool} {C : Nat → Ac} {j k : Nat} (hk : 0 < k) : ∀ m, (∀ h, h < m → (C h).2.2.2 j < k) → (fdq okc C m).2.2.2 j < k
  | 0, _ => hk
  | m + 1, hC => by
    have ih := fdq_f (okc := okc) hk m (fun h hh => hC h (by omega))
    rw [fdq]
    split
    · show (if (C m).1 < (fdq okc C m).1 then (C m).2.2.2 else (fdq okc C m).2.2.2) j < k
      split
      · exact hC m (by omega)
      · exact ih
    · exact ih
theorem tq_f {s : Sn} {k : Nat} (hk : 0 < k) : ∀ (r : Nat), r ≤ s.1 → ∀ ρ : Nat → Nat, (∀ j, j < s.1 - r → ρ j < k) → ∀ j, j < s.1 → (tq s k false r ρ).2.2.2 j < k
  | 0, _, ρ, h, j, hj => h j hj
  | r + 1, hr, ρ, h, j, hj => by
    rw [tq]
    refine fdq_f hk k (fun x hx => tq_f hk r (by omega) _ (fun i hi => ?_) j hj)
    by_cases z : i = s.1 - (r + 1)
    · rw [z, up_eq]; exact hx
    · rw [up_ne z]; exact h i (by omega)
theorem lq_f {s : Sn} {k : Nat} (hk : 0 < k) : ∀ j, j < s.1 → (lq s k).2.2.2 j < k := fun j hj => by
  unfold lq
  rw [sc_1]
  show (if (tq s k false s.1 ρ0).1 < 1000000 then (tq s k false s.1 ρ0).2.2.2 else fun _ => 0) j < k
  split
  · exact tq_f hk s.1 (Nat.le_refl _) ρ0 (fun i hi => by omega) j hj
  · exact hk
def sW (S : St) (l : List Nat) : St := (S.1, S.2.1, S.2.2.1, S.2.2.2.1, S.2.2.2.2.1, l, S.2.2.2.2.2.2)
def F_write (S : St) : Int32 × St := match S.2.1 with
  | none => rf S 1
  | some s => if (lq s s.2.1).2.1 = 0 then rf S 6 else (nI (wrt s (lq s s.2.1).2.2.2 s.2.1).length, sT (sW S (wrt s (lq s s.2.1).2.2.2 s.2.1)) 0)
theorem gd_ap {l : List Nat} {b j : Nat} : (l ++ [b]).getD j 0 = if j < l.length then l.getD j 0 else if j = l.length then b else 0 := by
  rw [List.getD_eq_getElem?_getD, List.getD_eq_getElem?_getD]
  by_cases h : j < l.length
  · rw [if_pos h, List.getElem?_append_left h]
  · rw [if_neg h, List.getElem?_append_right (by omega)]
    by_cases e : j = l.length
    · rw [if_pos e, e, Nat.sub_self]
      rfl
    · rw [if_neg e]
      obtain ⟨m, hm⟩ : ∃ m, j - l.length = m + 1 := ⟨j - l.length - 1, by omega⟩
      rw [hm]
      rfl
theorem VT_write {S : St} (hv : VT S) : VT (F_write S).2 := by
  unfold F_write
  cases e : S.2.1 with
  | none => exact hv.tr (by omega)
  | some s =>
    show VT (if (lq s s.2.1).2.1 = 0 then rf S 6 else _).2
    have vs := hv.2.1 s e
    by_cases z : (lq s s.2.1).2.1 = 0
    · rw [if_pos z]
      exact hv.tr (by omega)
    · rw [if_neg z]
      have v2 := vs.2.1
      have lf := lq_f (s := s) (k := s.2.1) (by omega)
      obtain ⟨h1, h2, h3, h4, h5, h6, h7⟩ := hv
      exact ⟨h1, h2, h3, h4, h5, ⟨h6.1, Nat.zero_le _⟩, wrt_64 vs v2.2 lf, (wrt_len s _ _).2⟩
