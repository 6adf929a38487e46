/-! PAIRS that go, come, move. -/
def mt (i j : Nat) (p : Nat × Nat) : Bool := (p.1 == i && p.2 == j) || (p.1 == j && p.2 == i)
theorem apb_any (ap : List (Nat × Nat)) (i j : Nat) : apb ap i j = ap.any (mt i j) := rfl
theorem apb_cons (p : Nat × Nat) (t : List (Nat × Nat)) (i j : Nat) : apb (p :: t) i j = (mt i j p || apb t i j) := rfl
theorem mt_iff {i j : Nat} {p : Nat × Nat} : mt i j p = true ↔ (p.1 = i ∧ p.2 = j) ∨ (p.1 = j ∧ p.2 = i) := by simp [mt]
theorem any_cg {α : Type} {f g : α → Bool} : ∀ {l : List α}, (∀ x ∈ l, f x = g x) → l.any f = l.any g
  | [], _ => rfl
  | x :: t, h => by rw [List.any_cons, List.any_cons, h x List.mem_cons_self, any_cg (fun y hy => h y (List.mem_cons_of_mem _ hy))]
theorem VP_mem {n : Nat} : ∀ {ap : List (Nat × Nat)}, VP n ap → ∀ p ∈ ap, p.1 < n ∧ p.2 < n ∧ p.1 ≠ p.2
  | [], _, p, h => by simp at h
  | q :: t, hv, p, h => by
    rcases List.mem_cons.mp h with rfl | h
    · exact ⟨hv.1, hv.2.1, hv.2.2.1⟩
    · exact VP_mem hv.2.2.2.2 p h
theorem VP_up {n m : Nat} (h : n ≤ m) : ∀ {ap : List (Nat × Nat)}, VP n ap → VP m ap
  | [], _ => trivial
  | _ :: _, hv => ⟨by have := hv.1; omega, by have := hv.2.1; omega, hv.2.2.1, hv.2.2.2.1, VP_up h hv.2.2.2.2⟩
-- one goes
def dec (i x : Nat) : Nat := if i < x then x - 1 else x
def dropP (i : Nat) (ap : List (Nat × Nat)) : List (Nat × Nat) := (ap.filter (fun p => !(p.1 == i) && !(p.2 == i))).map (fun p => (dec i p.1, dec i p.2))
theorem inc_dec (i x s : Nat) : (x == inc i s) = (!(x == i) && (dec i x == s)) := by
  have key : x = inc i s ↔ x ≠ i ∧ dec i x = s := by
    unfold inc dec
    split <;> split <;> omega
  by_cases h : x = inc i s
  · obtain ⟨h1, h2⟩ := key.mp h
    have e1 : (x == inc i s) = true := by simp [h]
    have e2 : (x == i) = false := by simp [h1]
    have e3 : (dec i x == s) = true := by simp [h2]
    rw [e1, e2, e3]
    rfl
  · have e1 : (x == inc i s) = false := by simp [h]
    rw [e1]
    by_cases h1 : x = i
    · simp [h1]
    · have h2 : ¬ dec i x = s := fun q => h (key.mpr ⟨h1, q⟩)
      have e3 : (dec i x == s) = false := by simp [h2]
      rw [e3]
      simp
theorem apb_dropP (i : Nat) (ap : List (Nat × Nat)) (s t : Nat) : apb (dropP i ap) s t = apb ap (inc i s) (inc i t) := by
  unfold apb dropP
  rw [List.any_map, List.any_filter]
  refine any_cg (fun p _ => ?_)
  simp only [Function.comp, inc_dec]
  cases (p.1 == i) <;> cases (p.2 == i) <;> simp
theorem VP_dropP {n i : Nat} (hi : i < n) : ∀ {ap : List (Nat × Nat)}, VP n ap → VP (n - 1) (dropP i ap)
  | [], _ => trivial
  | p :: t, hv => by
    have ih := VP_dropP hi hv.2.2.2.2
    obtain ⟨h1, h2, h3, h4, -⟩ := hv
    unfold dropP
    rw [List.filter_cons]
    by_cases c : (!(p.1 == i) && !(p.2 == i)) = true
    · rw [if_pos c, List.map_cons]
      simp only [Bool.and_eq_true, Bool.not_eq_true', beq_eq_false_iff_ne] at c
      have e1 : inc i (dec i p.1) = p.1 := by unfold inc dec; split <;> split <;> omega
      have e2 : inc i (dec i p.2) = p.2 := by unfold inc dec; split <;> split <;> omega
      refine ⟨?_, ?_, ?_, ?_, ih⟩
      · show dec i p.1 < n - 1
        unfold dec; split <;> omega
      · show dec i p.2 < n - 1
        unfold dec; split <;> omega
      · intro e
        have e : dec i p.1 = dec i p.2 := e
        rw [← e1, ← e2, e] at h3
        exact h3 rfl
      · show apb (dropP i t) (dec i p.1) (dec i p.2) = false
        rw [apb_dropP, e1, e2]
        exact h4
    · rw [if_neg c]
      exact ih
theorem dropP_len (i : Nat) (ap : List (Nat × Nat)) : (dropP i ap).length ≤ ap.length := by
  unfold dropP
  rw [List.length_map]
  exact List.length_filter_le _ _
-- one comes, or goes
def togP (ap : List (Nat × Nat)) (i j : Nat) : List (Nat × Nat) := if apb ap i j then ap.eraseP (mt i j) else ap ++ [(i, j)]
theorem mt_swap {i j s t : Nat} (h : mt i j (s, t) = true) (ap : List (Nat × Nat)) : apb ap s t = apb ap i j := by
  rcases mt_iff.mp h with ⟨h1, h2⟩ | ⟨h1, h2⟩
  · simp only at h1 h2
    rw [h1, h2]
  · simp only at h1 h2
    rw [h1, h2, apb_comm]
theorem apb_erase {n i j : Nat} : ∀ {ap : List (Nat × Nat)}, VP n ap → apb ap i j = true → ∀ s t, apb (ap.eraseP (mt i j)) s t = (apb ap s t ^^ mt i j (s, t))
  | [], _, h, _, _ => by simp [apb] at h
  | p :: r, hv, h, s, t => by
    obtain ⟨h1, h2, h3, h4, h5⟩ := hv
    rw [List.eraseP_cons]
    by_cases c : mt i j p = true
    · rw [c]
      simp only [cond_true]
      have hij : apb r i j = false := by
        rw [← mt_swap (s := p.1) (t := p.2) c]
        exact h4
      rw [apb_cons]
      by_cases m : mt i j (s, t) = true
      · have e1 : apb r s t = false := by rw [mt_swap m]; exact hij
        have e2 : mt s t p = true := by
          rcases mt_iff.mp m with ⟨a, b⟩ | ⟨a, b⟩ <;> rcases mt_iff.mp c with ⟨u, v⟩ | ⟨u, v⟩ <;> (try simp only at a b u v) <;> apply mt_iff.mpr <;> (try simp only) <;> omega
        simp [m, e1, e2]
      · have e2 : mt s t p = false := by
          cases q : mt s t p with
          | false => rfl
          | true =>
            exfalso
            apply m
            rcases mt_iff.mp q with ⟨a, b⟩ | ⟨a, b⟩ <;> rcases mt_iff.mp c with ⟨u, v⟩ | ⟨u, v⟩ <;> (try simp only at a b u v) <;> apply mt_iff.mpr <;> (try simp only) <;> omega
        have m : mt i j (s, t) = false := by simpa using m
        simp [m, e2]
    · have c : mt i j p = false := by simpa using c
      rw [c]
      simp only [cond_false]
      rw [apb_cons, c, Bool.false_or] at h
      rw [apb_cons, apb_cons, apb_erase h5 h s t]
      by_cases m : mt i j (s, t) = true
      · have e2 : mt s t p = false := by
          cases q : mt s t p with
          | false => rfl
          | true =>
            exfalso
            have : mt i j p = true := by
              rcases mt_iff.mp q with ⟨a, b⟩ | ⟨a, b⟩ <;> rcases mt_iff.mp m with ⟨u, v⟩ | ⟨u, v⟩ <;> (try simp only at a b u v) <;> apply mt_iff.mpr <;> (try simp only) <;> omega
            rw [c] at this
            cases this
        simp [e2]
      · have m : mt i j (s, t) = false := by simpa using m
        simp [m]
theorem apb_sub {ap : List (Nat × Nat)} {i j s t : Nat} (h : apb ap s t = false) : apb (ap.eraseP (mt i j)) s t = false := by
  rw [apb_any, List.any_eq_false] at h ⊢
  exact fun x hx => h x (List.mem_of_mem_eraseP hx)
theorem VP_erase {n i j : Nat} : ∀ {ap : List (Nat × Nat)}, VP n ap → VP n (ap.eraseP (mt i j))
  | [], _ => trivial
  | p :: r, hv => by
    rw [List.eraseP_cons]
    cases c : mt i j p with
    | true => exact hv.2.2.2.2
    | false => exact ⟨hv.1, hv.2.1, hv.2.2.1, apb_sub hv.2.2.2.1, VP_erase hv.2.2.2.2⟩
theorem apb_app (ap : List (Nat × Nat)) (i j s t : Nat) : apb (ap ++ [(i, j)]) s t = (apb ap s t || mt s t (i, j)) := by
  rw [apb_any, List.any_append]
  simp [apb_any]
theorem mt_sym (i j s t : Nat) : mt s t (i, j) = mt i j (s, t) := by
  have h1 : (i == s) = (s == i) := by rw [Bool.beq_comm]
  have h2 : (j == t) = (t == j) := by rw [Bool.beq_comm]
  have h3 : (i == t) = (t == i) := by rw [Bool.beq_comm]
  have h4 : (j == s) = (s == j) := by rw [Bool.beq_comm]
  simp only [mt]
  rw [h1, h2, h3, h4, Bool.and_comm (t == i)]
theorem VP_app {n i j : Nat} (hi : i < n) (hj : j < n) (hij : i ≠ j) : ∀ {ap : List (Nat × Nat)}, VP n ap → apb ap i j = false → VP n (ap ++ [(i, j)])
  | [], _, _ => ⟨hi, hj, hij, rfl, trivial⟩
  | p :: r, hv, h => by
    rw [apb_cons, Bool.or_eq_false_iff] at h
    refine ⟨hv.1, hv.2.1, hv.2.2.1, ?_, VP_app hi hj hij hv.2.2.2.2 h.2⟩
    show apb (r ++ [(i, j)]) p.1 p.2 = false
    rw [apb_app, hv.2.2.2.1, Bool.false_or, mt_sym]
    exact h.1
theorem apb_tog {n i j : Nat} {ap : List (Nat × Nat)} (hv : VP n ap) (s t : Nat) : apb (togP ap i j) s t = (apb ap s t ^^ ((s == i && t == j) || (s == j && t == i))) := by
  show _ = (apb ap s t ^^ mt i j (s, t))
  unfold togP
  by_cases c : apb ap i j = true
  · rw [if_pos c]
    exact apb_erase hv c s t
  · rw [if_neg c, apb_app, mt_sym]
    by_cases m : mt i j (s, t) = true
    · have e : apb ap s t = false := by rw [mt_swap m]; simpa using c
      simp [m, e]
    · have m : mt i j (s, t) = false := by simpa using m
      simp [m]
theorem VP_tog {n i j : Nat} {ap : List (Nat × Nat)} (hi : i < n) (hj : j < n) (hij : i ≠ j) (hv : VP n ap) : VP n (togP ap i j) := by
  unfold togP
  by_cases c : apb ap i j = true
  · rw [if_pos c]
    exact VP_erase hv
  · rw [if_neg c]
    exact VP_app hi hj hij hv (by simpa using c)
theorem tog_len {i j : Nat} {ap : List (Nat × Nat)} (h : apb ap i j = true ∨ ap.length < 6) (hl : ap.length ≤ 6) : (togP ap i j).length ≤ 6 := by
  unfold togP
  by_cases c : apb ap i j = true
  · rw [if_pos c]
    exact Nat.le_trans (List.length_eraseP_le) hl
  · rw [if_neg c, List.length_append]
    simp
    rcases h with h | h
    · exact absurd h c
    · omega
-- all move
def rkP (n : Nat) (v : Nat → Nat) (ap : List (Nat × Nat)) : List (Nat × Nat) := ap.map (fun p => (rk n v p.1, rk n v p.2))
theorem rk_eq {n : Nat} {v : Nat → Nat} {x s : Nat} (hx : x < n) (hs : s < n) : (rk n v x == s) = (x == un n v s) := by
  by_cases h : rk n v x = s
  · have : x = un n v s := by rw [← h, (un_rk n v x hx).2]
    simp [h, this.symm]
  · have h2 : ¬ x = un n v s := fun e => h (by rw [e, rk_un n v s hs])
    have e1 : (rk n v x == s) = false := by simpa using h
    have e2 : (x == un n v s) = false := by simpa using h2
    rw [e1, e2]
theorem apb_rkP {n : Nat} {v : Nat → Nat} {ap : List (Nat × Nat)} (hv : VP n ap) {s t : Nat} (hs : s < n) (ht : t < n) : apb (rkP n v ap) s t = apb ap (un n v s) (un n v t) := by
  unfold apb rkP
  rw [List.any_map]
  refine any_cg (fun p hp => ?_)
  obtain ⟨h1, h2, -⟩ := VP_mem hv p hp
  simp only [Function.comp]
  rw [rk_eq h1 hs, rk_eq h1 ht, rk_eq h2 hs, rk_eq h2 ht]
theorem VP_rkP {n : Nat} {v : Nat → Nat} : ∀ {ap : List (Nat × Nat)}, VP n ap → VP n (rkP n v ap)
  | [], _ => trivial
  | p :: t, hv => by
    have ih := VP_rkP (v := v) hv.2.2.2.2
    obtain ⟨h1, h2, h3, h4, h5⟩ := hv
    have a1 := un_rk n v p.1 h1
    have a2 := un_rk n v p.2 h2
    refine ⟨a1.1, a2.1, fun e => ?_, ?_, ih⟩
    · have e : rk n v p.1 = rk n v p.2 := e
      apply h3
      rw [← a1.2, e, a2.2]
    · show apb (rkP n v t) (rk n v p.1) (rk n v p.2) = false
      rw [apb_rkP h5 a1.1 a2.1, a1.2, a2.2]
      exact h4
