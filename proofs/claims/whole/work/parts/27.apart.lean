/-! APART: pairs, and the sets of those apart from each. -/
def apb (ap : List (Nat × Nat)) (i j : Nat) : Bool := ap.any (fun p => (p.1 == i && p.2 == j) || (p.1 == j && p.2 == i))
def VP (n : Nat) : List (Nat × Nat) → Prop
  | [] => True
  | p :: t => p.1 < n ∧ p.2 < n ∧ p.1 ≠ p.2 ∧ apb t p.1 p.2 = false ∧ VP n t
theorem apb_comm (ap : List (Nat × Nat)) (i j : Nat) : apb ap i j = apb ap j i := by
  unfold apb
  congr 1
  funext p
  rw [Bool.or_comm]
theorem apb_lt {n : Nat} : ∀ {ap : List (Nat × Nat)}, VP n ap → ∀ {i j : Nat}, apb ap i j = true → i < n ∧ j < n ∧ i ≠ j
  | [], _, i, j, h => by simp [apb] at h
  | p :: t, hv, i, j, h => by
    obtain ⟨h1, h2, h3, -, h5⟩ := hv
    unfold apb at h
    rw [List.any_cons, Bool.or_eq_true] at h
    rcases h with h | h
    · simp only [Bool.or_eq_true, Bool.and_eq_true, beq_iff_eq] at h
      rcases h with ⟨rfl, rfl⟩ | ⟨rfl, rfl⟩
      · exact ⟨h1, h2, h3⟩
      · exact ⟨h2, h1, fun e => h3 e.symm⟩
    · exact apb_lt h5 h
theorem apb_self {n : Nat} {ap : List (Nat × Nat)} (hv : VP n ap) (i : Nat) : apb ap i i = false := by
  cases h : apb ap i i with
  | false => rfl
  | true => exact absurd rfl (apb_lt hv h).2.2
theorem cn_add {p q r : Nat → Bool} : ∀ n, (∀ j, j < n → p j = (q j || r j) ∧ (q j && r j) = false) → cn p n = cn q n + cn r n
  | 0, _ => rfl
  | n + 1, h => by
    have h1 := cn_add n (fun j hj => h j (by omega))
    obtain ⟨h2, h3⟩ := h n (by omega)
    simp only [cn, h1]
    cases a : q n <;> cases b : r n <;> simp [a, b] at h2 h3 <;> simp [h2] <;> omega
theorem cn_none {p : Nat → Bool} : ∀ n, (∀ j, j < n → p j = false) → cn p n = 0
  | 0, _ => rfl
  | n + 1, h => by simp [cn, cn_none n (fun j hj => h j (by omega)), h n (by omega)]
theorem cn_one {p : Nat → Bool} {b : Nat} : ∀ n, b < n → (∀ j, j < n → p j = (b == j)) → cn p n = 1
  | 0, h, _ => absurd h (Nat.not_lt_zero _)
  | n + 1, h, hp => by
    by_cases e : b = n
    · subst e
      have h1 : cn p b = 0 := cn_none b (fun j hj => by
        rw [hp j (by omega)]
        simp
        omega)
      simp [cn, h1, hp b (by omega)]
    · have h1 := cn_one n (by omega) (fun j hj => hp j (by omega))
      have h2 : p n = false := by
        rw [hp n (by omega)]
        simp
        exact e
      simp [cn, h1, h2]
theorem cn_ext {p : Nat → Bool} {n : Nat} : ∀ k, cn (fun j => decide (j < n) && p j) (n + k) = cn p n
  | 0 => cn_congr n (fun j hj => by
    have : j < n := hj
    simp [this])
  | k + 1 => by
    have h := cn_ext (p := p) (n := n) k
    show cn _ (n + k) + _ = _
    rw [h]
    have h2 : ¬ n + k < n := by omega
    simp [h2]
theorem bc_mk {p : Nat → Bool} {n : Nat} (h : n ≤ 10) : bc (mk p n) = cn p n := by
  unfold bc
  rw [cn_congr 10 (q := fun j => decide (j < n) && p j) (fun j _ => mk_bit p j n)]
  have h2 := cn_ext (p := p) (n := n) (10 - n)
  rw [show n + (10 - n) = 10 by omega] at h2
  exact h2
theorem cn_apb {n : Nat} {p : Nat × Nat} {t : List (Nat × Nat)} (hv : VP n (p :: t)) (i : Nat) : cn (apb (p :: t) i) n = cn (apb t i) n + ((if i = p.1 then 1 else 0) + (if i = p.2 then 1 else 0)) := by
  obtain ⟨h1, h2, h3, h4, h5⟩ := hv
  have e0 : ∀ j, apb (p :: t) i j = (apb t i j || ((p.1 == i && p.2 == j) || (p.1 == j && p.2 == i))) := fun j => by
    unfold apb
    rw [List.any_cons, Bool.or_comm]
  rw [cn_add (p := apb (p :: t) i) (q := apb t i) (r := fun j => (p.1 == i && p.2 == j) || (p.1 == j && p.2 == i)) n (fun j hj => ⟨e0 j, by
    cases ha : apb t i j with
    | false => rfl
    | true =>
      simp only [Bool.true_and]
      cases hb : ((p.1 == i && p.2 == j) || (p.1 == j && p.2 == i)) with
      | false => rfl
      | true =>
        simp only [Bool.or_eq_true, Bool.and_eq_true, beq_iff_eq] at hb
        rcases hb with ⟨rfl, rfl⟩ | ⟨rfl, rfl⟩
        · rw [h4] at ha; cases ha
        · rw [apb_comm, h4] at ha; cases ha⟩)]
  congr 1
  by_cases a : i = p.1
  · have b : ¬ i = p.2 := fun e => h3 (a.symm.trans e)
    rw [if_pos a, if_neg b]
    refine cn_one (b := p.2) n h2 (fun j hj => ?_)
    have c1 : (p.1 == i) = true := by simp [a]
    have c2 : (p.2 == i) = false := by simp; exact fun e => b e.symm
    simp [c1, c2]
  · rw [if_neg a]
    have c1 : (p.1 == i) = false := by simp; exact fun e => a e.symm
    by_cases b : i = p.2
    · rw [if_pos b]
      refine cn_one (b := p.1) n h1 (fun j hj => ?_)
      have c2 : (p.2 == i) = true := by simp [b]
      simp [c1, c2]
    · rw [if_neg b]
      have c2 : (p.2 == i) = false := by simp; exact fun e => b e.symm
      exact cn_none n (fun j hj => by simp [c1, c2])
theorem sm_add (f g : Nat → Nat) : ∀ n, sm (fun i => f i + g i) n = sm f n + sm g n
  | 0 => rfl
  | n + 1 => by simp only [sm, sm_add f g n]; omega
theorem sm_one {a : Nat} : ∀ n, sm (fun i => if i = a then 1 else 0) n = if a < n then 1 else 0
  | 0 => by simp [sm]
  | n + 1 => by
    simp only [sm, sm_one n]
    by_cases h1 : a < n
    · have h2 : a < n + 1 := by omega
      have h3 : ¬ n = a := by omega
      simp [h1, h2, h3]
    · by_cases h2 : n = a
      · subst h2
        simp
      · have h3 : ¬ a < n + 1 := by omega
        simp [h1, h2, h3]
theorem sm_apb {n : Nat} : ∀ {ap : List (Nat × Nat)}, VP n ap → sm (fun i => cn (apb ap i) n) n = 2 * ap.length
  | [], _ => by
    have : ∀ m, sm (fun i => cn (apb [] i) n) m = 0 := fun m => by
      induction m with
      | zero => rfl
      | succ m ih =>
        simp only [sm, ih]
        rw [Nat.zero_add]
        exact cn_none n (fun j _ => rfl)
    exact this n
  | p :: t, hv => by
    have ih := sm_apb hv.2.2.2.2
    rw [sm_congr n (fun i _ => cn_apb hv i), sm_add, sm_add, ih, sm_one, sm_one, if_pos hv.1, if_pos hv.2.1]
    simp
    omega
/-- State.pairs -/
theorem s_pairs {d o c : Nat} {ap : List (Nat × Nat)} {iv : zI} {rv : zR} {lv : zJ} (hT : zTop rv) (m : o ∈ zSts) (hc : iv o 0 = nI c) (hc10 : c ≤ 10) (hf : ∀ i, i < c → iv (o + 3) i = nI (mk (apb ap i) c)) (hV : VP c ap) : Ci mX9_pairs (d + 1) [.ref o] iv rv lv (zP (nI ap.length) iv rv lv) := by
  have hle : ∀ j, j ≤ c → sm (fun i => bc (mk (apb ap i) c)) j ≤ 10 * j := fun j hj => sm_le j (fun i _ => cn_le _ 10)
  refine eX9_pairs o (bX9_pairs_0 o hT m ?_)
  refine zfor (P := fun j => Zi mX9_pairs (d + 1) 4 [some (.ref o), some (.int (nI (sm (fun i => bc (mk (apb ap i) c)) j))), some (.int (nI j))] [] iv rv lv _) (c := c) ?_ ?_ 0 (Nat.zero_le _)
  · refine bX9_pairs_4 o _ _ hT m ⟨fun _ => zP.mk ?_, fun h => absurd (by rw [hc]; exact nI_le (Nat.le_refl _) (by omega)) h⟩
    have := hle c (Nat.le_refl _)
    rw [z_2, pk_div (by omega) (by omega) (by omega)]
    rw [sm_congr c (g := fun i => cn (apb ap i) c) (fun i _ => bc_mk hc10), sm_apb hV]
    congr 1
    omega
  · intro j hj ih
    refine bX9_pairs_4 o _ _ hT m ⟨fun h => ?_, fun _ => ⟨vp_in_nI (by omega) (by decide), ?_⟩⟩
    · rw [hc] at h
      exact absurd h (nI_ge hj (by omega))
    · rw [nI_clamp (by omega), hf j hj]
      refine ⟨_, s_bitCount (mk_lt10 hc10), fun x w r l hq => ?_⟩
      obtain ⟨rfl, rfl, rfl, rfl⟩ := hq
      refine ⟨hT, ?_⟩
      rw [nI_add, nI_1]
      exact ih
theorem s_areApart {d o c i j : Nat} {p : Nat → Nat → Bool} {iv : zI} {rv : zR} {lv : zJ} (hT : zTop rv) (m : o ∈ zSts) (hc10 : c ≤ 10) (hf : ∀ i, i < c → iv (o + 3) i = nI (mk (p i) c)) (hi : i < c) (hj : j < c) : Ci mX9_areApart d [.ref o, .int (nI i), .int (nI j)] iv rv lv (zP (if p i j then 1 else 0) iv rv lv) := by
  refine eX9_areApart o _ _ (bX9_areApart_0 o _ _ hT m ⟨vp_in_nI (by omega) (by decide), ?_⟩)
  have hl : mk (p i) c < 1024 := mk_lt10 hc10
  rw [nI_clamp (by omega), hf i hi, bI_bit (by omega) (by omega), mk_bit]
  simp only [hj, decide_true, Bool.true_and]
  refine ⟨fun h => zP.mk ?_, fun h => zP.mk ?_⟩
  · simp [h]
  · simp [h]
theorem s_toggle {d o c i j : Nat} {p q : Nat → Nat → Bool} {iv : zI} {rv : zR} {lv : zJ} (hT : zTop rv) (m : o ∈ zSts) (hc10 : c ≤ 10) (hf : ∀ i, i < c → iv (o + 3) i = nI (mk (p i) c)) (hi : i < c) (hj : j < c) (hij : i ≠ j) (hq : ∀ s t, s < c → t < c → q s t = (p s t ^^ ((s == i && t == j) || (s == j && t == i)))) :
    Cv mX9_toggleApart d [.ref o, .int (nI i), .int (nI j)] iv rv lv (fun iv' rv' lv' => rv' = rv ∧ lv' = lv ∧ (∀ t, t < c → iv' (o + 3) t = nI (mk (q t) c)) ∧ ∀ a, a ≠ o + 3 → iv' a = iv a) := by
  refine eX9_toggleApart o _ _ (bX9_toggleApart_0 o _ _ hT m ⟨vp_in_nI (by omega) (by decide), fun w1 e1 => ⟨vp_in_nI (by omega) (by decide), fun w2 e2 => ?_⟩⟩)
  rw [nI_clamp (by omega), hf i hi, bI_1shl (by omega), bI_xor] at e1
  have h1 : w1 (o + 3) j = nI (mk (p j) c) := by rw [e1, zu_k (fun e => hij e.symm)]; exact hf j hj
  rw [nI_clamp (by omega), h1, bI_1shl (by omega), bI_xor] at e2
  have x1 : mk (p i) c ^^^ 2 ^ j = mk (q i) c := mk_of fun t => by
    rw [Nat.testBit_xor, mk_bit, Nat.testBit_two_pow]
    by_cases ht : t < c
    · rw [hq i t hi ht]
      have a1 : (i == j) = false := by simp; exact hij
      have a2 : (t == j) = decide (j = t) := by
        by_cases e : j = t
        · simp [e]
        · simp [e]; exact fun q => e q.symm
      simp [ht, a1, a2]
    · have : ¬ j = t := by omega
      simp [ht, this]
  have x2 : mk (p j) c ^^^ 2 ^ i = mk (q j) c := mk_of fun t => by
    rw [Nat.testBit_xor, mk_bit, Nat.testBit_two_pow]
    by_cases ht : t < c
    · rw [hq j t hj ht]
      have a1 : (j == i) = false := by simp; exact fun e => hij e.symm
      have a2 : (t == i) = decide (i = t) := by
        by_cases e : i = t
        · simp [e]
        · simp [e]; exact fun q => e q.symm
      simp [ht, a1, a2]
    · have : ¬ i = t := by omega
      simp [ht, this]
  rw [x1] at e1
  rw [x2] at e2
  refine ⟨rfl, rfl, fun t ht => ?_, fun a ha => by rw [e2, zu_row ha, e1, zu_row ha]⟩
  by_cases c1 : t = j
  · rw [e2, c1, zu_eq]
  · rw [e2, zu_k c1]
    by_cases c2 : t = i
    · rw [e1, c2, zu_eq]
    · rw [e1, zu_k c2, hf t ht]
      congr 1
      refine mk_congr fun s hs => ?_
      rw [hq t s ht hs]
      have a1 : (t == i) = false := by simp; exact c2
      have a2 : (t == j) = false := by simp; exact c1
      simp [a1, a2]
