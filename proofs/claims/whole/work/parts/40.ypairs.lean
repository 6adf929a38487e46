/-! THE REFERENCE: pairs in its row. -/
def pl (l : List (Nat × Nat)) (k : Nat) : Nat := if k % 2 = 0 then (l.getD (k / 2) (0, 0)).1 else (l.getD (k / 2) (0, 0)).2
def PL (a : Nat) (w : zI) (l : List (Nat × Nat)) : Prop := w a 22 = nI l.length ∧ ∀ k, k < 2 * l.length → w a (23 + k) = nI (pl l k)
theorem pl_0 (l : List (Nat × Nat)) (p : Nat) : pl l (2 * p) = (l.getD p (0, 0)).1 := by
  unfold pl
  rw [if_pos (by omega), show 2 * p / 2 = p by omega]
theorem pl_1 (l : List (Nat × Nat)) (p : Nat) : pl l (2 * p + 1) = (l.getD p (0, 0)).2 := by
  unfold pl
  rw [if_neg (by omega), show (2 * p + 1) / 2 = p by omega]
theorem MS.plr {iv : zI} {a : Nat} {s : Sn} (h : MS iv a 0 s) : PL a iv s.2.2.2.2 := by
  obtain ⟨-, -, -, -, h5, h6⟩ := h
  refine ⟨h5, fun k hk => ?_⟩
  rcases Nat.mod_two_eq_zero_or_one k with e | e
  · have := (h6 (k / 2) (by omega)).1
    rw [show 0 + 23 + 2 * (k / 2) = 23 + k by omega] at this
    rw [this]
    unfold pl
    rw [if_pos e]
  · have := (h6 (k / 2) (by omega)).2
    rw [show 0 + 24 + 2 * (k / 2) = 23 + k by omega] at this
    rw [this]
    unfold pl
    rw [if_neg (by omega)]
theorem PL.ms {iv : zI} {a : Nat} {s : Sn} (h : PL a iv s.2.2.2.2) (h1 : iv a 0 = nI s.1) (h2 : iv a 1 = nI s.2.1) (h3 : ∀ i, i < s.1 → iv a (2 + i) = nI (s.2.2.1 i)) (h4 : ∀ i, i < s.1 → iv a (12 + i) = nI (s.2.2.2.1 i)) : MS iv a 0 s := by
  refine ⟨h1, h2, fun i hi => by rw [Nat.zero_add]; exact h3 i hi, fun i hi => by rw [Nat.zero_add]; exact h4 i hi, h.1, fun p hp => ⟨?_, ?_⟩⟩
  · rw [← pl_0, ← h.2 (2 * p) (by omega), Nat.zero_add]
  · rw [← pl_1, ← h.2 (2 * p + 1) (by omega), show 0 + 24 + 2 * p = 23 + (2 * p + 1) by omega]
theorem getD_mem {l : List (Nat × Nat)} {p : Nat} (hp : p < l.length) : l.getD p (0, 0) ∈ l := by
  rw [List.getD_eq_getElem?_getD, List.getElem?_eq_getElem hp]
  exact List.getElem_mem hp
theorem apb_ex {l : List (Nat × Nat)} {i j p : Nat} (hp : p < l.length) (h : mt i j (l.getD p (0, 0)) = true) : apb l i j = true := by
  rw [apb_any, List.any_eq_true]
  exact ⟨_, getD_mem hp, h⟩
theorem apb_no {l : List (Nat × Nat)} {i j : Nat} (h : ∀ p, p < l.length → mt i j (l.getD p (0, 0)) = false) : apb l i j = false := by
  rw [apb_any, List.any_eq_false]
  intro x hx
  obtain ⟨p, hp, rfl⟩ := List.getElem_of_mem hx
  have := h p hp
  rw [List.getD_eq_getElem?_getD, List.getElem?_eq_getElem hp] at this
  simp only [Option.getD_some] at this
  rw [this]
  decide
theorem era {i j : Nat} : ∀ {l : List (Nat × Nat)} {p : Nat}, p < l.length → mt i j (l.getD p (0, 0)) = true → (∀ q, q < p → mt i j (l.getD q (0, 0)) = false) → l.eraseIdx p = l.eraseP (mt i j)
  | [], _, h, _, _ => absurd h (Nat.not_lt_zero _)
  | x :: t, 0, _, h, _ => by
    have h : mt i j x = true := h
    rw [List.eraseP_cons, h]
    rfl
  | x :: t, p + 1, hp, h, hq => by
    have h0 : mt i j x = false := hq 0 (by omega)
    have hp : p + 1 < t.length + 1 := hp
    rw [List.eraseP_cons, h0]
    simp only [cond_false, List.eraseIdx_cons_succ]
    rw [era (p := p) (by omega) h (fun q hq' => hq (q + 1) (by omega))]
theorem y_pairOf {d r i j : Nat} {l : List (Nat × Nat)} {iv : zI} {rv : zR} {lv : zJ} (hT : zTop rv) (hr : r = 176 ∨ r = 177) (hP : PL r iv l) (hl : l.length ≤ 6) (hb : ∀ p ∈ l, p.1 < 10 ∧ p.2 < 10) (hi : i < 10) (hj : j < 10) :
    Ci mX11_pairOf d [.ref r, .int (nI i), .int (nI j)] iv rv lv (fun y a b c => ((apb l i j = true ∧ ∃ p, p < l.length ∧ y = nI p ∧ l.eraseIdx p = l.eraseP (mt i j)) ∨ (apb l i j = false ∧ y = -1)) ∧ iv = a ∧ rv = b ∧ lv = c) := by
  have hs : zSH r = (0, 35) := by rcases hr with rfl | rfl <;> rfl
  have hr2 : r < 200 := by omega
  refine eX11_pairOf r 35 _ _ (bX11_pairOf_0 r 35 _ _ hT hs hr2 ?_)
  have key := zfor (c := l.length) (P := fun p => (∀ q, q < p → mt i j (l.getD q (0, 0)) = false) → Zi mX11_pairOf d 2 [some (.ref r), some (.int (nI i)), some (.int (nI j)), some (.int (nI p)), none, none] [] iv rv lv (fun y a b c => ((apb l i j = true ∧ ∃ p, p < l.length ∧ y = nI p ∧ l.eraseIdx p = l.eraseP (mt i j)) ∨ (apb l i j = false ∧ y = -1)) ∧ iv = a ∧ rv = b ∧ lv = c)) ?_ ?_
  · exact key 0 (by omega) (fun q hq => absurd hq (Nat.not_lt_zero _))
  · intro hq
    refine bX11_pairOf_2 r 35 _ _ _ hT hs hr2 ⟨(show vp_in (nI 22) 35 from vp_in_nI (by omega) (by decide)), fun _ => ⟨Or.inr ⟨apb_no hq, rfl⟩, rfl, rfl, rfl⟩, fun z => ?_⟩
    rw [hP.1] at z
    exact absurd (nI_le (by omega) (by omega)) z
  · intro p hp ih hq
    refine bX11_pairOf_2 r 35 _ _ _ hT hs hr2 ⟨(show vp_in (nI 22) 35 from vp_in_nI (by omega) (by decide)), fun z => ?_, fun _ => ?_⟩
    · rw [hP.1] at z
      exact absurd z (nI_ge hp (by omega))
    · have c := hb _ (getD_mem hp)
      have a1 := hP.2 (2 * p) (by omega)
      have a2 := hP.2 (2 * p + 1) (by omega)
      rw [pl_0] at a1
      rw [pl_1, ← Nat.add_assoc] at a2
      rw [z_2, pk_mul, z_23, nI_add, nI_1, nI_1, nI_clamp (show 23 + 2 * p < 2 ^ 31 by omega), nI_clamp (show 23 + 2 * p + 1 < 2 ^ 31 by omega), a1, a2]
      have fin : mt i j (l.getD p (0, 0)) = true → (((apb l i j = true ∧ ∃ q, q < l.length ∧ nI p = nI q ∧ l.eraseIdx q = l.eraseP (mt i j)) ∨ (apb l i j = false ∧ nI p = -1)) ∧ True ∧ True ∧ True) := fun m => ⟨Or.inl ⟨apb_ex hp m, p, hp, rfl, era hp m hq⟩, trivial, trivial, trivial⟩
      have more : mt i j (l.getD p (0, 0)) = false → Zi mX11_pairOf d 2 [some (.ref r), some (.int (nI i)), some (.int (nI j)), some (.int (nI (p + 1))), none, none] [] iv rv lv (fun y a b c => ((apb l i j = true ∧ ∃ p, p < l.length ∧ y = nI p ∧ l.eraseIdx p = l.eraseP (mt i j)) ∨ (apb l i j = false ∧ y = -1)) ∧ iv = a ∧ rv = b ∧ lv = c) := fun m => ih (fun q q1 => by
        by_cases e : q = p
        · rw [e]; exact m
        · exact hq q (by omega))
      have mf : ¬ (((l.getD p (0, 0)).1 = i ∧ (l.getD p (0, 0)).2 = j) ∨ ((l.getD p (0, 0)).1 = j ∧ (l.getD p (0, 0)).2 = i)) → mt i j (l.getD p (0, 0)) = false := fun q => by
        cases e : mt i j (l.getD p (0, 0)) with
        | false => rfl
        | true => exact absurd (mt_iff.mp e) q
      generalize l.getD p (0, 0) = g at *
      refine ⟨vp_in_nI (by omega) (by decide), vp_in_nI (by omega) (by decide), ?_⟩
      simp (disch := omega) only [nI_eq]
      refine ⟨fun q1 => ⟨fun q2 => more (mf (by omega)), fun q2 => ⟨fun q3 => more (mf (by omega)), fun q3 => fin (mt_iff.mpr (Or.inr ⟨q2, q3⟩))⟩⟩, fun q1 => ⟨fun q2 => fin (mt_iff.mpr (Or.inl ⟨q1, q2⟩)), fun q2 => ⟨fun q3 => more (mf (by omega)), fun q3 => ⟨fun q4 => more (mf (by omega)), fun q4 => fin (mt_iff.mpr (Or.inr ⟨q3, q4⟩))⟩⟩⟩⟩
