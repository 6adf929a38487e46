/-! State: placeBySize, withoutBit, remove, layBySize. -/
theorem s_place {d o c i : Nat} {v : Nat → Nat} {iv : zI} {rv : zR} {lv : zJ} (hT : zTop rv) (m : o ∈ zSts) (hc : iv o 0 = nI c) (hc10 : c ≤ 10) (hs : ∀ j, j < c → iv (o + 4) j = nI (un c v j)) (hi : i < c) : Ci mX9_placeBySize d [.ref o, .int (nI i)] iv rv lv (zP (nI (rk c v i)) iv rv lv) := by
  obtain ⟨h1, h2⟩ := un_rk c v i hi
  refine eX9_placeBySize o _ (bX9_placeBySize_0 o _ hT m ?_)
  refine zfor (P := fun j => Zi mX9_placeBySize d 2 [some (.ref o), some (.int (nI i)), some (.int (nI j))] [] iv rv lv _) (c := rk c v i) ?_ ?_ 0 (Nat.zero_le _)
  · refine bX9_placeBySize_2 o _ _ hT m ⟨fun h => ?_, fun _ => ⟨vp_in_nI (by omega) (by decide), ?_⟩⟩
    · rw [hc] at h
      exact absurd h (nI_ge h1 (by omega))
    · rw [nI_clamp (by omega), hs _ h1, h2]
      exact ⟨fun h => absurd rfl h, fun _ => zP.mk rfl⟩
  · intro j hj ih
    refine bX9_placeBySize_2 o _ _ hT m ⟨fun h => ?_, fun _ => ⟨vp_in_nI (by omega) (by decide), ?_⟩⟩
    · rw [hc] at h
      exact absurd h (nI_ge (by omega) (by omega))
    · have hu := un_lt c v j (by omega)
      rw [nI_clamp (by omega), hs j (by omega), nI_eq (by omega) (by omega), nI_1]
      refine ⟨fun _ => ih, fun h => ?_⟩
      rw [← h2] at h
      exact absurd (un_inj (by omega) h1 h) (by omega)
/-- the place that i's going leaves to j -/
def inc (i j : Nat) : Nat := if j < i then j else j + 1
theorem inc_lt {i j c : Nat} (hi : i < c) (hj : j < c - 1) : inc i j < c := by
  unfold inc
  split <;> omega
theorem wb_mk {p : Nat → Bool} {c i : Nat} (hi : i < c) : (mk p c &&& (2 ^ i - 1)) ||| (mk p c / 2 ^ (i + 1) * 2 ^ i) = mk (fun j => p (inc i j)) (c - 1) := mk_of fun j => by
  rw [Nat.testBit_or, Nat.testBit_and, Nat.testBit_two_pow_sub_one, Nat.testBit_mul_two_pow, Nat.testBit_div_two_pow, mk_bit, mk_bit]
  by_cases h : j < i
  · have h1 : j < c := by omega
    have h2 : j < c - 1 := by omega
    have h3 : ¬ i ≤ j := by omega
    simp [inc, h, h1, h2, h3]
  · have h3 : i ≤ j := by omega
    have h4 : j - i + (i + 1) = j + 1 := by omega
    have h5 : (j + 1 < c) = (j < c - 1) := by
      apply propext
      omega
    simp [inc, h, h3, h4, h5]
theorem s_withoutBit {d c i : Nat} {p : Nat → Bool} {iv : zI} {rv : zR} {lv : zJ} (hT : zTop rv) (hc10 : c ≤ 10) (hi : i < c) : Ci mX9_withoutBit d [.int (nI (mk p c)), .int (nI i)] iv rv lv (zP (nI (mk (fun j => p (inc i j)) (c - 1))) iv rv lv) := by
  refine eX9_withoutBit _ _ (bX9_withoutBit_0 _ _ hT (zP.mk ?_))
  have hl : mk p c < 1024 := mk_lt10 hc10
  have hp : 0 < 2 ^ i := Nat.pow_pos (by omega)
  have hp2 : 2 ^ i ≤ 2 ^ 9 := Nat.pow_le_pow_right (by omega) (by omega)
  have hd : mk p c / 2 ^ (i + 1) * 2 ^ i ≤ mk p c := by
    have h1 : mk p c / 2 ^ (i + 1) * 2 ^ i ≤ mk p c / 2 ^ (i + 1) * 2 ^ (i + 1) := Nat.mul_le_mul_left _ (Nat.pow_le_pow_right (by omega) (by omega))
    exact Nat.le_trans h1 (Nat.div_mul_le_self _ _)
  rw [bI_1shl (by omega), z_1, pk_sub (by omega), bI_and, nI_add, bI_shr (by omega) (by omega), bI_shl (by omega) (by omega), bI_or, wb_mk hi]
theorem s_remove {d o c i : Nat} {p : Nat → Nat → Bool} {iv : zI} {rv : zR} {lv : zJ} (hT : zTop rv) (m : o ∈ zSts) (hc : iv o 0 = nI c) (hc10 : c ≤ 10) (hi : i < c) (hf : ∀ t, t < c → iv (o + 3) t = nI (mk (p t) c)) :
    Cv mX9_remove (d + 1) [.ref o, .int (nI i)] iv rv lv (fun iv' rv' lv' => rv' = rv ∧ lv' = lv ∧ iv' o = zu iv o 0 (nI (c - 1)) o ∧ (∀ t, t < c - 1 → iv' (o + 1) t = iv (o + 1) (inc i t)) ∧ (∀ t, t < c - 1 → iv' (o + 2) t = iv (o + 2) (inc i t)) ∧ (∀ t, t < c - 1 → iv' (o + 3) t = nI (mk (fun s => p (inc i t) (inc i s)) (c - 1))) ∧ ∀ a, a < o ∨ o + 3 < a → iv' a = iv a) := by
  refine eX9_remove o _ (bX9_remove_0 o _ hT m ?_)
  have key := zfor (c := c) (P := fun j => ∀ w : zI, (∀ t, t < j → w (o + 3) t = nI (mk (fun s => p t (inc i s)) (c - 1))) → (∀ t, j ≤ t → t < c → w (o + 3) t = nI (mk (p t) c)) → (∀ a, a ≠ o + 3 → w a = iv a) → Zv mX9_remove (d + 1) 2 [some (.ref o), some (.int (nI i)), some (.int (nI j))] [] w rv lv (fun iv' rv' lv' => rv' = rv ∧ lv' = lv ∧ iv' o = zu iv o 0 (nI (c - 1)) o ∧ (∀ t, t < c - 1 → iv' (o + 1) t = iv (o + 1) (inc i t)) ∧ (∀ t, t < c - 1 → iv' (o + 2) t = iv (o + 2) (inc i t)) ∧ (∀ t, t < c - 1 → iv' (o + 3) t = nI (mk (fun s => p (inc i t) (inc i s)) (c - 1))) ∧ ∀ a, a < o ∨ o + 3 < a → iv' a = iv a)) ?_ ?_
  · exact key 0 (Nat.zero_le _) iv (fun t ht => absurd ht (Nat.not_lt_zero _)) (fun t _ ht => hf t ht) (fun _ _ => rfl)
  · intro w g1 _ g3
    have e0 : w o 0 = nI c := by rw [g3 o (by omega)]; exact hc
    refine bX9_remove_2 o _ _ hT m ⟨fun _ => ?_, fun h => absurd (by rw [e0]; exact nI_le (Nat.le_refl _) (by omega)) h⟩
    have key2 := zfor (c := c - 1) (P := fun j => i ≤ j → ∀ u : zI, (∀ r, 1 ≤ r → r ≤ 3 → ∀ t, u (o + r) t = if i ≤ t ∧ t < j then w (o + r) (t + 1) else w (o + r) t) → (∀ a, a < o + 1 ∨ o + 3 < a → u a = w a) → Zv mX9_remove (d + 1) 34 [some (.ref o), some (.int (nI i)), some (.int (nI j))] [] u rv lv (fun iv' rv' lv' => rv' = rv ∧ lv' = lv ∧ iv' o = zu iv o 0 (nI (c - 1)) o ∧ (∀ t, t < c - 1 → iv' (o + 1) t = iv (o + 1) (inc i t)) ∧ (∀ t, t < c - 1 → iv' (o + 2) t = iv (o + 2) (inc i t)) ∧ (∀ t, t < c - 1 → iv' (o + 3) t = nI (mk (fun s => p (inc i t) (inc i s)) (c - 1))) ∧ ∀ a, a < o ∨ o + 3 < a → iv' a = iv a)) ?_ ?_
    · exact key2 i (by omega) (Nat.le_refl _) w (fun r _ _ t => by
        have : ¬ (i ≤ t ∧ t < i) := by omega
        rw [if_neg this]) (fun _ _ => rfl)
    · intro _ u f1 f2
      have e1 : u o 0 = nI c := by rw [f2 o (by omega)]; exact e0
      refine bX9_remove_34 o _ _ hT m ⟨fun _ u1 e2 => ?_, fun h => absurd (by rw [e1, z_1, pk_sub (by omega)]; exact nI_le (Nat.le_refl _) (by omega)) h⟩
      rw [e1, z_1, pk_sub (by omega)] at e2
      have sh : ∀ r, 1 ≤ r → r ≤ 3 → ∀ t, t < c - 1 → u1 (o + r) t = w (o + r) (inc i t) := fun r r1 r2 t ht => by
        rw [e2, zu_row (by omega), f1 r r1 r2 t]
        unfold inc
        by_cases q : t < i
        · rw [if_neg (by omega), if_pos q]
        · rw [if_pos (by omega), if_neg q]
      refine ⟨rfl, rfl, ?_, fun t ht => ?_, fun t ht => ?_, fun t ht => ?_, fun a ha => ?_⟩
      · rw [e2]
        funext b
        simp only [zu]
        rw [f2 o (by omega), g3 o (by omega)]
      · rw [sh 1 (by omega) (by omega) t ht, g3 (o + 1) (by omega)]
      · rw [sh 2 (by omega) (by omega) t ht, g3 (o + 2) (by omega)]
      · rw [sh 3 (by omega) (by omega) t ht]
        exact g1 (inc i t) (inc_lt hi ht)
      · rw [e2, zu_row (by omega), f2 a (by omega), g3 a (by omega)]
    · intro j hj ih hij u f1 f2
      have e1 : u o 0 = nI c := by rw [f2 o (by omega)]; exact e0
      refine bX9_remove_34 o _ _ hT m ⟨fun h => ?_, fun _ => ?_⟩
      · rw [e1, z_1, pk_sub (by omega)] at h
        exact absurd h (nI_ge hj (by omega))
      · rw [nI_1, nI_clamp (show j + 1 < 2 ^ 31 by omega), nI_clamp (show j < 2 ^ 31 by omega)]
        refine ⟨vp_in_nI (by omega) (by decide), vp_in_nI (by omega) (by decide), fun u1 e2 u2 e3 u3 e4 => ?_⟩
        refine ih (by omega) u3 (fun r r1 r2 t => ?_) (fun a ha => ?_)
        · have v1 : ∀ r, 1 ≤ r → r ≤ 3 → u (o + r) (j + 1) = w (o + r) (j + 1) := fun r r1 r2 => by
            rw [f1 r r1 r2 (j + 1), if_neg (by omega)]
          by_cases tj : t = j
          · subst tj
            rw [if_pos (by omega)]
            rcases (show r = 1 ∨ r = 2 ∨ r = 3 by omega) with rfl | rfl | rfl
            · rw [e4, zu_row (by omega), e3, zu_row (by omega), e2, zu_eq]
              exact v1 1 r1 r2
            · rw [e4, zu_row (by omega), e3, zu_eq, e2, zu_row (by omega)]
              exact v1 2 r1 r2
            · rw [e4, zu_eq, e3, zu_row (by omega), e2, zu_row (by omega)]
              exact v1 3 r1 r2
          · rw [e4, zu_k tj, e3, zu_k tj, e2, zu_k tj, f1 r r1 r2 t]
            by_cases q : i ≤ t ∧ t < j
            · rw [if_pos q, if_pos (by omega)]
            · rw [if_neg q, if_neg (by omega)]
        · rw [e4, zu_row (by omega), e3, zu_row (by omega), e2, zu_row (by omega)]
          exact f2 a ha
  · intro j hj ih w g1 g2 g3
    have e0 : w o 0 = nI c := by rw [g3 o (by omega)]; exact hc
    refine bX9_remove_2 o _ _ hT m ⟨fun h => ?_, fun _ => ?_⟩
    · rw [e0] at h
      exact absurd h (nI_ge hj (by omega))
    · rw [nI_clamp (by omega), g2 j (Nat.le_refl _) hj, nI_1]
      refine ⟨vp_in_nI (by omega) (by decide), _, s_withoutBit hT hc10 hi, fun x w2 r2 l2 hq => ?_⟩
      obtain ⟨rfl, rfl, rfl, rfl⟩ := hq
      refine ⟨hT, fun w3 e3 => ?_⟩
      subst e3
      refine ih _ (fun t ht => ?_) (fun t h1 h2 => ?_) (fun a ha => by rw [zu_row ha]; exact g3 a ha)
      · by_cases e : t = j
        · subst e
          rw [zu_eq]
        · rw [zu_k e]
          exact g1 t (by omega)
      · rw [zu_k (by omega)]
        exact g2 t (by omega) h2
theorem s_lay {d o p c : Nat} {u : Nat → Nat} {q : Nat → Nat → Bool} {iv : zI} {rv : zR} {lv : zJ} (hT : zTop rv) (m : o ∈ zSts) (m2 : p ∈ zSts) (hop : o ≠ p) (hc : iv o 0 = nI c) (hc10 : c ≤ 10) (hu : ∀ j, j < c → iv (p + 4) j = nI (u j) ∧ u j < c) (hf : ∀ t, t < c → iv (p + 3) t = nI (mk (q t) c)) :
    Cv mX9_layBySize (d + 1) [.ref o, .ref p] iv rv lv (fun iv' rv' lv' => rv' = rv ∧ lv' = lv ∧ (∀ j, j < c → iv' (o + 1) j = iv (p + 1) (u j)) ∧ (∀ j, j < c → iv' (o + 2) j = iv (p + 2) (u j)) ∧ (∀ j, j < c → iv' (o + 3) j = nI (mk (fun t => q (u j) (u t)) c)) ∧ ∀ a, a < o + 1 ∨ o + 3 < a → iv' a = iv a) := by
  have far : o + 4 < p ∨ p + 4 < o := by
    have key : ∀ o ∈ zSts, ∀ p ∈ zSts, o ≠ p → o + 4 < p ∨ p + 4 < o := by decide +kernel
    exact key o m p m2 hop
  refine eX9_layBySize o p (bX9_layBySize_0 o p hT m m2 ?_)
  have key := zfor (c := c) (P := fun j => ∀ w : zI, (∀ t, t < j → w (o + 1) t = iv (p + 1) (u t)) → (∀ t, t < j → w (o + 2) t = iv (p + 2) (u t)) → (∀ t, t < j → w (o + 3) t = nI (mk (fun s => q (u t) (u s)) c)) → (∀ a, a < o + 1 ∨ o + 3 < a → w a = iv a) → Zv mX9_layBySize (d + 1) 2 [some (.ref o), some (.ref p), some (.int (nI j)), none, none] [] w rv lv (fun iv' rv' lv' => rv' = rv ∧ lv' = lv ∧ (∀ j, j < c → iv' (o + 1) j = iv (p + 1) (u j)) ∧ (∀ j, j < c → iv' (o + 2) j = iv (p + 2) (u j)) ∧ (∀ j, j < c → iv' (o + 3) j = nI (mk (fun t => q (u j) (u t)) c)) ∧ ∀ a, a < o + 1 ∨ o + 3 < a → iv' a = iv a)) ?_ ?_
  · exact key 0 (Nat.zero_le _) iv (fun t ht => absurd ht (Nat.not_lt_zero _)) (fun t ht => absurd ht (Nat.not_lt_zero _)) (fun t ht => absurd ht (Nat.not_lt_zero _)) (fun _ _ => rfl)
  · intro w g1 g2 g3 g4
    have e0 : w o 0 = nI c := by rw [g4 o (by omega)]; exact hc
    exact bX9_layBySize_2 o p _ hT m m2 ⟨fun _ => ⟨rfl, rfl, g1, g2, g3, g4⟩, fun h => absurd (by rw [e0]; exact nI_le (Nat.le_refl _) (by omega)) h⟩
  · intro j hj ih w g1 g2 g3 g4
    have e0 : w o 0 = nI c := by rw [g4 o (by omega)]; exact hc
    obtain ⟨hu1, hu2⟩ := hu j hj
    refine bX9_layBySize_2 o p _ hT m m2 ⟨fun h => ?_, fun _ => ?_⟩
    · rw [e0] at h
      exact absurd h (nI_ge hj (by omega))
    · have e1 : w (p + 4) j = nI (u j) := by rw [g4 (p + 4) (by omega)]; exact hu1
      rw [nI_clamp (by omega), e1, nI_clamp (show u j < 2 ^ 31 by omega)]
      refine ⟨vp_in_nI (by omega) (by decide), vp_in_nI (by omega) (by decide), fun w1 a1 w2 a2 w3 a3 => ?_⟩
      rw [g4 (p + 1) (by omega)] at a1
      have b2 : w1 (p + 2) = iv (p + 2) := by rw [a1, zu_row (by omega), g4 (p + 2) (by omega)]
      rw [b2] at a2
      have key2 := zfor (c := c) (P := fun s => ∀ x : zI, x (o + 3) j = nI (mk (fun t => q (u j) (u t)) s) → (∀ t, t ≠ j → x (o + 3) t = w3 (o + 3) t) → (∀ a, a ≠ o + 3 → x a = w3 a) → Zv mX9_layBySize (d + 1) 51 [some (.ref o), some (.ref p), some (.int (nI j)), some (.int (nI (u j))), some (.int (nI s))] [] x rv lv (fun iv' rv' lv' => rv' = rv ∧ lv' = lv ∧ (∀ j, j < c → iv' (o + 1) j = iv (p + 1) (u j)) ∧ (∀ j, j < c → iv' (o + 2) j = iv (p + 2) (u j)) ∧ (∀ j, j < c → iv' (o + 3) j = nI (mk (fun t => q (u j) (u t)) c)) ∧ ∀ a, a < o + 1 ∨ o + 3 < a → iv' a = iv a)) ?_ ?_
      · exact key2 0 (Nat.zero_le _) w3 (by rw [a3, zu_eq]; rfl) (fun _ _ => rfl) (fun _ _ => rfl)
      · intro x f1 f2 f3
        have e3 : x o 0 = nI c := by rw [f3 o (by omega), a3, zu_row (by omega), a2, zu_row (by omega), a1, zu_row (by omega)]; exact e0
        refine bX9_layBySize_51 o p _ _ _ hT m m2 ⟨fun _ => ?_, fun h => absurd (by rw [e3]; exact nI_le (Nat.le_refl _) (by omega)) h⟩
        rw [nI_1]
        refine ih x (fun t ht => ?_) (fun t ht => ?_) (fun t ht => ?_) (fun a ha => ?_)
        · rw [f3 (o + 1) (by omega), a3, zu_row (by omega), a2, zu_row (by omega), a1]
          by_cases e : t = j
          · rw [e, zu_eq]
          · rw [zu_k e]
            exact g1 t (by omega)
        · rw [f3 (o + 2) (by omega), a3, zu_row (by omega), a2]
          by_cases e : t = j
          · rw [e, zu_eq]
          · rw [zu_k e, a1, zu_row (by omega)]
            exact g2 t (by omega)
        · by_cases e : t = j
          · rw [e]
            exact f1
          · rw [f2 t e, a3, zu_k e, a2, zu_row (by omega), a1, zu_row (by omega)]
            exact g3 t (by omega)
        · rw [f3 a (by omega), a3, zu_row (by omega), a2, zu_row (by omega), a1, zu_row (by omega)]
          exact g4 a ha
      · intro s hs ih2 x f1 f2 f3
        have far2 : ∀ a, a < o + 1 ∨ o + 3 < a → x a = iv a := fun a ha => by
          rw [f3 a (by omega), a3, zu_row (by omega), a2, zu_row (by omega), a1, zu_row (by omega)]
          exact g4 a ha
        have e3 : x o 0 = nI c := by rw [far2 o (by omega)]; exact hc
        obtain ⟨hs1, hs2⟩ := hu s hs
        have e4 : x (p + 4) s = nI (u s) := by rw [far2 (p + 4) (by omega)]; exact hs1
        refine bX9_layBySize_51 o p _ _ _ hT m m2 ⟨fun h => ?_, fun _ => ?_⟩
        · rw [e3] at h
          exact absurd h (nI_ge hs (by omega))
        · rw [nI_clamp (by omega), e4, nI_1]
          refine ⟨vp_in_nI (by omega) (by decide), _, s_areApart hT m2 hc10 (fun t ht => by rw [far2 (p + 3) (by omega)]; exact hf t ht) hu2 hs2, fun y w5 r5 l5 hq => ?_⟩
          obtain ⟨rfl, rfl, rfl, rfl⟩ := hq
          refine ⟨hT, fun h => ?_, fun h => ?_⟩
          · have hb : q (u j) (u s) = false := by
              cases hb : q (u j) (u s) with
              | false => rfl
              | true => rw [hb] at h; exact absurd h (by decide)
            refine ih2 _ ?_ f2 f3
            rw [f1]
            simp [mk, hb]
          · have hb : q (u j) (u s) = true := by
              cases hb : q (u j) (u s) with
              | true => rfl
              | false => rw [hb] at h; exact absurd rfl h
            rw [nI_clamp (by omega), f1, bI_1shl (by omega), bI_or]
            refine ⟨vp_in_nI (by omega) (by decide), fun x2 e5 => ?_⟩
            subst e5
            refine ih2 _ ?_ (fun t ht => by rw [zu_k ht]; exact f2 t ht) (fun a ha => by rw [zu_row ha]; exact f3 a ha)
            rw [zu_eq]
            simp [mk, hb]
