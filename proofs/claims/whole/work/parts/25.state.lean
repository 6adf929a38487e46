/-! State: its methods over the memory. -/
theorem s_total {d o c : Nat} {v : Nat → Nat} {iv : zI} {rv : zR} {lv : zJ} (hT : zTop rv) (m : o ∈ zSts) (hc : iv o 0 = nI c) (hc10 : c ≤ 10) (hv : ∀ i, i < c → iv (o + 1) i = nI (v i)) : Ci mX9_total d [.ref o] iv rv lv (zP (nI (sm v c)) iv rv lv) := by
  refine eX9_total o (bX9_total_0 o hT m ?_)
  refine zfor (P := fun j => Zi mX9_total d 4 [some (.ref o), some (.int (nI (sm v j))), some (.int (nI j))] [] iv rv lv (zP (nI (sm v c)) iv rv lv)) (c := c) ?_ ?_ 0 (Nat.zero_le _)
  · exact bX9_total_4 o _ _ hT m ⟨fun _ => zP.mk rfl, fun h => absurd (by rw [hc]; exact nI_le (Nat.le_refl _) (by omega)) h⟩
  · intro j hj ih
    refine bX9_total_4 o _ _ hT m ⟨fun h => ?_, fun _ => ⟨vp_in_nI (by omega) (by decide), ?_⟩⟩
    · rw [hc] at h
      exact absurd h (nI_ge hj (by omega))
    · rw [nI_clamp (by omega), hv j hj, nI_add, nI_1]
      exact ih
/-- what is kept, as told: -2 for none -/
def kpI (x : Nat) : Int32 := if x = 0 then -2 else nI (x - 1)
theorem kpI_0 {x : Nat} (hx : x ≤ 4) : kpI x = -2 ↔ x = 0 := by
  rcases (show x = 0 ∨ x = 1 ∨ x = 2 ∨ x = 3 ∨ x = 4 by omega) with rfl | rfl | rfl | rfl | rfl <;> decide
theorem s_kept {d o c : Nat} {kp : Nat → Nat} {iv : zI} {rv : zR} {lv : zJ} (hT : zTop rv) (m : o ∈ zSts) (hc : iv o 0 = nI c) (hc10 : c ≤ 10) (hv : ∀ i, i < c → iv (o + 2) i = kpI (kp i)) (hk : ∀ i, i < c → kp i ≤ 4) : Ci mX9_keptCount d [.ref o] iv rv lv (zP (nI (cn (fun i => decide (0 < kp i)) c)) iv rv lv) := by
  refine eX9_keptCount o (bX9_keptCount_0 o hT m ?_)
  refine zfor (P := fun j => Zi mX9_keptCount d 4 [some (.ref o), some (.int (nI (cn (fun i => decide (0 < kp i)) j))), some (.int (nI j))] [] iv rv lv _) (c := c) ?_ ?_ 0 (Nat.zero_le _)
  · exact bX9_keptCount_4 o _ _ hT m ⟨fun _ => zP.mk rfl, fun h => absurd (by rw [hc]; exact nI_le (Nat.le_refl _) (by omega)) h⟩
  · intro j hj ih
    refine bX9_keptCount_4 o _ _ hT m ⟨fun h => ?_, fun _ => ⟨vp_in_nI (by omega) (by decide), ?_⟩⟩
    · rw [hc] at h
      exact absurd h (nI_ge hj (by omega))
    · rw [nI_clamp (by omega), hv j hj, kpI_0 (hk j hj)]
      simp only [nI_1]
      refine ⟨fun h => ?_, fun h => ?_⟩
      · have : cn (fun i => decide (0 < kp i)) (j + 1) = cn (fun i => decide (0 < kp i)) j := by simp [cn, h]
        rw [this] at ih
        exact ih
      · have : cn (fun i => decide (0 < kp i)) (j + 1) = cn (fun i => decide (0 < kp i)) j + 1 := by
          have : 0 < kp j := by omega
          simp [cn, this]
        rw [this] at ih
        exact ih
theorem s_order {d o c : Nat} {v : Nat → Nat} {iv : zI} {rv : zR} {lv : zJ} (hT : zTop rv) (m : o ∈ zSts) (hc : iv o 0 = nI c) (hc10 : c ≤ 10) (hv : ∀ i, i < c → iv (o + 1) i = nI (v i)) (hb : ∀ i, i < c → v i < 100000) :
    Cv mX9_orderBySize d [.ref o] iv rv lv (fun iv' rv' lv' => rv' = rv ∧ lv' = lv ∧ (∀ j, j < c → iv' (o + 4) j = nI (un c v j)) ∧ ∀ a, a ≠ o + 4 → iv' a = iv a) := by
  refine eX9_orderBySize o (bX9_orderBySize_0 o hT m ?_)
  have key := zfor (c := c) (P := fun i => ∀ w : zI, (∀ j, j < i → w (o + 4) j = nI (un i v j)) → (∀ a, a ≠ o + 4 → w a = iv a) → Zv mX9_orderBySize d 2 [some (.ref o), some (.int (nI i)), none] [] w rv lv (fun iv' rv' lv' => rv' = rv ∧ lv' = lv ∧ (∀ j, j < c → iv' (o + 4) j = nI (un c v j)) ∧ ∀ a, a ≠ o + 4 → iv' a = iv a)) ?_ ?_
  · exact key 0 (Nat.zero_le _) iv (fun j hj => absurd hj (Nat.not_lt_zero _)) (fun _ _ => rfl)
  · intro w h1 h2
    have e0 : w o 0 = nI c := by rw [h2 o (by omega)]; exact hc
    exact bX9_orderBySize_2 o _ hT m ⟨fun _ => ⟨rfl, rfl, h1, h2⟩, fun h => absurd (by rw [e0]; exact nI_le (Nat.le_refl _) (by omega)) h⟩
  · intro i hi ih w h1 h2
    have e0 : w o 0 = nI c := by rw [h2 o (by omega)]; exact hc
    refine bX9_orderBySize_2 o _ hT m ⟨fun h => absurd (by rw [e0] at h; exact h) (nI_ge hi (by omega)), fun _ => ?_⟩
    have fin : ∀ a, a ≤ i → gec i v (v i) = a → ∀ w w1 : zI, (∀ j, j < a → w (o + 4) j = nI (un i v j)) → (∀ j, a < j → j ≤ i → w (o + 4) j = nI (un i v (j - 1))) → (∀ b, b ≠ o + 4 → w b = iv b) → w1 = zu w (o + 4) (nI a).toNatClampNeg (nI i) → Zv mX9_orderBySize d 2 [some (.ref o), some (.int (nI i + 1)), none] [] w1 rv lv (fun iv' rv' lv' => rv' = rv ∧ lv' = lv ∧ (∀ j, j < c → iv' (o + 4) j = nI (un c v j)) ∧ ∀ a, a ≠ o + 4 → iv' a = iv a) := by
      intro a ha hp w w1 g1 g2 g3 e
      rw [nI_clamp (by omega)] at e
      subst e
      rw [nI_1]
      refine ih _ (fun j hj => ?_) (fun b hb => by rw [zu_row hb]; exact g3 b hb)
      simp only [un, hp]
      by_cases c1 : j < a
      · rw [if_pos c1, zu_k (by omega)]
        exact g1 j c1
      · rw [if_neg c1]
        by_cases c2 : j = a
        · rw [if_pos c2, c2, zu_eq]
        · rw [if_neg c2, zu_k c2]
          exact g2 j (by omega) (by omega)
    have inner : ∀ a, a ≤ i → gec i v (v i) ≤ a → ∀ w : zI, (∀ j, j < a → w (o + 4) j = nI (un i v j)) → (∀ j, a < j → j ≤ i → w (o + 4) j = nI (un i v (j - 1))) → (∀ b, b ≠ o + 4 → w b = iv b) → Zv mX9_orderBySize d 12 [some (.ref o), some (.int (nI i)), some (.int (nI a))] [] w rv lv (fun iv' rv' lv' => rv' = rv ∧ lv' = lv ∧ (∀ j, j < c → iv' (o + 4) j = nI (un c v j)) ∧ ∀ a, a ≠ o + 4 → iv' a = iv a) := by
      intro a
      induction a with
      | zero =>
        intro ha hp w g1 g2 g3
        refine bX9_orderBySize_12 o _ _ hT m ⟨fun _ => ⟨vp_in_nI (by omega) (by decide), fun w1 e1 => fin 0 ha (by omega) w w1 g1 g2 g3 e1⟩, fun h => absurd (by decide) h⟩
      | succ a iha =>
        intro ha hp w g1 g2 g3
        have hu := un_lt i v a (by omega)
        have hval := un_val i v (v i) a (by omega)
        have e1 : w (o + 4) a = nI (un i v a) := g1 a (by omega)
        have e2 : w (o + 1) i = nI (v i) := by rw [g3 (o + 1) (by omega)]; exact hv i hi
        have e3 : w (o + 1) (un i v a) = nI (v (un i v a)) := by rw [g3 (o + 1) (by omega)]; exact hv _ (by omega)
        have hb1 := hb i hi
        have hb2 := hb (un i v a) (by omega)
        refine bX9_orderBySize_12 o _ _ hT m ⟨fun h => absurd h (nI_nle (by omega) (by omega)), fun _ => ?_⟩
        rw [nI_pred, nI_clamp (show a < 2 ^ 31 by omega), e1, nI_clamp (show un i v a < 2 ^ 31 by omega), nI_clamp (show i < 2 ^ 31 by omega), e2, e3, nI_leI (by omega) (by omega)]
        refine ⟨vp_in_nI (by omega) (by decide), vp_in_nI (by omega) (by decide), vp_in_nI (by omega) (by decide), fun h => ⟨vp_in_nI (by omega) (by decide), fun w1 e4 => ?_⟩, fun h => ⟨vp_in_nI (by omega) (by decide), fun w1 e4 => ?_⟩⟩
        · refine fin (a + 1) ha ?_ w w1 g1 g2 g3 e4
          have : ¬ gec i v (v i) ≤ a := fun q => absurd (hval.mpr q) (by omega)
          omega
        · rw [nI_clamp (by omega)] at e4
          subst e4
          rw [pk_m1]
          refine iha (by omega) (hval.mp (by omega)) _ (fun j hj => ?_) (fun j h3 h4 => ?_) (fun b hb => by rw [zu_row hb]; exact g3 b hb)
          · rw [zu_k (by omega)]
            exact g1 j (by omega)
          · by_cases c1 : j = a + 1
            · rw [c1, zu_eq]
              rfl
            · rw [zu_k c1]
              exact g2 j (by omega) h4
    exact inner i (Nat.le_refl _) (gec_le _ _ _) w h1 (fun j h3 h4 => by omega) h2
/-- copyFrom: the five cells become as the other's -/
theorem s_copy {d o p : Nat} {iv : zI} {rv : zR} {lv : zJ} (hT : zTop rv) (m : o ∈ zSts) (m2 : p ∈ zSts) :
    Cv mX9_copyFrom (d + 1) [.ref o, .ref p] iv rv lv (fun iv' rv' lv' => rv' = rv ∧ lv' = lv ∧ (iv' o 0 = iv p 0 ∧ iv' o 1 = iv p 1) ∧ (∀ t, 1 ≤ t → t ≤ 4 → ∀ j, j < 10 → iv' (o + t) j = iv (p + t) j) ∧ ∀ a, a < o ∨ o + 4 < a → iv' a = iv a) := by
  refine eX9_copyFrom o p (bX9_copyFrom_0 o p hT m m2 ?_)
  intro w1 e1 w2 e2 w3 e3 w4 e4 w5 e5 w6 e6
  by_cases hop : o = p
  · subst hop
    have c0 : ∀ (f : Nat → Int32), va_cpy f f 0 0 10 = f := fun f => by
      funext k
      simp only [va_cpy]
      split
      · congr 1
        omega
      · rfl
    have d1 : w1 = iv := by
      rw [e1]
      funext a b
      simp only [zu]
      split
      · next h => rw [h.1, h.2]
      · rfl
    subst d1
    have d2 : w2 = w1 := by
      rw [e2]
      funext a b
      simp only [zu]
      split
      · next h => rw [h.1, h.2]
      · rfl
    subst d2
    have dd : ∀ (u : zI) (t : Nat), (fun a => if a = o + t then va_cpy (u (o + t)) (u (o + t)) 0 0 10 else u a) = u := fun u t => by
      funext a
      rw [c0]
      split
      · next h => rw [h]
      · rfl
    rw [dd] at e3
    subst e3
    rw [dd] at e4
    subst e4
    rw [dd] at e5
    subst e5
    rw [dd] at e6
    subst e6
    exact ⟨rfl, rfl, ⟨rfl, rfl⟩, fun _ _ _ _ _ => rfl, fun _ _ => rfl⟩
  · have hs := sSts o m
    have hs2 := sSts p m2
    have far : o + 4 < p ∨ p + 4 < o := by
      have key : ∀ o ∈ zSts, ∀ p ∈ zSts, o ≠ p → o + 4 < p ∨ p + 4 < o := by decide +kernel
      exact key o m p m2 hop
    have r1 : ∀ a, a ≠ o → w2 a = iv a := fun a ha => by rw [e2, zu_row ha, e1, zu_row ha]
    have r3 : ∀ a, a ≠ o + 1 → w3 a = w2 a := fun a ha => by rw [e3]; simp [ha]
    have r4 : ∀ a, a ≠ o + 2 → w4 a = w3 a := fun a ha => by rw [e4]; simp [ha]
    have r5 : ∀ a, a ≠ o + 3 → w5 a = w4 a := fun a ha => by rw [e5]; simp [ha]
    have r6 : ∀ a, a ≠ o + 4 → w6 a = w5 a := fun a ha => by rw [e6]; simp [ha]
    have q3 : ∀ j, j < 10 → w3 (o + 1) j = iv (p + 1) j := fun j hj => by
      rw [e3]
      simp only [if_true]
      rw [pk_cpy_in (by omega) (by omega), r1 (p + 1) (by omega)]
      congr 1
      omega
    have q4 : ∀ j, j < 10 → w4 (o + 2) j = iv (p + 2) j := fun j hj => by
      rw [e4]
      simp only [if_true]
      rw [pk_cpy_in (by omega) (by omega), r3 (p + 2) (by omega), r1 (p + 2) (by omega)]
      congr 1
      omega
    have q5 : ∀ j, j < 10 → w5 (o + 3) j = iv (p + 3) j := fun j hj => by
      rw [e5]
      simp only [if_true]
      rw [pk_cpy_in (by omega) (by omega), r4 (p + 3) (by omega), r3 (p + 3) (by omega), r1 (p + 3) (by omega)]
      congr 1
      omega
    have q6 : ∀ j, j < 10 → w6 (o + 4) j = iv (p + 4) j := fun j hj => by
      rw [e6]
      simp only [if_true]
      rw [pk_cpy_in (by omega) (by omega), r5 (p + 4) (by omega), r4 (p + 4) (by omega), r3 (p + 4) (by omega), r1 (p + 4) (by omega)]
      congr 1
      omega
    have q0 : w2 o 0 = iv p 0 ∧ w2 o 1 = iv p 1 := by
      rw [e2, e1]
      refine ⟨?_, ?_⟩
      · rw [zu_k (by decide), zu_eq]
      · rw [zu_eq, zu_row (by omega)]
    refine ⟨rfl, rfl, ?_, ?_, ?_⟩
    · rw [r6 o (by omega), r5 o (by omega), r4 o (by omega), r3 o (by omega)]
      exact q0
    · intro t h1 h2 j hj
      rcases (show t = 1 ∨ t = 2 ∨ t = 3 ∨ t = 4 by omega) with rfl | rfl | rfl | rfl
      · rw [r6 _ (by omega), r5 _ (by omega), r4 _ (by omega)]
        exact q3 j hj
      · rw [r6 _ (by omega), r5 _ (by omega)]
        exact q4 j hj
      · rw [r6 _ (by omega)]
        exact q5 j hj
      · exact q6 j hj
    · intro a ha
      rw [r6 a (by omega), r5 a (by omega), r4 a (by omega), r3 a (by omega), r1 a (by omega)]
theorem s_empty {d o : Nat} {iv : zI} {rv : zR} {lv : zJ} (hT : zTop rv) (m : o ∈ zSts) : Cv mX9_empty d [.ref o] iv rv lv (fun iv' rv' lv' => rv' = rv ∧ lv' = lv ∧ iv' o 0 = 0 ∧ iv' o 1 = 2 ∧ ∀ a, a ≠ o → iv' a = iv a) := by
  refine eX9_empty o (bX9_empty_0 o hT m ?_)
  intro w1 e1 w2 e2
  subst e1
  subst e2
  exact ⟨rfl, rfl, by rw [zu_k (by decide), zu_eq], zu_eq, fun a ha => by rw [zu_row ha, zu_row ha]⟩
theorem s_append {d o c : Nat} {x : Int32} {iv : zI} {rv : zR} {lv : zJ} (hT : zTop rv) (m : o ∈ zSts) (hc : iv o 0 = nI c) (hc10 : c < 10) : Cv mX9_append d [.ref o, .int x] iv rv lv (fun iv' rv' lv' => rv' = rv ∧ lv' = lv ∧ iv' o = zu iv o 0 (nI (c + 1)) o ∧ iv' (o + 1) = zu iv (o + 1) c x (o + 1) ∧ iv' (o + 2) = zu iv (o + 2) c (-2) (o + 2) ∧ iv' (o + 3) = zu iv (o + 3) c 0 (o + 3) ∧ ∀ a, a < o ∨ o + 3 < a → iv' a = iv a) := by
  refine eX9_append o x (bX9_append_0 o x hT m ⟨fun h => ?_, fun _ => ?_⟩)
  · rw [hc] at h
    exact absurd h (show ¬ nI 10 ≤ nI c from nI_ge hc10 (by omega))
  · rw [hc]
    refine ⟨vp_in_nI hc10 (by decide), fun w1 e1 => ?_⟩
    rw [nI_clamp (by omega)] at e1
    have c1 : w1 o 0 = nI c := by rw [e1, zu_row (by omega)]; exact hc
    rw [c1]
    refine ⟨vp_in_nI hc10 (by decide), fun w2 e2 => ?_⟩
    rw [nI_clamp (by omega)] at e2
    have c2 : w2 o 0 = nI c := by rw [e2, zu_row (by omega)]; exact c1
    rw [c2]
    refine ⟨vp_in_nI hc10 (by decide), fun w3 e3 => ?_⟩
    rw [nI_clamp (by omega)] at e3
    have c3 : w3 o 0 = nI c := by rw [e3, zu_row (by omega)]; exact c2
    intro w4 e4
    rw [c3, nI_1] at e4
    subst e4
    subst e3
    subst e2
    subst e1
    refine ⟨rfl, rfl, ?_, ?_, ?_, ?_, ?_⟩
    · funext b
      simp only [zu]
      have : o ≠ o + 1 := by omega
      have : o ≠ o + 2 := by omega
      have : o ≠ o + 3 := by omega
      simp [*]
    · rw [zu_row (by omega), zu_row (by omega), zu_row (by omega)]
    · rw [zu_row (by omega), zu_row (by omega)]
      funext b
      simp only [zu]
      simp
    · rw [zu_row (by omega)]
      funext b
      simp only [zu]
      simp
    · intro a ha
      rw [zu_row (by omega), zu_row (by omega), zu_row (by omega), zu_row (by omega)]
