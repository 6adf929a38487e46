/-! THE CLASS: climbing. -/
def hOf (ρ : Nat → Nat) (c : Bool × Nat × Nat) : Nat := if c.1 then c.2.2 else ρ c.2.2
def oOf (c : Bool × Nat × Nat) : Int32 := if c.1 then -1 else nI c.2.2
def amt (v : Nat → Nat) (c : Bool × Nat × Nat) : Int32 := if c.1 then nI (v c.2.1) else nI (v c.2.1) - nI (v c.2.2)
def fS (n k : Nat) (v : Nat → Nat) (σ : Nat → Nat) : Nat := spr (hsum n v σ) k
def cOk (n k : Nat) (c : Bool × Nat × Nat) : Prop := c.2.1 < n ∧ (c.1 = true → c.2.2 < k) ∧ (c.1 = false → c.2.1 < c.2.2 ∧ c.2.2 < n)
theorem nI_ab {a b c : Nat} (h : a = b + c) : nI a - nI c = nI b := by
  rw [h, pk_sub (by omega)]
  congr 1
  omega
theorem J_n (n : Nat) : nI n = J n := (J_nat n).symm
theorem amt_ok {n k : Nat} {v ρ : Nat → Nat} {c : Bool × Nat × Nat} (hc : cOk n k c) (hne : ρ c.2.1 ≠ hOf ρ c) : nI (hsum n v ρ (ρ c.2.1)) - amt v c = nI (hsum n v (app ρ c) (ρ c.2.1)) ∧ nI (hsum n v ρ (hOf ρ c)) + amt v c = nI (hsum n v (app ρ c) (hOf ρ c)) ∧ ∀ h, h ≠ ρ c.2.1 → h ≠ hOf ρ c → hsum n v (app ρ c) h = hsum n v ρ h := by
  obtain ⟨b, i, j⟩ := c
  obtain ⟨h1, h2, h3⟩ := hc
  cases b with
  | true =>
    have hne : ρ i ≠ j := hne
    have m := hsum_mv (v := v) h1 hne
    show nI (hsum n v ρ (ρ i)) - nI (v i) = nI (hsum n v (up ρ i j) (ρ i)) ∧ nI (hsum n v ρ j) + nI (v i) = nI (hsum n v (up ρ i j) j) ∧ ∀ h, h ≠ ρ i → h ≠ j → hsum n v (up ρ i j) h = hsum n v ρ h
    exact ⟨nI_ab ((m (ρ i)).1 rfl), by rw [nI_add, ← (m j).2.1 rfl], fun h a b => (m h).2.2 a b⟩
  | false =>
    obtain ⟨g1, g2⟩ := h3 rfl
    have g1 : i < j := g1
    have h1 : i < n := h1
    have g2 : j < n := g2
    have hne : ρ i ≠ ρ j := hne
    have m := hsum_mv (v := v) h1 hne
    have ej : up ρ i (ρ j) j = ρ j := up_ne (by omega)
    have m2 := hsum_mv (n := n) (v := v) (ρ := up ρ i (ρ j)) (h0 := ρ i) g2 (by rw [ej]; exact fun q => hne q.symm)
    rw [ej] at m2
    show nI (hsum n v ρ (ρ i)) - (nI (v i) - nI (v j)) = nI (hsum n v (up (up ρ i (ρ j)) j (ρ i)) (ρ i)) ∧ nI (hsum n v ρ (ρ j)) + (nI (v i) - nI (v j)) = nI (hsum n v (up (up ρ i (ρ j)) j (ρ i)) (ρ j)) ∧ ∀ h, h ≠ ρ i → h ≠ ρ j → hsum n v (up (up ρ i (ρ j)) j (ρ i)) h = hsum n v ρ h
    refine ⟨?_, ?_, fun h a b => ?_⟩
    · have a1 := (m (ρ i)).1 rfl
      have a2 := (m2 (ρ i)).2.1 rfl
      simp only [J_n, J_sub]
      congr 1
      omega
    · have a1 := (m (ρ j)).2.1 rfl
      have a2 := (m2 (ρ j)).1 rfl
      simp only [J_n, J_sub, J_add]
      congr 1
      omega
    · rw [(m2 h).2.2 b a, (m h).2.2 a b]
theorem same_app {n k : Nat} {ρ : Nat → Nat} {c : Bool × Nat × Nat} (hc : cOk n k c) (he : ρ c.2.1 = hOf ρ c) : app ρ c = ρ := by
  obtain ⟨b, i, j⟩ := c
  cases b with
  | true =>
    have he : ρ i = j := he
    rw [← he]
    exact app_mv
  | false => exact app_ex he
def BR (ρ : Nat → Nat) (w : zI) (st : Bs) : Prop := w 76 4 = nI st.1 ∧ (st.2 = none → w 76 5 = -1) ∧ ∀ c, st.2 = some c → w 76 5 = nI c.2.1 ∧ w 76 6 = nI (hOf ρ c) ∧ w 76 7 = oOf c
def IC (n k : Nat) (v ρ : Nat → Nat) (iv0 w : zI) (st : Bs) : Prop := (w 76 3 = nI k ∧ w 76 1 = iv0 76 1) ∧ AR w 77 n ρ ∧ AR w 78 k (hsum n v ρ) ∧ BR ρ w st ∧ ∀ p, p ≠ 76 → p ≠ 77 → p ≠ 78 → w p = iv0 p
theorem x_shift {d a b : Nat} {x : Int32} {iv : zI} {rv : zR} {lv : zJ} (hT : zTop rv) (ha : a < 4) (hb : b < 4) (hab : a ≠ b) : Cv mX1_shift d [.ref 76, .int (nI a), .int (nI b), .int x] iv rv lv (zV (zu (zu iv 78 a (iv 78 a - x)) 78 b (iv 78 b + x)) rv lv) := by
  refine eX1_shift _ _ _ (bX1_shift_0 _ _ _ hT ?_)
  rw [nI_clamp (by omega), nI_clamp (by omega)]
  refine ⟨vp_in_nI ha (by decide), fun w1 e1 => ⟨vp_in_nI hb (by decide), fun w2 e2 => ?_⟩⟩
  have : w1 78 b = iv 78 b := by rw [e1, zu_k (fun q => hab q.symm)]
  rw [this] at e2
  exact ⟨by rw [e2, e1], rfl, rfl⟩
theorem x_consider {d n k : Nat} {v ρ : Nat → Nat} {iv0 : zI} {st : Bs} {c : Bool × Nat × Nat} {iv : zI} {rv : zR} {lv : zJ} (hT : zTop rv) (hn : n ≤ 10) (hk : 2 ≤ k) (hk4 : k ≤ 4) (hv : ∀ i, i < n → v i ≤ 9999) (hρ : ∀ i, i < n → ρ i < k) (hc : cOk n k c) (ok : BsOk (fS n k v) ρ n k st) (hI : IC n k v ρ iv0 iv st) :
    Cv mX1_consider (d + 3) [.ref 76, .int (nI c.2.1), .int (nI (hOf ρ c)), .int (oOf c), .int (amt v c)] iv rv lv (fun a b c' => b = rv ∧ c' = lv ∧ IC n k v ρ iv0 a (tr1 (fS n k v) ρ st c)) := by
  obtain ⟨⟨i1, i2⟩, i3, i4, i5, i6⟩ := hI
  have hb : ∀ σ h, hsum n v σ h < 2 ^ 31 := fun σ h => by have := hsum_le n v σ h hn hv; omega
  have hh : hOf ρ c < k := by
    unfold hOf
    obtain ⟨b, i, j⟩ := c
    cases b with
    | true => exact hc.2.1 rfl
    | false => exact hρ _ (hc.2.2 rfl).2
  have hi := hc.1
  have hri := hρ _ hi
  refine eX1_consider _ _ _ _ (bX1_consider_0 _ _ _ _ hT ?_)
  rw [nI_clamp (show c.2.1 < 2 ^ 31 by omega), i3 _ hi, nI_eq (by omega) (by omega)]
  refine ⟨vp_in_nI (by omega) (by decide), fun hne => ?_, fun he => ?_⟩
  · have hne : ρ c.2.1 ≠ hOf ρ c := fun q => hne q.symm
    obtain ⟨a1, a2, a3⟩ := amt_ok (v := v) hc hne
    refine zcallE (x_shift hT (by omega) (by omega) hne) hT ?_
    rw [i4 _ hri, i4 _ hh, a1, a2]
    have ar : AR (zu (zu iv 78 (ρ c.2.1) (nI (hsum n v (app ρ c) (ρ c.2.1)))) 78 (hOf ρ c) (nI (hsum n v (app ρ c) (hOf ρ c)))) 78 k (hsum n v (app ρ c)) := fun h hh2 => by
      by_cases q1 : h = hOf ρ c
      · rw [q1, zu_eq]
      · rw [zu_k q1]
        by_cases q2 : h = ρ c.2.1
        · rw [q2, zu_eq]
        · rw [zu_k q2, i4 h hh2, a3 h q2 q1]
    refine zcall (x_fspread hT (by rw [zu_row (by omega), zu_row (by omega)]; exact i1) (by omega) hk4 ar (fun h _ => hb _ h)) hT ?_
    rw [zu_row (show 77 ≠ 78 by omega), zu_row (show 77 ≠ 78 by omega), i3 _ hi]
    refine zcallE (x_shift hT (by omega) (by omega) (fun q => hne q.symm)) hT ?_
    rw [ar _ hh, ar _ hri, ← a1, ← a2, Int32.add_sub_cancel, Int32.sub_add_cancel]
    generalize ew : zu (zu (zu (zu iv 78 (ρ c.2.1) (nI (hsum n v ρ (ρ c.2.1)) - amt v c)) 78 (hOf ρ c) (nI (hsum n v ρ (hOf ρ c)) + amt v c)) 78 (hOf ρ c) (nI (hsum n v ρ (hOf ρ c)))) 78 (ρ c.2.1) (nI (hsum n v ρ (ρ c.2.1))) = w
    have r : ∀ p, p ≠ 78 → w p = iv p := fun p hp => by rw [← ew, zu_row hp, zu_row hp, zu_row hp, zu_row hp]
    have ar2 : AR w 78 k (hsum n v ρ) := fun h hh2 => by
      rw [← ew]
      by_cases q2 : h = ρ c.2.1
      · rw [q2, zu_eq]
      · rw [zu_k q2]
        by_cases q1 : h = hOf ρ c
        · rw [q1, zu_eq]
        · rw [zu_k q1, zu_k q1, zu_k q2, i4 h hh2]
    have sb : fS n k v (app ρ c) < 2 ^ 31 := by
      unfold fS spr
      have := mx_b (s := hsum n v (app ρ c)) (b := 99990) k (fun j _ => hsum_le n v _ j hn hv) (hsum_le n v _ 0 hn hv)
      omega
    have sb2 : st.1 < 2 ^ 31 := by
      have h0 := ok.1
      unfold fS spr at h0
      have := mx_b (s := hsum n v ρ) (b := 99990) k (fun j _ => hsum_le n v _ j hn hv) (hsum_le n v _ 0 hn hv)
      omega
    rw [r 76 (by omega), i5.1, show nI (spr (hsum n v (app ρ c)) k) = nI (fS n k v (app ρ c)) from rfl, nI_leI sb2 sb]
    refine ⟨fun q => ?_, fun q w1 e1 w2 e2 w3 e3 w4 e4 => ?_⟩
    · unfold tr1
      rw [if_neg (by omega)]
      refine ⟨rfl, rfl, ⟨by rw [r 76 (by omega)]; exact i1, by rw [r 76 (by omega)]; exact i2⟩, fun i hi => by rw [r 77 (by omega)]; exact i3 i hi, ar2, ?_, fun p p1 p2 p3 => by rw [r p p3]; exact i6 p p1 p2 p3⟩
      unfold BR
      rw [r 76 (by omega)]
      exact i5
    · unfold tr1
      rw [if_pos (by omega)]
      have k4 : ∀ b, b ≠ 4 → b ≠ 5 → b ≠ 6 → b ≠ 7 → w4 76 b = iv 76 b := fun b b1 b2 b3 b4 => by rw [e4, zu_k b4, e3, zu_k b3, e2, zu_k b2, e1, zu_k b1, r 76 (by omega)]
      have r4 : ∀ p, p ≠ 76 → w4 p = w p := fun p hp => by rw [e4, zu_row hp, e3, zu_row hp, e2, zu_row hp, e1, zu_row hp]
      refine ⟨rfl, rfl, ⟨by rw [k4 3 (by decide) (by decide) (by decide) (by decide)]; exact i1, by rw [k4 1 (by decide) (by decide) (by decide) (by decide)]; exact i2⟩, fun i hi => by rw [r4 77 (by omega), r 77 (by omega)]; exact i3 i hi, fun h hh => by rw [r4 78 (by omega)]; exact ar2 h hh, ⟨?_, fun q => (by cases q), fun c' q => ?_⟩, fun p p1 p2 p3 => by rw [r4 p p1, r p p3]; exact i6 p p1 p2 p3⟩
      · rw [e4, zu_k (by decide), e3, zu_k (by decide), e2, zu_k (by decide), e1, zu_eq]
      · have q : some c = some c' := q
        cases q
        exact ⟨by rw [e4, zu_k (by decide), e3, zu_k (by decide), e2, zu_eq], by rw [e4, zu_k (by decide), e3, zu_eq], by rw [e4, zu_eq]⟩
  · rw [tr1_same ok (same_app hc he.symm)]
    exact ⟨rfl, rfl, ⟨i1, i2⟩, i3, i4, i5, i6⟩
theorem x_tryMoves {d n k : Nat} {v ρ : Nat → Nat} {iv0 : zI} {iv : zI} {rv : zR} {lv : zJ} (hT : zTop rv) (hn : n ≤ 10) (hk : 2 ≤ k) (hk4 : k ≤ 4) (hv : ∀ i, i < n → v i ≤ 9999) (hρ : ∀ i, i < n → ρ i < k) (h8 : iv0 8 0 = nI n) (h9 : AR iv0 9 n v) (hI : IC n k v ρ iv0 iv (fS n k v ρ, none)) :
    Cv mX1_tryMoves (d + 4) [.ref 76, .ref 8] iv rv lv (fun a b c' => b = rv ∧ c' = lv ∧ IC n k v ρ iv0 a (mvI (fS n k v) ρ k n)) := by
  refine eX1_tryMoves 8 (bX1_tryMoves_0 8 hT (by decide) ?_)
  have key := zfor (c := n) (P := fun i => ∀ w : zI, IC n k v ρ iv0 w (mvI (fS n k v) ρ k i) → Zv mX1_tryMoves (d + 4) 2 [some (.ref 76), some (.ref 8), some (.int (nI i)), none] [] w rv lv (fun a b c' => b = rv ∧ c' = lv ∧ IC n k v ρ iv0 a (mvI (fS n k v) ρ k n))) ?_ ?_
  · exact key 0 (by omega) iv hI
  · intro w hI
    have c0 : w 8 0 = nI n := by rw [hI.2.2.2.2 8 (by omega) (by omega) (by omega)]; exact h8
    exact bX1_tryMoves_2 8 _ hT (by decide) ⟨fun _ => ⟨rfl, rfl, hI⟩, fun z => absurd (by rw [c0]; exact nI_le (by omega) (by omega)) z⟩
  · intro i hi ih w hI
    have c0 : w 8 0 = nI n := by rw [hI.2.2.2.2 8 (by omega) (by omega) (by omega)]; exact h8
    refine bX1_tryMoves_2 8 _ hT (by decide) ⟨fun z => ?_, fun _ => ?_⟩
    · rw [c0] at z
      exact absurd z (nI_ge hi (by omega))
    · have ok1 := mvI_ok (f := fS n k v) (ρ := ρ) (n := n) (k := k) i (by omega)
      have k2 := zfor (c := k) (P := fun h => ∀ w : zI, IC n k v ρ iv0 w (mvH (fS n k v) ρ (mvI (fS n k v) ρ k i) i h) → Zv mX1_tryMoves (d + 4) 12 [some (.ref 76), some (.ref 8), some (.int (nI i)), some (.int (nI h))] [] w rv lv (fun a b c' => b = rv ∧ c' = lv ∧ IC n k v ρ iv0 a (mvI (fS n k v) ρ k n))) ?_ ?_
      · exact k2 0 (by omega) w hI
      · intro w hI
        refine bX1_tryMoves_12 8 _ _ hT (by decide) ⟨fun _ => ?_, fun z => absurd (by rw [hI.1.1]; exact nI_le (by omega) (by omega)) z⟩
        rw [nI_1]
        exact ih w hI
      · intro h hh ih2 w hI
        refine bX1_tryMoves_12 8 _ _ hT (by decide) ⟨fun z => ?_, fun _ => ?_⟩
        · rw [hI.1.1] at z
          exact absurd z (nI_ge hh (by omega))
        · have c9 : w (8 + 1) i = nI (v i) := by rw [hI.2.2.2.2 (8 + 1) (by omega) (by omega) (by omega)]; exact h9 i hi
          rw [nI_clamp (show i < 2 ^ 31 by omega), c9, nI_1]
          refine ⟨vp_in_nI (by omega) (by decide), zcallV (x_consider (c := (true, i, h)) hT hn hk hk4 hv hρ ⟨hi, fun _ => hh, fun q => (by cases q)⟩ (mvH_ok ok1 hi h (by omega)) hI) ?_⟩
          rintro a _ _ ⟨rfl, rfl, hI2⟩
          exact ⟨hT, ih2 a hI2⟩
theorem x_tryEx {d n k : Nat} {v ρ : Nat → Nat} {iv0 : zI} {iv : zI} {rv : zR} {lv : zJ} (hT : zTop rv) (hn : n ≤ 10) (hk : 2 ≤ k) (hk4 : k ≤ 4) (hv : ∀ i, i < n → v i ≤ 9999) (hρ : ∀ i, i < n → ρ i < k) (h8 : iv0 8 0 = nI n) (h9 : AR iv0 9 n v) (hI : IC n k v ρ iv0 iv (mvI (fS n k v) ρ k n)) :
    Cv mX1_tryExchanges (d + 4) [.ref 76, .ref 8] iv rv lv (fun a b c' => b = rv ∧ c' = lv ∧ IC n k v ρ iv0 a (exI (fS n k v) ρ n k n)) := by
  refine eX1_tryExchanges 8 (bX1_tryExchanges_0 8 hT (by decide) ?_)
  have key := zfor (c := n) (P := fun i => ∀ w : zI, IC n k v ρ iv0 w (exI (fS n k v) ρ n k i) → Zv mX1_tryExchanges (d + 4) 2 [some (.ref 76), some (.ref 8), some (.int (nI i)), none] [] w rv lv (fun a b c' => b = rv ∧ c' = lv ∧ IC n k v ρ iv0 a (exI (fS n k v) ρ n k n))) ?_ ?_
  · exact key 0 (by omega) iv hI
  · intro w hI
    have c0 : w 8 0 = nI n := by rw [hI.2.2.2.2 8 (by omega) (by omega) (by omega)]; exact h8
    exact bX1_tryExchanges_2 8 _ hT (by decide) ⟨fun _ => ⟨rfl, rfl, hI⟩, fun z => absurd (by rw [c0]; exact nI_le (by omega) (by omega)) z⟩
  · intro i hi ih w hI
    have c0 : w 8 0 = nI n := by rw [hI.2.2.2.2 8 (by omega) (by omega) (by omega)]; exact h8
    refine bX1_tryExchanges_2 8 _ hT (by decide) ⟨fun z => ?_, fun _ => ?_⟩
    · rw [c0] at z
      exact absurd z (nI_ge hi (by omega))
    · have ok1 := exI_ok (f := fS n k v) (ρ := ρ) (n := n) (k := k) i (by omega)
      have k2 := zfor (c := n - (i + 1)) (P := fun m => ∀ w : zI, IC n k v ρ iv0 w (exJ (fS n k v) ρ (exI (fS n k v) ρ n k i) i m) → Zv mX1_tryExchanges (d + 4) 14 [some (.ref 76), some (.ref 8), some (.int (nI i)), some (.int (nI (i + 1 + m)))] [] w rv lv (fun a b c' => b = rv ∧ c' = lv ∧ IC n k v ρ iv0 a (exI (fS n k v) ρ n k n))) ?_ ?_
      · rw [nI_1]
        exact k2 0 (by omega) w hI
      · intro w hI
        have c0 : w 8 0 = nI n := by rw [hI.2.2.2.2 8 (by omega) (by omega) (by omega)]; exact h8
        refine bX1_tryExchanges_14 8 _ _ hT (by decide) ⟨fun _ => ?_, fun z => absurd (by rw [c0]; exact nI_le (by omega) (by omega)) z⟩
        rw [nI_1]
        exact ih w hI
      · intro m hm ih2 w hI
        have c0 : w 8 0 = nI n := by rw [hI.2.2.2.2 8 (by omega) (by omega) (by omega)]; exact h8
        refine bX1_tryExchanges_14 8 _ _ hT (by decide) ⟨fun z => ?_, fun _ => ?_⟩
        · rw [c0] at z
          exact absurd z (nI_ge (by omega) (by omega))
        · have c9 : ∀ q, q < n → w (8 + 1) q = nI (v q) := fun q hq => by rw [hI.2.2.2.2 (8 + 1) (by omega) (by omega) (by omega)]; exact h9 q hq
          rw [nI_clamp (show i < 2 ^ 31 by omega), nI_clamp (show i + 1 + m < 2 ^ 31 by omega), c9 i hi, c9 _ (show i + 1 + m < n by omega), hI.2.1 _ (show i + 1 + m < n by omega), nI_1]
          refine ⟨vp_in_nI (by omega) (by decide), vp_in_nI (by omega) (by decide), zcallV (x_consider (c := (false, i, i + 1 + m)) hT hn hk hk4 hv hρ ⟨hi, fun q => (by cases q), fun _ => ⟨by show i < i + 1 + m; omega, by show i + 1 + m < n; omega⟩⟩ (exJ_ok ok1 hi m (by omega)) hI) ?_⟩
          rintro a _ _ ⟨rfl, rfl, hI2⟩
          exact ⟨hT, ih2 a hI2⟩
/-- the row that the class holds, with its sums -/
def RC (n k : Nat) (v ρ : Nat → Nat) (iv0 w : zI) : Prop := w 76 3 = nI k ∧ AR w 77 n ρ ∧ AR w 78 k (hsum n v ρ) ∧ ∀ p, p ≠ 76 → p ≠ 77 → p ≠ 78 → w p = iv0 p
theorem x_makeBest {d n k : Nat} {v ρ : Nat → Nat} {iv0 : zI} {b0 : Nat} {c : Bool × Nat × Nat} {iv : zI} {rv : zR} {lv : zJ} (hT : zTop rv) (hn : n ≤ 10) (hk : 2 ≤ k) (hk4 : k ≤ 4) (hρ : ∀ i, i < n → ρ i < k) (h9 : AR iv0 9 n v) (hc : cOk n k c) (hne : ρ c.2.1 ≠ hOf ρ c) (hI : IC n k v ρ iv0 iv (b0, some c)) :
    Cv mX1_makeBest (d + 1) [.ref 76, .ref 8] iv rv lv (fun a b c' => b = rv ∧ c' = lv ∧ a 76 1 = iv 76 1 ∧ RC n k v (app ρ c) iv0 a) := by
  obtain ⟨⟨i1, i2⟩, i3, i4, ⟨-, -, i5⟩, i6⟩ := hI
  obtain ⟨j1, j2, j3⟩ := i5 c rfl
  have hh : hOf ρ c < k := by
    unfold hOf
    obtain ⟨b, i, j⟩ := c
    cases b with
    | true => exact hc.2.1 rfl
    | false => exact hρ _ (hc.2.2 rfl).2
  have hi := hc.1
  have hri := hρ _ hi
  have c9 : ∀ q, q < n → iv (8 + 1) q = nI (v q) := fun q hq => by rw [i6 (8 + 1) (by omega) (by omega) (by omega)]; exact h9 q hq
  refine eX1_makeBest 8 (bX1_makeBest_0 8 hT (by decide) ?_)
  rw [j1, j2, nI_clamp (show c.2.1 < 2 ^ 31 by omega), i3 _ hi, c9 _ hi]
  refine ⟨vp_in_nI (by omega) (by decide), zcallE (x_shift hT (by omega) (by omega) hne) hT ?_⟩
  have m := hsum_mv (n := n) (v := v) (ρ := ρ) (h0 := hOf ρ c) hi hne
  rw [i4 _ hri, i4 _ hh, nI_ab ((m (ρ c.2.1)).1 rfl), nI_add, ← (m (hOf ρ c)).2.1 rfl]
  generalize ew : zu (zu iv 78 (ρ c.2.1) (nI (hsum n v (up ρ c.2.1 (hOf ρ c)) (ρ c.2.1)))) 78 (hOf ρ c) (nI (hsum n v (up ρ c.2.1 (hOf ρ c)) (hOf ρ c))) = w
  have r : ∀ p, p ≠ 78 → w p = iv p := fun p hp => by rw [← ew, zu_row hp, zu_row hp]
  have ar : AR w 78 k (hsum n v (up ρ c.2.1 (hOf ρ c))) := fun h hh2 => by
    rw [← ew]
    by_cases q1 : h = hOf ρ c
    · rw [q1, zu_eq]
    · rw [zu_k q1]
      by_cases q2 : h = ρ c.2.1
      · rw [q2, zu_eq]
      · rw [zu_k q2, i4 h hh2, (m h).2.2 q2 q1]
  rw [r 76 (by omega), j1, j2, nI_clamp (show c.2.1 < 2 ^ 31 by omega)]
  refine ⟨vp_in_nI (by omega) (by decide), fun w1 e1 => ?_⟩
  have r1 : ∀ p, p ≠ 77 → w1 p = w p := fun p hp => by rw [e1, zu_row hp]
  have ro : AR w1 77 n (up ρ c.2.1 (hOf ρ c)) := fun i hi2 => by
    rw [e1]
    by_cases q : i = c.2.1
    · rw [q, zu_eq, up_eq]
    · rw [zu_k q, up_ne q, r 77 (by omega)]; exact i3 i hi2
  rw [r1 76 (by omega), r 76 (by omega), j2, j3]
  obtain ⟨b, i, j⟩ := c
  cases b with
  | true => exact ⟨fun _ => ⟨rfl, rfl, rfl, by rw [r1 76 (by omega), r 76 (by omega)]; exact i1, ro, fun h hh => by rw [r1 78 (by omega)]; exact ar h hh, fun p p1 p2 p3 => by rw [r1 p p2, r p p3]; exact i6 p p1 p2 p3⟩, fun q => absurd rfl q⟩
  | false =>
    obtain ⟨g1, g2⟩ := hc.2.2 rfl
    have g1 : i < j := g1
    have g2 : j < n := g2
    have hi : i < n := hi
    have hri : ρ i < k := hri
    have hrj := hρ j g2
    have hne : ρ i ≠ ρ j := hne
    have nj : ¬ nI j = -1 := fun q => by
      have : nI j < 0 := by rw [q]; decide
      exact absurd this (nI_pos (by omega))
    refine ⟨fun q => absurd q nj, fun _ => ?_⟩
    show vp_in (nI j) 10 ∧ _
    have v9 : w1 (8 + 1) j = nI (v j) := by rw [r1 (8 + 1) (by omega), r (8 + 1) (by omega)]; exact c9 j g2
    rw [show oOf (false, i, j) = nI j from rfl, show hOf ρ (false, i, j) = ρ j from rfl, nI_clamp (show j < 2 ^ 31 by omega), v9]
    refine ⟨vp_in_nI (by omega) (by decide), zcallE (x_shift hT (by omega) (by omega) (fun q => hne q.symm)) hT ?_⟩
    have ej : up ρ i (ρ j) j = ρ j := up_ne (by omega)
    have m2 := hsum_mv (n := n) (v := v) (ρ := up ρ i (ρ j)) (h0 := ρ i) g2 (by rw [ej]; exact fun q => hne q.symm)
    rw [ej] at m2
    have ar : AR w 78 k (hsum n v (up ρ i (ρ j))) := ar
    have ro : AR w1 77 n (up ρ i (ρ j)) := ro
    rw [r1 78 (by omega), ar _ hrj, ar _ hri, nI_ab ((m2 (ρ j)).1 rfl), nI_add, ← (m2 (ρ i)).2.1 rfl]
    generalize ew2 : zu (zu w1 78 (ρ j) (nI (hsum n v (up (up ρ i (ρ j)) j (ρ i)) (ρ j)))) 78 (ρ i) (nI (hsum n v (up (up ρ i (ρ j)) j (ρ i)) (ρ i))) = w2
    have r2 : ∀ p, p ≠ 78 → w2 p = w1 p := fun p hp => by rw [← ew2, zu_row hp, zu_row hp]
    have j76 : w2 76 7 = nI j := by rw [r2 76 (by omega), r1 76 (by omega), r 76 (by omega)]; exact j3
    rw [j76, nI_clamp (show j < 2 ^ 31 by omega)]
    refine ⟨vp_in_nI (by omega) (by decide), fun w3 e3 => ⟨rfl, rfl, ?_, ?_, fun q hq => ?_, fun h hh => ?_, fun p p1 p2 p3 => ?_⟩⟩
    · rw [e3, zu_row (by omega), r2 76 (by omega), r1 76 (by omega), r 76 (by omega)]
    · rw [e3, zu_row (by omega), r2 76 (by omega), r1 76 (by omega), r 76 (by omega)]; exact i1
    · show w3 77 q = nI (up (up ρ i (ρ j)) j (ρ i) q)
      rw [e3]
      by_cases z : q = j
      · rw [z, zu_eq, up_eq]
      · rw [zu_k z, up_ne z, r2 77 (by omega)]; exact ro q hq
    · show w3 78 h = nI (hsum n v (up (up ρ i (ρ j)) j (ρ i)) h)
      rw [e3, zu_row (by omega), ← ew2]
      by_cases q2 : h = ρ i
      · rw [q2, zu_eq]
      · rw [zu_k q2]
        by_cases q1 : h = ρ j
        · rw [q1, zu_eq]
        · rw [zu_k q1, r1 78 (by omega), ar h hh, (m2 h).2.2 q1 q2]
    · rw [e3, zu_row p2, r2 p p3, r1 p p2, r p p3]; exact i6 p p1 p2 p3
theorem fS_b {n k : Nat} {v : Nat → Nat} (hn : n ≤ 10) (hv : ∀ i, i < n → v i ≤ 9999) (σ : Nat → Nat) : fS n k v σ < 100000 := by
  unfold fS spr
  have := mx_b (s := hsum n v σ) (b := 99990) k (fun j _ => hsum_le n v _ j hn hv) (hsum_le n v _ 0 hn hv)
  omega
theorem x_imp13 {d n k : Nat} {v : Nat → Nat} {iv0 : zI} {rv : zR} {lv : zJ} (hT : zTop rv) (hn : n ≤ 10) (hk : 2 ≤ k) (hk4 : k ≤ 4) (hv : ∀ i, i < n → v i ≤ 9999) (h8 : iv0 8 0 = nI n) (h9 : AR iv0 9 n v) :
    ∀ (F : Nat) (ρ : Nat → Nat), (∀ i, i < n → ρ i < k) → fS n k v ρ < F → ∀ (x c0 : Nat), x + F ≤ 100000 → ∀ w : zI, w 76 1 = nI c0 → RC n k v ρ iv0 w → Zv mX1_improve (d + 5) 13 [some (.ref 76), some (.ref 8), some (.int (nI k)), some (.int (nI x))] [] w rv lv (fun a b c' => b = rv ∧ c' = lv ∧ a 76 1 = nI (c0 + (cl (fS n k v) n k F ρ).1) ∧ RC n k v (cl (fS n k v) n k F ρ).2 iv0 a)
  | 0, ρ, _, hF, _, _, _, _, _, _ => absurd hF (Nat.not_lt_zero _)
  | F + 1, ρ, hρ, hF, x, c0, hx, w, hc0, hR => by
    obtain ⟨r1, r2, r3, r4⟩ := hR
    refine bX1_improve_13 8 _ _ hT (by decide) ⟨fun z => absurd z (show ¬ nI 1000000 ≤ nI x from nI_ge (by omega) (by omega)), fun _ => ?_⟩
    refine zcall (x_fspread hT r1 (by omega) hk4 r3 (fun h _ => by have := hsum_le n v ρ h hn hv; omega)) hT ?_
    intro w1 e1 w2 e2
    have k2 : ∀ b, b ≠ 4 → b ≠ 5 → w2 76 b = w 76 b := fun b b1 b2 => by rw [e2, zu_k b2, e1, zu_k b1]
    have rr : ∀ p, p ≠ 76 → w2 p = w p := fun p hp => by rw [e2, zu_row hp, e1, zu_row hp]
    have hI : IC n k v ρ (zu iv0 76 1 (nI c0)) w2 (fS n k v ρ, none) := by
      refine ⟨⟨by rw [k2 3 (by decide) (by decide)]; exact r1, by rw [k2 1 (by decide) (by decide), zu_eq]; exact hc0⟩, fun i hi => by rw [rr 77 (by omega)]; exact r2 i hi, fun h hh => by rw [rr 78 (by omega)]; exact r3 h hh, ⟨?_, fun _ => by rw [e2, zu_eq], fun c q => (by cases q)⟩, fun p p1 p2 p3 => by rw [rr p p1, zu_row p1]; exact r4 p p1 p2 p3⟩
      rw [e2, zu_k (by decide), e1, zu_eq]
      rfl
    have h8' : (zu iv0 76 1 (nI c0)) 8 0 = nI n := by rw [zu_row (by omega)]; exact h8
    have h9' : AR (zu iv0 76 1 (nI c0)) 9 n v := fun i hi => by rw [zu_row (by omega)]; exact h9 i hi
    refine zcallV (x_tryMoves hT hn hk hk4 hv hρ h8' h9' hI) ?_
    rintro w3 rv3 lv3 ⟨q1, q2, hI3⟩
    have q1 := q1.symm
    have q2 := q2.symm
    subst q1 q2
    refine ⟨hT, zcallV (x_tryEx hT hn hk hk4 hv hρ h8' h9' hI3) ?_⟩
    rintro w4 rv4 lv4 ⟨q1, q2, hI4⟩
    have q1 := q1.symm
    have q2 := q2.symm
    subst q1 q2
    refine ⟨hT, ?_⟩
    have ok := exI_ok (f := fS n k v) (ρ := ρ) (n := n) (k := k) n (Nat.le_refl _)
    have br := hI4.2.2.2.1
    rw [cl]
    cases e : (exI (fS n k v) ρ n k n).2 with
    | none =>
      have m1 := br.2.1 e
      refine ⟨fun q => absurd m1 q, fun _ => ⟨rfl, rfl, ?_, hI4.1.1, hI4.2.1, hI4.2.2.1, fun p p1 p2 p3 => by rw [hI4.2.2.2.2 p p1 p2 p3, zu_row p1]⟩⟩
      rw [hI4.1.2, zu_eq]
      rfl
    | some c =>
      obtain ⟨o1, o2, o3, o4, o5⟩ := ok.2 c e
      obtain ⟨m1, -, -⟩ := br.2.2 c e
      have hne : ρ c.2.1 ≠ hOf ρ c := fun q => by
        rw [same_app (n := n) (k := k) ⟨o3, o4, o5⟩ q] at o2
        omega
      refine ⟨fun _ => ?_, fun q => ?_⟩
      · have hI5 : IC n k v ρ (zu iv0 76 1 (nI c0)) w4 ((exI (fS n k v) ρ n k n).1, some c) := by
          rw [← e]
          exact hI4
        refine zcallV (x_makeBest hT hn hk hk4 hρ h9' ⟨o3, o4, o5⟩ hne hI5) ?_
        rintro w5 rv5 lv5 ⟨q1, q2, s1, s2⟩
        have q1 := q1.symm
        have q2 := q2.symm
        subst q1 q2
        refine ⟨hT, fun w6 e6 => ?_⟩
        have s0 : w5 76 1 = nI c0 := by rw [s1, hI4.1.2, zu_eq]
        rw [s0, nI_1] at e6
        rw [nI_1]
        have := x_imp13 (d := d) (lv := lv) hT hn hk hk4 hv h8 h9 F (app ρ c) (app_lt hρ o3 o4 o5) (by omega) (x + 1) (c0 + 1) (by omega) w6 (by rw [e6, zu_eq]) ⟨by rw [e6, zu_k (by decide)]; exact s2.1, fun i hi => by rw [e6, zu_row (by omega)]; exact s2.2.1 i hi, fun h hh => by rw [e6, zu_row (by omega)]; exact s2.2.2.1 h hh, fun p p1 p2 p3 => by rw [e6, zu_row p1, s2.2.2.2 p p1 p2 p3, zu_row p1]⟩
        simp only [show c0 + ((cl (fS n k v) n k F (app ρ c)).1 + 1) = c0 + 1 + (cl (fS n k v) n k F (app ρ c)).1 by omega]
        exact this
      · rw [m1] at q
        have : nI c.2.1 < 0 := by rw [q]; decide
        exact absurd this (nI_pos (by omega))
def clS (s : Sn) (k : Nat) : Nat × (Nat → Nat) := cl (fS s.1 k s.2.2.1) s.1 k 100000 (gr s.1 k s.2.2.1)
theorem x_improve {d k : Nat} {s : Sn} {iv : zI} {rv : zR} {lv : zJ} (hT : zTop rv) (cs : CS iv 8 s) (h12 : ∀ j, j < s.1 → iv 12 j = nI (un s.1 s.2.2.1 j)) (vs : VS s) (hk : 2 ≤ k) (hk4 : k ≤ 4) :
    Cv mX1_improve (d + 5) [.ref 76, .ref 8, .int (nI k)] iv rv lv (fun a b c => b = rv ∧ c = lv ∧ a 76 1 = nI (clS s k).1 ∧ RC s.1 k s.2.2.1 (clS s k).2 iv a) := by
  have vv : ∀ i, i < s.1 → s.2.2.1 i ≤ 9999 := fun i hi => (vs.2.2.1 i hi).2
  refine eX1_improve 8 _ (bX1_improve_0 8 _ hT (by decide) (zcallV (x_fill hT cs h12 vs hk hk4) ?_))
  rintro w rv1 lv1 ⟨q1, q2, g1, g2, g3, g4⟩
  have q1 := q1.symm
  have q2 := q2.symm
  subst q1 q2
  refine ⟨hT, fun w1 e1 => ?_⟩
  have := x_imp13 (d := d) (iv0 := iv) (lv := lv) hT vs.1.2 hk hk4 vv cs.1 cs.2.2.1 100000 (gr s.1 k s.2.2.1) (fun i _ => fl_lt (by omega) _ i) (fS_b vs.1.2 vv _) 0 0 (by omega) w1 (by rw [e1, zu_eq]; rfl) ⟨by rw [e1, zu_k (by decide)]; exact g1, fun i hi => by rw [e1, zu_row (by omega)]; exact g2 i hi, fun h hh => by rw [e1, zu_row (by omega)]; exact g3 h (by omega), fun p p1 p2 p3 => by rw [e1, zu_row p1]; exact g4 p p1 p2 p3⟩
  rw [Nat.zero_add] at this
  exact this
def F_climb (S : St) (k w : Int32) : Int32 × St := match S.2.1 with
  | none => rf S 1
  | some s => if w < 0 ∨ 1 < w then rf S 1 else if k < 2 ∨ 4 < k then rf S 2 else ok S (if w = 0 then nI (fS s.1 k.toNatClampNeg s.2.2.1 (clS s k.toNatClampNeg).2) else nI (clS s k.toNatClampNeg).1)
def F_climbOf (S : St) (k x : Int32) : Int32 × St := match nOf S x with
  | none => rf S 1
  | some (s, i) => if k < 2 ∨ 4 < k then rf S 2 else ok S (nI ((clS s k.toNatClampNeg).2 i))
theorem x_climb {d : Nat} {S : St} {k w : Int32} {iv : zI} {rv : zR} {lv : zJ} (hT : zTop rv) (h : CB S iv) (hv : VT S) : Ci mX10_climb (d + 9) [.ref 0, .int k, .int w] iv rv lv (XG (F_climb S k w).2 (F_climb S k w).1 iv rv lv) := by
  refine eX10_climb k w (bX10_climb_0 k w hT (zcall (x_noText hT) hT ?_))
  rw [h.nt hv]
  have hn := h.2.1
  have r1 : ∀ b : Bool, Ci mX10_refused (d + 8) [.ref 0, .int 1, .int (bI b)] iv rv lv (zP 1 (zu (zu iv 0 12 1) 0 14 (-1)) rv lv) := fun b => x_refused (a := true) (b := b) hT
  unfold F_climb
  cases e : S.2.1 with
  | none =>
    refine ⟨fun _ => bX10_climb_20 _ _ _ hT (zcall (x_noSuchHeaps hT) hT (zcall (r1 _) hT ⟨fun q => absurd q (by decide), fun _ => XG.ans (t := 1) rfl h FL.refl⟩)), fun q => absurd (show (1 : Int32) = 0 from q) (by decide)⟩
  | some s =>
    rw [e] at hn
    obtain ⟨cs, c12⟩ := hn
    have vs := hv.2.1 s e
    refine ⟨fun q => absurd rfl q, fun _ => zcall (x_not01 hT) hT ?_⟩
    by_cases hw : w < 0 ∨ 1 < w
    · simp only [hw, decide_true, if_true]
      exact ⟨fun q => absurd (show (1 : Int32) = 0 from q) (by decide), fun _ => bX10_climb_20 _ _ _ hT (zcall (x_noSuchHeaps hT) hT (zcall (r1 _) hT ⟨fun q => absurd q (by decide), fun _ => XG.ans (t := 1) rfl h FL.refl⟩))⟩
    · simp only [hw, decide_false, if_false]
      refine ⟨fun _ => bX10_climb_20 _ _ _ hT (zcall (x_noSuchHeaps hT) hT ?_), fun q => absurd rfl q⟩
      by_cases hx : k < 2 ∨ 4 < k
      · simp only [hx, decide_true, if_true]
        exact zcall (x_refused (a := false) (b := true) hT) hT ⟨fun q => absurd (show (1 : Int32) = 0 from q) (by decide), fun _ => XG.ans (t := 2) rfl h FL.refl⟩
      · simp only [hx, decide_false, if_false]
        obtain ⟨j, j1, j2, rfl⟩ := of_k hx
        refine zcall (x_refused (a := false) (b := false) hT) hT ⟨fun _ => ?_, fun q => absurd rfl q⟩
        rw [nI_clamp (by omega)]
        refine zcallV (x_improve hT cs c12 vs j1 j2) ?_
        rintro a _ _ ⟨rfl, rfl, g0, g1, g2, g3, g4⟩
        have fl : FL iv a := fun p hp => g4 p (by omega) (by omega) (by omega)
        refine ⟨hT, fun q => ?_, fun q => ?_⟩
        · rw [if_neg q]
          exact zcall (x_answer hT) hT (XG.ans (t := 0) g0 h fl)
        · rw [if_pos q]
          exact zcall (x_fspread hT g1 (by omega) j2 g3 (fun g _ => vs.hb _ g)) hT (zcall (x_answer hT) hT (XG.ans (t := 0) rfl h fl))
theorem x_climbOf {d : Nat} {S : St} {k x : Int32} {iv : zI} {rv : zR} {lv : zJ} (hT : zTop rv) (h : CB S iv) (hv : VT S) : Ci mX10_climbOf (d + 9) [.ref 0, .int k, .int x] iv rv lv (XG (F_climbOf S k x).2 (F_climbOf S k x).1 iv rv lv) := by
  refine eX10_climbOf k x (bX10_climbOf_0 k x hT (zcall (x_noNumber hT) hT (zcall (x_noSuchHeaps hT) hT ?_)))
  have hn := h.2.1
  unfold F_climbOf
  rcases nOf_cases S x hv with ⟨hn, hx⟩ | ⟨s, i, hn2, es, hi, rfl⟩
  · rw [hn, h.nn0 hx]
    exact zcall (x_refused (a := true) hT) hT ⟨fun q => absurd (show (1 : Int32) = 0 from q) (by decide), fun _ => XG.ans (t := 1) rfl h FL.refl⟩
  · rw [hn2, h.nn1 hv es hi]
    rw [es] at hn
    obtain ⟨cs, c12⟩ := hn
    have vs := hv.2.1 s es
    have vn := vs.1
    simp only
    by_cases hx : k < 2 ∨ 4 < k
    · simp only [hx, decide_true, if_true]
      exact zcall (x_refused (a := false) (b := true) hT) hT ⟨fun q => absurd (show (1 : Int32) = 0 from q) (by decide), fun _ => XG.ans (t := 2) rfl h FL.refl⟩
    · simp only [hx, decide_false, if_false]
      obtain ⟨j, j1, j2, rfl⟩ := of_k hx
      refine zcall (x_refused (a := false) (b := false) hT) hT ⟨fun _ => ?_, fun q => absurd rfl q⟩
      rw [nI_clamp (show j < 2 ^ 31 by omega)]
      refine zcallV (x_improve hT cs c12 vs j1 j2) ?_
      rintro a _ _ ⟨rfl, rfl, g0, g1, g2, g3, g4⟩
      rw [nI_clamp (show i < 2 ^ 31 by omega)]
      exact ⟨hT, vp_in_nI (by omega) (by decide), zcall (x_answer hT) hT (XG.ans (t := 0) (g2 i hi) h (fun p hp => g4 p (by omega) (by omega) (by omega)))⟩
