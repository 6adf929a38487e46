/-! THE LAW'S LOOP. -/
theorem jthen {M1 M2 : zM} {d : Nat} {as1 as2 : List Value} {iv : zI} {rv : zR} {lv : zJ} {J : zI → zR → Prop} {P : zI → zR → zJ → Prop} (h : ∃ Q1 : Int32 → zI → zR → zJ → Prop, Ci M1 d as1 iv rv lv Q1 ∧ ∀ v a b c, Q1 v a b c → ∃ Q2 : Int32 → zI → zR → zJ → Prop, Ci M2 d as2 a b c Q2 ∧ ∀ w a2 b2 c2, Q2 w a2 b2 c2 → v = w ∧ J a2 b2) (hp : ∀ a b c, J a b → P a b c) : ∃ Q1 : Int32 → zI → zR → zJ → Prop, Ci M1 d as1 iv rv lv Q1 ∧ ∀ v a b c, Q1 v a b c → ∃ Q2 : Int32 → zI → zR → zJ → Prop, Ci M2 d as2 a b c Q2 ∧ ∀ w a2 b2 c2, Q2 w a2 b2 c2 → v = w ∧ P a2 b2 c2 := by
  obtain ⟨Q1, h1, h2⟩ := h
  refine ⟨Q1, h1, fun v a b c q => ?_⟩
  obtain ⟨Q2, h3, h4⟩ := h2 v a b c q
  exact ⟨Q2, h3, fun w a2 b2 c2 q2 => ⟨(h4 w a2 b2 c2 q2).1, hp _ _ _ (h4 w a2 b2 c2 q2).2⟩⟩
def lQ : zQ := fun r _ _ _ => r = some (.int 1)
theorem lloop {b L : Nat} {xs : Nat → Int32} (hL : L ≤ 3072) : ∀ (r i t x : Nat) (iv : zI) (rv : zR) (lv : zJ), L ≤ i + 6 * r + 5 → t + r ≤ 4096 → r ≤ x → i ≤ 3072 → JK t iv rv → Z mLw (40 + 1, 0, 200, x, zKl b L xs) 23 [some (.ref 2000000), some (.ref 0), some (.ref 174), some (.ref 199), some (.int (nI i)), none, none] [] 200 iv rv lv lQ := by
  intro r
  induction r with
  | zero =>
    intro i t x iv rv lv h1 h2 h3 h4 hJ
    exact lhead hL (fun _ => rfl) (fun z => absurd z (by omega)) (fun z => absurd z (by omega)) h4
  | succ r ih =>
    intro i t x iv rv lv h1 h2 h3 h4 hJ
    have ht : t < 2 ^ 31 := by omega
    have hp : i + 6 ≤ L → ∀ (y : Nat) (a : zI) (b2 : zR) (c : zJ), r ≤ y → JK (t + 1) a b2 → Z mLw (40 + 1, 0, 200, y, zKl b L xs) 1401 [some (.ref 2000000), some (.ref 0), some (.ref 174), some (.ref 199), some (.int (nI i)), none, none] [] 200 a b2 c lQ := fun hi y a b2 c hy hj => ltail (ih (i + 6) (t + 1) y a b2 c (by omega) (by omega) hy (by omega) hj)
    refine lhead hL (fun _ => rfl) (fun hi c hc => ?_) (fun hi => ?_) h4
    · match c, hc with
      | 0, _ => exact lc0 hi hL (jthen (Jb_feed hJ ht) (fun a b2 c hj => hp hi x a b2 c (by omega) hj))
      | 1, _ => exact lc1 hi hL (jthen (Jb_text hJ ht) (fun a b2 c hj => hp hi x a b2 c (by omega) hj))
      | 2, _ => exact lc2 hi hL (jthen (Jb_fault hJ ht) (fun a b2 c hj => hp hi x a b2 c (by omega) hj))
      | 3, _ => exact lc3 hi hL (jthen (Jb_where hJ ht) (fun a b2 c hj => hp hi x a b2 c (by omega) hj))
      | 4, _ => exact lc4 hi hL (jthen (Jb_about hJ ht) (fun a b2 c hj => hp hi x a b2 c (by omega) hj))
      | 5, _ => exact lc5 hi hL (jthen (Jb_number hJ ht) (fun a b2 c hj => hp hi x a b2 c (by omega) hj))
      | 6, _ => exact lc6 hi hL (jthen (Jb_sized hJ ht) (fun a b2 c hj => hp hi x a b2 c (by omega) hj))
      | 7, _ => exact lc7 hi hL (jthen (Jb_greedy hJ ht) (fun a b2 c hj => hp hi x a b2 c (by omega) hj))
      | 8, _ => exact lc8 hi hL (jthen (Jb_greedyOf hJ ht) (fun a b2 c hj => hp hi x a b2 c (by omega) hj))
      | 9, _ => exact lc9 hi hL (jthen (Jb_difference hJ ht) (fun a b2 c hj => hp hi x a b2 c (by omega) hj))
      | 10, _ => exact lc10 hi hL (jthen (Jb_differenceOf hJ ht) (fun a b2 c hj => hp hi x a b2 c (by omega) hj))
      | 11, _ => exact lc11 hi hL (jthen (Jb_step hJ ht) (fun a b2 c hj => hp hi x a b2 c (by omega) hj))
      | 12, _ => exact lc12 hi hL (jthen (Jb_multi hJ ht) (fun a b2 c hj => hp hi x a b2 c (by omega) hj))
      | 13, _ => exact lc13 hi hL (jthen (Jb_multiOf hJ ht) (fun a b2 c hj => hp hi x a b2 c (by omega) hj))
      | 14, _ => exact lc14 hi hL (jthen (Jb_search hJ ht) (fun a b2 c hj => hp hi x a b2 c (by omega) hj))
      | 15, _ => exact lc15 hi hL (jthen (Jb_find hJ ht) (fun a b2 c hj => hp hi x a b2 c (by omega) hj))
      | 16, _ => exact lc16 hi hL (jthen (Jb_searchOf hJ ht) (fun a b2 c hj => hp hi x a b2 c (by omega) hj))
      | 17, _ => exact lc17 hi hL (jthen (Jb_bound hJ ht) (fun a b2 c hj => hp hi x a b2 c (by omega) hj))
      | 18, _ => exact lc18 hi hL (jthen (Jb_least hJ ht) (fun a b2 c hj => hp hi x a b2 c (by omega) hj))
      | 19, _ => exact lc19 hi hL (jthen (Jb_leastOf hJ ht) (fun a b2 c hj => hp hi x a b2 c (by omega) hj))
      | 20, _ => exact lc20 hi hL (jthen (Jb_flat hJ ht) (fun a b2 c hj => hp hi x a b2 c (by omega) hj))
      | 21, _ => exact lc21 hi hL (jthen (Jb_rows hJ ht) (fun a b2 c hj => hp hi x a b2 c (by omega) hj))
      | 22, _ => exact lc22 hi hL (jthen (Jb_climb hJ ht) (fun a b2 c hj => hp hi x a b2 c (by omega) hj))
      | 23, _ => exact lc23 hi hL (jthen (Jb_climbOf hJ ht) (fun a b2 c hj => hp hi x a b2 c (by omega) hj))
      | 24, _ => exact lc24 hi hL (jthen (Jb_ways hJ ht) (fun a b2 c hj => hp hi x a b2 c (by omega) hj))
      | 25, _ => exact lc25 hi hL (jthen (Jb_chosen hJ ht) (fun a b2 c hj => hp hi x a b2 c (by omega) hj))
      | 26, _ => exact lc26 hi hL (jthen (Jb_sums hJ ht) (fun a b2 c hj => hp hi x a b2 c (by omega) hj))
      | 27, _ => exact lc27 hi hL (jthen (Jb_nearest hJ ht) (fun a b2 c hj => hp hi x a b2 c (by omega) hj))
      | 28, _ => exact lc28 hi hL (jthen (Jb_add hJ ht) (fun a b2 c hj => hp hi x a b2 c (by omega) hj))
      | 29, _ => exact lc29 hi hL (jthen (Jb_drop hJ ht) (fun a b2 c hj => hp hi x a b2 c (by omega) hj))
      | 30, _ => exact lc30 hi hL (jthen (Jb_become hJ ht) (fun a b2 c hj => hp hi x a b2 c (by omega) hj))
      | 31, _ => exact lc31 hi hL (jthen (Jb_keepIn hJ ht) (fun a b2 c hj => hp hi x a b2 c (by omega) hj))
      | 32, _ => exact lc32 hi hL (jthen (Jb_apart hJ ht) (fun a b2 c hj => hp hi x a b2 c (by omega) hj))
      | 33, _ => exact lc33 hi hL (jthen (Jb_sort hJ ht) (fun a b2 c hj => hp hi x a b2 c (by omega) hj))
      | 34, _ => exact lc34 hi hL (jthen (Jb_heaps hJ ht) (fun a b2 c hj => hp hi x a b2 c (by omega) hj))
      | 35, _ => exact lc35 hi hL (jthen (Jb_undo hJ ht) (fun a b2 c hj => hp hi x a b2 c (by omega) hj))
      | 36, _ => exact lc36 hi hL (jthen (Jb_image hJ ht) (fun a b2 c hj => hp hi x a b2 c (by omega) hj))
      | 37, _ => exact lc37 hi hL (jthen (Jb_back hJ ht) (fun a b2 c hj => hp hi x a b2 c (by omega) hj))
      | 38, _ => exact lc38 hi hL (jthen (Jb_write hJ ht) (fun a b2 c hj => hp hi x a b2 c (by omega) hj))
      | 39, _ =>
        obtain ⟨x, rfl⟩ : ∃ x0, x = x0 + 1 := ⟨x - 1, by omega⟩
        obtain ⟨Q1, j1, j2⟩ := Jb_octet (x := xs (i + 1)) (lv := lv) hJ
        refine lc39 hi hL ⟨Q1, j1, fun r0 a1 b1 c1 q => ?_⟩
        obtain ⟨kx, e, Q2, j3, j4⟩ := j2 r0 a1 b1 c1 q
        refine ⟨kx, e, Q2, j3, fun w a2 b2 c2 q2 => ?_⟩
        obtain ⟨Q3, j5, j6⟩ := j4 w a2 b2 c2 q2
        refine ⟨Q3, j5, fun u a3 b3 c3 q3 => ?_⟩
        obtain ⟨k1, k2, k3⟩ := j6 u a3 b3 c3 q3
        exact ⟨k1, k2, hp hi x a3 b3 c3 (by omega) k3⟩
      | 40, _ => exact lc40 hi hL (jthen (Jb_bytes hJ ht) (fun a b2 c hj => hp hi x a b2 c (by omega) hj))
      | 41, _ => exact lc41 hi hL (jthen (Jb_trouble hJ ht) (fun a b2 c hj => hp hi x a b2 c (by omega) hj))
      | n + 42, h => exact absurd h (by omega)
    · obtain ⟨S, hv, hs, hk, hm⟩ := hJ
      exact hp hi x iv rv lv (by omega) ⟨S, hv, by omega, hk, hm⟩
