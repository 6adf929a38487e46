def nmk (s : Sn) : Nat → Nat
  | 0 => 0
  | i + 1 => if kp s i = 0 then nmk s i else nmk s i ||| 2 ^ (kp s i - 1)
theorem nmk_bit {s : Sn} {h : Nat} : ∀ i, (nmk s i).testBit h = exB (fun j => kp s j == h + 1) i
  | 0 => Nat.zero_testBit h
  | i + 1 => by
    rw [nmk, exB, ← nmk_bit i]
    by_cases e : kp s i = 0
    · rw [if_pos e, beq_eq_false_iff_ne.mpr (by omega), Bool.or_false]
    · rw [if_neg e, Nat.testBit_or, Nat.testBit_two_pow]
      congr 1
      by_cases z : kp s i = h + 1
      · rw [decide_eq_true (by omega), beq_iff_eq.mpr z]
      · rw [decide_eq_false (by omega), beq_eq_false_iff_ne.mpr z]
theorem nmk_lt {s : Sn} {m : Nat} : ∀ i, (∀ j, j < i → kp s j ≤ m) → nmk s i < 2 ^ m
  | 0, _ => Nat.two_pow_pos m
  | i + 1, h => by
    rw [nmk]
    have ih := nmk_lt i (fun j hj => h j (by omega))
    split
    · exact ih
    · have := h i (by omega)
      exact Nat.or_lt_two_pow ih (Nat.pow_lt_pow_right (by omega) (by omega))
theorem nmk_k {s : Sn} {k : Nat} (h : nmk s s.1 < 2 ^ k) : ∀ i, i < s.1 → kp s i ≤ k := by
  intro i hi
  apply Nat.le_of_not_lt
  intro hk
  have b := nmk_bit (s := s) (h := kp s i - 1) s.1
  have lt : nmk s s.1 < 2 ^ (kp s i - 1) := Nat.lt_of_lt_of_le h (Nat.pow_le_pow_right (by omega) (by omega))
  rw [Nat.testBit_lt_two_pow lt] at b
  have := (exB_iff (p := fun j => kp s j == kp s i - 1 + 1) s.1).mpr ⟨i, hi, by show (kp s i == kp s i - 1 + 1) = true; rw [beq_iff_eq]; omega⟩
  rw [this] at b
  cases b
abbrev ρ0 : Nat → Nat := fun _ => 0
theorem x_begin {d o k : Nat} {s : Sn} {cm : Bool} {a : Ac} {iv : zI} {rv : zR} {lv : zJ} (hT : zTop rv) (ho : o ∈ zPts) (vs : VS s) (hk1 : 2 ≤ k) (hk : k ≤ 4) (cs : CS iv 8 s) (h4 : iv o 4 = nI k) (hA : AC iv o s.1 cm a) :
    Cv mX5_begin (d + 30) [.ref o, .ref 8, .int (bI cm)] iv rv lv (fun u b c' => b = rv ∧ c' = lv ∧ AC u o s.1 cm (cb a (sc 1 (tq s k cm s.1 ρ0))) ∧ u o 4 = nI k ∧ u o 12 = iv o 12 ∧ (∀ p, p < o ∨ o + 4 < p → u p = iv p) ∧ (cm = true → u (o + 1) = iv (o + 1) ∧ u o 0 = iv o 0 ∧ u o 1 = iv o 1 ∧ u o 2 = iv o 2)) := by
  have po := ptS o ho
  have vn := vs.1
  refine eX5_begin o 8 _ (bX5_begin_0 o 8 _ hT ho (by decide) ⟨bI_01 cm, ?_⟩)
  intro w1 e1
  have r1 : ∀ p, p ≠ o → w1 p = iv p := fun p hp => by rw [e1, zu_row hp]
  have cs1 : CS w1 8 s := cs.f8 (fun p hp => r1 p (by omega))
  refine zcall (s_total (v := s.2.2.1) (c := s.1) hT (by decide) cs1.1 vn.2 cs1.2.2.1) hT ?_
  intro w2 e2 w3 e3
  have k3 : ∀ b, b ≠ 8 → b ≠ 9 → b ≠ 10 → w3 o b = iv o b := fun b b1 b2 b3 => by rw [e3, zu_k b1, e2, zu_k b2, e1, zu_k b3]
  have r3 : ∀ p, p ≠ o → w3 p = iv p := fun p hp => by rw [e3, zu_row hp, e2, zu_row hp]; exact r1 p hp
  have s9 : w3 o 9 = nI (sm s.2.2.1 s.1) := by rw [e3, zu_k (by decide), e2, zu_eq]
  have s10 : w3 o 10 = bI cm := by rw [e3, zu_k (by decide), e2, zu_k (by decide), e1, zu_eq]
  -- all named: go on
  have fin : ∀ w : zI, w o 8 = nI (nmk s s.1) → (∀ b, b ≠ 8 → w o b = w3 o b) → (∀ p, p ≠ o → p ≠ o + 3 → p ≠ o + 4 → w p = iv p) → (∀ h, h < 4 → w (o + 3) h = nI 0 ∧ w (o + 4) h = nI 0) → ((¬ (w o 8 >>> (w o 4 &&& 31)) = 0 → (rv = rv ∧ lv = lv ∧ AC w o s.1 cm (cb a (sc 1 (tq s k cm s.1 ρ0))) ∧ w o 4 = nI k ∧ w o 12 = iv o 12 ∧ (∀ p, p < o ∨ o + 4 < p → w p = iv p) ∧ (cm = true → w (o + 1) = iv (o + 1) ∧ w o 0 = iv o 0 ∧ w o 1 = iv o 1 ∧ w o 2 = iv o 2))) ∧ ((w o 8 >>> (w o 4 &&& 31)) = 0 → ∃ Q1 : zI → zR → zJ → Prop, Cv mX5_place (d + 29) [.ref o, .ref 8, .int 0, .int 1, .int (w o 9)] w rv lv Q1 ∧ ∀ (u : zI) (b : zR) (c' : zJ), Q1 u b c' → zTop b ∧ (b = rv ∧ c' = lv ∧ AC u o s.1 cm (cb a (sc 1 (tq s k cm s.1 ρ0))) ∧ u o 4 = nI k ∧ u o 12 = iv o 12 ∧ (∀ p, p < o ∨ o + 4 < p → u p = iv p) ∧ (cm = true → u (o + 1) = iv (o + 1) ∧ u o 0 = iv o 0 ∧ u o 1 = iv o 1 ∧ u o 2 = iv o 2)))) := by
    intro w h8 hb hr hz
    have w4 : w o 4 = nI k := by rw [hb 4 (by decide), k3 4 (by decide) (by decide) (by decide)]; exact h4
    have A1 : AC w o s.1 cm a := by
      unfold AC
      rw [hr (o + 1) (by omega) (by omega) (by omega), hb 0 (by decide), hb 1 (by decide), hb 2 (by decide), hb 11 (by decide), k3 0 (by decide) (by decide) (by decide), k3 1 (by decide) (by decide) (by decide), k3 2 (by decide) (by decide) (by decide), k3 11 (by decide) (by decide) (by decide)]
      exact hA
    have n16 : nmk s s.1 < 16 := nmk_lt (m := 4) s.1 (fun j hj => vs.2.2.2.1 j hj)
    have dl : nmk s s.1 / 2 ^ k ≤ nmk s s.1 := Nat.div_le_self _ _
    rw [h8, w4, bI_shr (by omega) (by omega), z_0, nI_eq (by omega) (by omega)]
    have d0 : nmk s s.1 / 2 ^ k = 0 ↔ nmk s s.1 < 2 ^ k := Nat.div_eq_zero_iff_lt (Nat.two_pow_pos k)
    rw [d0]
    refine ⟨fun z => ⟨rfl, rfl, ?_, rfl, ?_, fun p hp => hr p (by omega) (by omega) (by omega), fun _ => ⟨hr _ (by omega) (by omega) (by omega), ?_, ?_, ?_⟩⟩, fun z => ?_⟩
    · have : ∃ i, i < s.1 ∧ k < kp s i := by
        apply Classical.byContradiction
        intro nx
        exact z (nmk_lt s.1 (fun j hj => Nat.le_of_not_lt (fun y => nx ⟨j, hj, y⟩)))
      obtain ⟨i0, i1, i2⟩ := this
      rw [cb_none hA.1.1 hA.1.2 (tq_gd vs _ _) (tq_none vs i1 i2 s.1 (Nat.le_refl _) (by omega) _)]
      exact A1
    · rw [hb 12 (by decide), k3 12 (by decide) (by decide) (by decide)]
    · rw [hb 0 (by decide), k3 0 (by decide) (by decide) (by decide)]
    · rw [hb 1 (by decide), k3 1 (by decide) (by decide) (by decide)]
    · rw [hb 2 (by decide), k3 2 (by decide) (by decide) (by decide)]
    · have PP : PW w o s k cm 0 ρ0 := by
        refine ⟨⟨w4, ⟨nmk s s.1, h8, n16, fun h hh => nmk_bit s.1⟩, by rw [hb 9 (by decide)]; exact s9, by rw [hb 10 (by decide)]; exact s10⟩, fun h hh => hz h hh, fun _ j hj => absurd hj (Nat.not_lt_zero _)⟩
      obtain ⟨e, he⟩ : ∃ e, d + 29 = e + 2 * s.1 + 4 := ⟨d + 25 - 2 * s.1, by omega⟩
      have call := x_place (cm := cm) (lv := lv) hT ho vs hk1 hk (nmk_k z) s.1 e 1 ρ0 a w (Nat.le_refl _) (cs.f8 (fun p hp => hr p (by omega) (by omega) (by omega))) (by rw [Nat.sub_self]; exact PP) A1
      rw [Nat.sub_self, show sm s.2.2.1 0 = 0 from rfl, Nat.sub_zero] at call
      rw [hb 9 (by decide), s9, he]
      refine zcallV call ?_
      rintro u _ _ ⟨rfl, rfl, t1, t2, t3⟩
      refine ⟨hT, rfl, rfl, t2, ?_, ?_, fun p hp => ?_, fun x => ⟨?_, ?_, ?_, ?_⟩⟩
      · rw [t3.2.1 4 (by decide) (by decide) (by decide) (by decide)]; exact w4
      · rw [t3.2.1 12 (by decide) (by decide) (by decide) (by decide), hb 12 (by decide), k3 12 (by decide) (by decide) (by decide)]
      · rw [t3.1 p hp]; exact hr p (by omega) (by omega) (by omega)
      · rw [(t3.2.2 x).1]; exact hr _ (by omega) (by omega) (by omega)
      · rw [(t3.2.2 x).2 0 (by decide), hb 0 (by decide), k3 0 (by decide) (by decide) (by decide)]
      · rw [(t3.2.2 x).2 1 (by decide), hb 1 (by decide), k3 1 (by decide) (by decide) (by decide)]
      · rw [(t3.2.2 x).2 2 (by decide), hb 2 (by decide), k3 2 (by decide) (by decide) (by decide)]
  -- the heaps are empty
  have clr : ∀ w0 : zI, w0 o 8 = nI (nmk s s.1) → (∀ b, b ≠ 8 → w0 o b = w3 o b) → (∀ p, p ≠ o → w0 p = iv p) → Zv mX5_begin (d + 30) 64 [some (.ref o), some (.ref 8), some (.int (bI cm)), some (.int (nI 0))] [] w0 rv lv (fun u b c' => b = rv ∧ c' = lv ∧ AC u o s.1 cm (cb a (sc 1 (tq s k cm s.1 ρ0))) ∧ u o 4 = nI k ∧ u o 12 = iv o 12 ∧ (∀ p, p < o ∨ o + 4 < p → u p = iv p) ∧ (cm = true → u (o + 1) = iv (o + 1) ∧ u o 0 = iv o 0 ∧ u o 1 = iv o 1 ∧ u o 2 = iv o 2)) := by
    intro w0 h8 hb hr
    have key := zfor (c := 4) (P := fun h => ∀ w : zI, (∀ x, x < h → w (o + 3) x = nI 0 ∧ w (o + 4) x = nI 0) → (∀ p, p ≠ o + 3 → p ≠ o + 4 → w p = w0 p) → Zv mX5_begin (d + 30) 64 [some (.ref o), some (.ref 8), some (.int (bI cm)), some (.int (nI h))] [] w rv lv (fun u b c' => b = rv ∧ c' = lv ∧ AC u o s.1 cm (cb a (sc 1 (tq s k cm s.1 ρ0))) ∧ u o 4 = nI k ∧ u o 12 = iv o 12 ∧ (∀ p, p < o ∨ o + 4 < p → u p = iv p) ∧ (cm = true → u (o + 1) = iv (o + 1) ∧ u o 0 = iv o 0 ∧ u o 1 = iv o 1 ∧ u o 2 = iv o 2))) ?_ ?_
    · exact key 0 (by omega) w0 (fun x hx => absurd hx (Nat.not_lt_zero _)) (fun _ _ _ => rfl)
    · intro w k1 k2
      have m1 : w o = w0 o := k2 o (by omega) (by omega)
      refine bX5_begin_64 o 8 _ _ hT ho (by decide) ⟨fun _ => ?_, fun z => absurd (by decide) z⟩
      exact fin w (by rw [m1]; exact h8) (fun b x => by rw [m1]; exact hb b x) (fun p a1 a2 a3 => by rw [k2 p a2 a3]; exact hr p a1) k1
    · intro h hh ih w k1 k2
      refine bX5_begin_64 o 8 _ _ hT ho (by decide) ⟨fun z => absurd z (show ¬ nI 4 ≤ nI h from nI_ge hh (by omega)), fun _ => ?_⟩
      rw [nI_clamp (show h < 2 ^ 31 by omega), nI_1]
      refine ⟨vp_in_nI hh (by decide), fun u1 f1 u2 f2 => ih u2 (fun x hx => ?_) (fun p a1 a2 => by rw [f2, zu_row a2, f1, zu_row a1]; exact k2 p a1 a2)⟩
      by_cases z : x = h
      · rw [f2, z, zu_eq, zu_row (by omega), f1, zu_eq]
        exact ⟨rfl, rfl⟩
      · refine ⟨?_, ?_⟩
        · rw [f2, zu_k z, f1, zu_k z]
          exact (k1 x (by omega)).1
        · rw [f2, zu_k z, f1, zu_k z]
          exact (k1 x (by omega)).2
  -- where numbers are kept
  have key := zfor (c := s.1) (P := fun i => ∀ w : zI, w o 8 = nI (nmk s i) → (∀ b, b ≠ 8 → w o b = w3 o b) → (∀ p, p ≠ o → w p = iv p) → Zv mX5_begin (d + 30) 20 [some (.ref o), some (.ref 8), some (.int (bI cm)), some (.int (nI i))] [] w rv lv (fun u b c' => b = rv ∧ c' = lv ∧ AC u o s.1 cm (cb a (sc 1 (tq s k cm s.1 ρ0))) ∧ u o 4 = nI k ∧ u o 12 = iv o 12 ∧ (∀ p, p < o ∨ o + 4 < p → u p = iv p) ∧ (cm = true → u (o + 1) = iv (o + 1) ∧ u o 0 = iv o 0 ∧ u o 1 = iv o 1 ∧ u o 2 = iv o 2))) ?_ ?_
  · exact key 0 (by omega) w3 (by rw [e3, zu_eq]; rfl) (fun _ _ => rfl) r3
  · intro w k1 k2 k5
    exact bX5_begin_20 o 8 _ _ hT ho (by decide) ⟨fun _ => clr w k1 k2 k5, fun z => absurd (by rw [k5 8 (by omega), cs.1]; exact nI_le (by omega) (by omega)) z⟩
  · intro i hi ih w k1 k2 k5
    have kb : kp s i ≤ 4 := vs.2.2.2.1 i hi
    refine bX5_begin_20 o 8 _ _ hT ho (by decide) ⟨fun z => absurd z (by rw [k5 8 (by omega), cs.1]; exact nI_ge hi (by omega)), fun _ => ?_⟩
    have c2 : w (8 + 2) i = kpI (kp s i) := by rw [k5 (8 + 2) (by omega)]; exact cs.2.2.2.1 i hi
    rw [nI_clamp (show i < 2 ^ 31 by omega), c2, kpI_f kb, nI_1]
    refine ⟨vp_in_nI (by omega) (by decide), fun q => ih w (by rw [nmk, if_pos q]; exact k1) k2 k5, fun q u e => ih u ?_ (fun b x => by rw [e, zu_k x]; exact k2 b x) (fun p x => by rw [e, zu_row x]; exact k5 p x)⟩
    rw [e, zu_eq, k1, nmk, if_neg q]
    have : kpI (kp s i) = nI (kp s i - 1) := if_neg q
    rw [this, bI_1shl (by omega), bI_or]
/-- the least spread of all rows, how many have it, the least greatest heap, the first such row -/
def lq (s : Sn) (k : Nat) : Ac := cb e0 (sc 1 (tq s k false s.1 ρ0))
def rq (s : Sn) (k : Nat) : Nat := (cb e0 (sc 1 (tq s k true s.1 ρ0))).2.1
theorem lq_gd {s : Sn} (vs : VS s) (k : Nat) : gd (lq s k) := by
  unfold lq
  rw [sc_1]
  exact (gd_cb (Or.inr ⟨rfl, rfl, rfl⟩) (tq_gd vs _ _)).1
theorem lq_pos {s : Sn} (vs : VS s) (k : Nat) : 0 < (lq s k).2.1 ↔ 0 < rq s k := by
  unfold lq rq
  rw [sc_1, sc_1]
  have h1 := (gd_cb (A := e0) (Or.inr ⟨rfl, rfl, rfl⟩) (tq_gd vs (k := k) (cm := false) s.1 ρ0)).2
  have h2 := (gd_cb (A := e0) (Or.inr ⟨rfl, rfl, rfl⟩) (tq_gd vs (k := k) (cm := true) s.1 ρ0)).2
  have h3 := tq_cm vs (k := k) s.1 ρ0
  have z : ¬ 0 < e0.2.1 := Nat.lt_irrefl _
  rw [h1, h2]
  constructor
  · rintro (h | h)
    · exact absurd h z
    · exact Or.inr (h3.mpr h)
  · rintro (h | h)
    · exact absurd h z
    · exact Or.inr (h3.mp h)
theorem cb_e0c (X : Ac) : (cb e0 X).2.1 ≤ X.2.1 := by
  show (if 1000000 ≤ X.1 then 0 else 0) + (if X.1 ≤ 1000000 then X.2.1 else 0) ≤ X.2.1
  repeat' split
  all_goals omega
theorem lq_b {s : Sn} (vs : VS s) {k : Nat} (hk : k ≤ 4) : (lq s k).2.1 ≤ 1048576 ∧ rq s k ≤ 1048576 := by
  unfold lq rq
  rw [sc_1, sc_1]
  exact ⟨Nat.le_trans (cb_e0c _) (tq_c10 vs hk vs.1.2 _), Nat.le_trans (cb_e0c _) (tq_c10 vs hk vs.1.2 _)⟩
theorem x_findLeast {d o k v : Nat} {s : Sn} {iv : zI} {rv : zR} {lv : zJ} (hT : zTop rv) (ho : o ∈ zPts) (vs : VS s) (hk1 : 2 ≤ k) (hk : k ≤ 4) (cs : CS iv 8 s) (h4 : iv o 4 = nI k) (hv : v < 2 ^ 31) (hc : iv o 12 = -1 ∨ ∃ u, u ≤ v ∧ iv o 12 = nI u ∧ (u = v → AC iv o s.1 false (lq s k))) :
    Ci mX5_findLeast (d + 31) [.ref o, .ref 8, .int (nI v)] iv rv lv (fun y a b c' => y = bI (decide (0 < (lq s k).2.1)) ∧ b = rv ∧ c' = lv ∧ a o 12 = nI v ∧ AC a o s.1 false (lq s k) ∧ a o 4 = nI k ∧ ∀ p, p < o ∨ o + 4 < p → a p = iv p) := by
  have po := ptS o ho
  have lb := (lq_b vs hk).1
  have ans : ∀ a : zI, AC a o s.1 false (lq s k) → (a o 1 ≤ 0 → (0 : Int32) = bI (decide (0 < (lq s k).2.1))) ∧ (¬ a o 1 ≤ 0 → (1 : Int32) = bI (decide (0 < (lq s k).2.1))) := by
    intro a h
    rw [(h.2.1 rfl).2.1, z_0, nI_leI (by omega) (by omega)]
    refine ⟨fun z => ?_, fun z => ?_⟩
    · rw [decide_eq_false (by omega)]
      rfl
    · rw [decide_eq_true (by omega)]
      rfl
  refine eX5_findLeast o 8 _ (bX5_findLeast_0 o 8 _ hT ho (by decide) ⟨fun he => ?_, fun hne => ?_⟩)
  · have hA : AC iv o s.1 false (lq s k) := by
      rcases hc with hc | ⟨u, hu, hc, hk⟩
      · rw [hc] at he
        exact absurd he (nI_m1 hv)
      · rw [hc, nI_eq (by omega) hv] at he
        exact hk he
    exact ⟨fun z => ⟨(ans iv hA).1 z, rfl, rfl, he, hA, h4, fun _ _ => rfl⟩, fun z => ⟨(ans iv hA).2 z, rfl, rfl, he, hA, h4, fun _ _ => rfl⟩⟩
  · intro w1 e1 w2 e2 w3 e3 w4 e4
    have r4 : ∀ p, p ≠ o → w4 p = iv p := fun p hp => by rw [e4, zu_row hp, e3, zu_row hp, e2, zu_row hp, e1, zu_row hp]
    have A4 : AC w4 o s.1 false e0 := by
      refine ⟨⟨Nat.le_refl _, Nat.le_refl _⟩, fun _ => ⟨?_, ?_, ?_, fun z => absurd z (Nat.lt_irrefl _)⟩, fun z => by cases z⟩
      · rw [e4, zu_k (by decide), e3, zu_k (by decide), e2, zu_eq]; rfl
      · rw [e4, zu_k (by decide), e3, zu_eq]; rfl
      · rw [e4, zu_eq]; rfl
    refine zcallV (x_begin (d := d) (cm := false) hT ho vs hk1 hk (cs.f8 (fun p hp => r4 p (by omega))) (by rw [e4, zu_k (by decide), e3, zu_k (by decide), e2, zu_k (by decide), e1, zu_k (by decide)]; exact h4) A4) ?_
    rintro a _ _ ⟨rfl, rfl, g1, g2, g3, g4, -⟩
    have g5 : a o 12 = nI v := by rw [g3, e4, zu_k (by decide), e3, zu_k (by decide), e2, zu_k (by decide), e1, zu_eq]
    have g6 : ∀ p, p < o ∨ o + 4 < p → a p = iv p := fun p hp => by rw [g4 p hp]; exact r4 p (by omega)
    exact ⟨hT, fun z => ⟨(ans a g1).1 z, rfl, rfl, g5, g1, g2, g6⟩, fun z => ⟨(ans a g1).2 z, rfl, rfl, g5, g1, g2, g6⟩⟩
theorem x_countAllowed {d o k : Nat} {s : Sn} {iv : zI} {rv : zR} {lv : zJ} (hT : zTop rv) (ho : o ∈ zPts) (vs : VS s) (hk1 : 2 ≤ k) (hk : k ≤ 4) (cs : CS iv 8 s) (h4 : iv o 4 = nI k) :
    Ci mX5_countAllowed (d + 31) [.ref o, .ref 8] iv rv lv (fun y a b c' => y = nI (rq s k) ∧ b = rv ∧ c' = lv ∧ a o 4 = nI k ∧ a o 12 = iv o 12 ∧ (∀ p, p < o ∨ o + 4 < p → a p = iv p) ∧ a (o + 1) = iv (o + 1) ∧ a o 0 = iv o 0 ∧ a o 1 = iv o 1 ∧ a o 2 = iv o 2) := by
  have po := ptS o ho
  refine eX5_countAllowed o 8 (bX5_countAllowed_0 o 8 hT ho (by decide) ?_)
  intro w1 e1
  have r1 : ∀ p, p ≠ o → w1 p = iv p := fun p hp => by rw [e1, zu_row hp]
  have k1 : ∀ b, b ≠ 11 → w1 o b = iv o b := fun b hb => by rw [e1, zu_k hb]
  have A1 : AC w1 o s.1 true e0 := ⟨⟨Nat.le_refl _, Nat.le_refl _⟩, fun z => (by cases z), fun _ => ⟨by rw [e1, zu_eq]; rfl, Or.inr rfl⟩⟩
  refine zcallV (x_begin (d := d) (cm := true) hT ho vs hk1 hk (cs.f8 (fun p hp => r1 p (by omega))) (by rw [k1 4 (by decide)]; exact h4) A1) ?_
  rintro a _ _ ⟨rfl, rfl, g1, g2, g3, g4, g5⟩
  obtain ⟨t1, t2, t3, t4⟩ := g5 rfl
  exact ⟨hT, (g1.2.2 rfl).1, rfl, rfl, g2, by rw [g3, k1 12 (by decide)], fun p hp => by rw [g4 p hp]; exact r1 p (by omega), by rw [t1]; exact r1 _ (by omega), by rw [t2, k1 0 (by decide)], by rw [t3, k1 1 (by decide)], by rw [t4, k1 2 (by decide)]⟩
