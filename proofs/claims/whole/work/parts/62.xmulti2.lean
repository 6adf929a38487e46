theorem x_join {d ia ib k B : Nat} {x y : Pa} {iv : zI} {rv : zR} {lv : zJ} (hT : zTop rv) (ha : ia < 10) (hb : ib < 10) (hne : ia ≠ ib) (hk : k ≤ 4) (hk1 : 2 ≤ k) (h4 : iv 130 4 = nI k) (hx : RP iv (132 + ia) (143 + ia) k x) (hy : RP iv (132 + ib) (143 + ib) k y) (gx : IG k B x) (gy : IG k B y) (hB : 2 * B < 2 ^ 31) :
    Cv mX4_join (d + 2) [.ref 130, .int (nI ia), .int (nI ib)] iv rv lv (fun a b c' => b = rv ∧ c' = lv ∧ RP a (132 + ia) (143 + ia) k (mk2 k (rw2 k x y)) ∧ a 153 ib = 1 ∧ (∀ q, q ≠ ib → a 153 q = iv 153 q) ∧ ∀ p, p ≠ 132 + ia → p ≠ 143 + ia → p ≠ 153 → a p = iv p) := by
  have sa := mSh ia ha
  have sb := mSh ib hb
  have va := hT.2.2.2.2.2.2.2.2.1 ia ha
  have vb := hT.2.2.2.2.2.2.2.2.1 ib hb
  have ma := hT.2.2.2.2.2.2.2.2.2 ia ha
  have mb := hT.2.2.2.2.2.2.2.2.2 ib hb
  have rb := rw2_b gx gy
  refine eX4_join _ _ (bX4_join_0 _ _ hT ?_)
  have key := zfor (c := k) (P := fun p => ∀ w : zI, (∀ q, q < p → w (132 + ia) q = nI (rw2 k x y q).1 ∧ w (143 + ia) q = nI (rw2 k x y q).2.1) → (∀ q, p ≤ q → q < k → w (132 + ia) q = nI (x q).1 ∧ w (143 + ia) q = nI (x q).2.1) → (∀ p, p ≠ 132 + ia → p ≠ 143 + ia → w p = iv p) → Zv mX4_join (d + 2) 2 [some (.ref 130), some (.int (nI ia)), some (.int (nI ib)), some (.int (nI p)), none] [] w rv lv (fun a b c' => b = rv ∧ c' = lv ∧ RP a (132 + ia) (143 + ia) k (mk2 k (rw2 k x y)) ∧ a 153 ib = 1 ∧ (∀ q, q ≠ ib → a 153 q = iv 153 q) ∧ ∀ p, p ≠ 132 + ia → p ≠ 143 + ia → p ≠ 153 → a p = iv p)) ?_ ?_
  · exact key 0 (by omega) iv (fun q hq => absurd hq (Nat.not_lt_zero _)) (fun q _ hq => hx q hq) (fun _ _ _ => rfl)
  · intro w g1 g2 g3
    have c4 : w 130 4 = nI k := by rw [g3 130 (by omega) (by omega)]; exact h4
    refine bX4_join_2 _ _ _ hT ⟨fun _ => ?_, fun z => absurd (by rw [c4]; exact nI_le (by omega) (by omega)) z⟩
    rw [nI_clamp (show ib < 2 ^ 31 by omega), nI_clamp (show ia < 2 ^ 31 by omega)]
    refine ⟨vp_in_nI hb (by decide), fun w1 e1 => ⟨vp_in_nI ha (by decide), 132 + ia, va, sa.1, by omega, 143 + ia, ma, sa.2, by omega, ?_⟩⟩
    have r1 : ∀ p, p ≠ 153 → w1 p = w p := fun p hp => by rw [e1, zu_row hp]
    have R1 : RP w1 (132 + ia) (143 + ia) k (rw2 k x y) := fun p hp => by
      rw [r1 _ (by omega), r1 _ (by omega)]
      exact g1 p hp
    refine zcallV (x_orderParts (d := d) (f := rw2 k x y) hT ha hk (by omega) (by rw [r1 130 (by omega)]; exact c4) R1 (fun p hp => ⟨by have := (rb p hp).1; omega, (rb p hp).2⟩)) ?_
    rintro w2 rv1 lv1 ⟨q1, q2, k1, k2⟩
    have q1 := q1.symm
    have q2 := q2.symm
    subst q1 q2
    have ib2 : ∀ p, p < k → (isr (rw2 k x y) k p).1 < 2 ^ 31 := isr_all (P := fun z => z.1 < 2 ^ 31) (fun p hp => by have := (rb p hp).1; omega) k (Nat.le_refl _)
    have d4 : w2 130 4 = nI k := by rw [k2 130 (by omega) (by omega), r1 130 (by omega)]; exact c4
    refine ⟨hT, 132 + ia, va, sa.1, by omega, ?_⟩
    rw [d4, z_1, pk_sub (by omega), nI_clamp (show k - 1 < 2 ^ 31 by omega), (k1 (k - 1) (by omega)).1]
    refine ⟨vp_in_nI (by omega) (by decide), ?_⟩
    have key2 := zfor (c := k) (P := fun p => ∀ u : zI, (∀ q, q < p → u (132 + ia) q = nI (mk2 k (rw2 k x y) q).1) → (∀ q, p ≤ q → q < k → u (132 + ia) q = nI (isr (rw2 k x y) k q).1) → (∀ q, q ≠ 132 + ia → u q = w2 q) → Zv mX4_join (d + 2) 108 [some (.ref 130), some (.int (nI ia)), some (.int (nI ib)), some (.int (nI (isr (rw2 k x y) k (k - 1)).1)), some (.int (nI p))] [] u rv lv (fun a b c' => b = rv ∧ c' = lv ∧ RP a (132 + ia) (143 + ia) k (mk2 k (rw2 k x y)) ∧ a 153 ib = 1 ∧ (∀ q, q ≠ ib → a 153 q = iv 153 q) ∧ ∀ p, p ≠ 132 + ia → p ≠ 143 + ia → p ≠ 153 → a p = iv p)) ?_ ?_
    · exact key2 0 (by omega) w2 (fun q hq => absurd hq (Nat.not_lt_zero _)) (fun q _ hq => (k1 q hq).1) (fun _ _ => rfl)
    · intro u u1 u2 u3
      have f4 : u 130 4 = nI k := by rw [u3 130 (by omega)]; exact d4
      refine bX4_join_108 _ _ _ _ hT ⟨fun _ => ⟨rfl, rfl, fun p hp => ⟨u1 p hp, ?_⟩, ?_, fun q hq => ?_, fun p p1 p2 p3 => ?_⟩, fun z => absurd (by rw [f4]; exact nI_le (by omega) (by omega)) z⟩
      · rw [u3 _ (by omega), (k1 p hp).2]
        unfold mk2 nrm
        rw [if_pos hp]
      · rw [u3 153 (by omega), k2 153 (by omega) (by omega), e1, zu_eq]
        rfl
      · rw [u3 153 (by omega), k2 153 (by omega) (by omega), e1, zu_k hq, g3 153 (by omega) (by omega)]
      · rw [u3 p p1, k2 p p1 p2, r1 p p3, g3 p p1 p2]
    · intro p hp ih u u1 u2 u3
      have f4 : u 130 4 = nI k := by rw [u3 130 (by omega)]; exact d4
      refine bX4_join_108 _ _ _ _ hT ⟨fun z => absurd z (by rw [f4]; exact nI_ge hp (by omega)), fun _ => ?_⟩
      rw [nI_clamp (show ia < 2 ^ 31 by omega), nI_clamp (show p < 2 ^ 31 by omega)]
      refine ⟨vp_in_nI ha (by decide), 132 + ia, va, sa.1, by omega, vp_in_nI (by omega) (by decide), fun u4 e4 => ?_⟩
      have le := srt_le (isr_s (f := rw2 k x y) k) (k - 1 - p) p (by omega)
      rw [show p + (k - 1 - p) = k - 1 by omega] at le
      rw [u2 p (Nat.le_refl _) hp, pk_sub le] at e4
      rw [nI_1]
      refine ih u4 (fun q hq => ?_) (fun q q1 q2 => ?_) (fun q hq => by rw [e4, zu_row hq]; exact u3 q hq)
      · rw [e4]
        by_cases z : q = p
        · rw [z, zu_eq]
          unfold mk2 nrm
          rw [if_pos hp]
        · rw [zu_k z]
          exact u1 q (by omega)
      · rw [e4, zu_k (by omega)]
        exact u2 q (by omega) q2
  · intro p hp ih w g1 g2 g3
    have c4 : w 130 4 = nI k := by rw [g3 130 (by omega) (by omega)]; exact h4
    refine bX4_join_2 _ _ _ hT ⟨fun z => absurd z (by rw [c4]; exact nI_ge hp (by omega)), fun _ => ?_⟩
    have ex := g2 p (Nat.le_refl _) hp
    have ey := hy (k - 1 - p) (by omega)
    rw [nI_clamp (show ib < 2 ^ 31 by omega), nI_clamp (show ia < 2 ^ 31 by omega), nI_clamp (show p < 2 ^ 31 by omega), c4, z_1, pk_sub (show 1 ≤ k by omega), pk_sub (show p ≤ k - 1 by omega), nI_clamp (show k - 1 - p < 2 ^ 31 by omega)]
    refine ⟨vp_in_nI ha (by decide), 132 + ia, va, sa.1, by omega, vp_in_nI (by omega) (by decide), vp_in_nI hb (by decide), 132 + ib, vb, sb.1, by omega, vp_in_nI (by omega) (by decide), fun w1 e1 => ⟨143 + ia, ma, sa.2, by omega, 143 + ib, mb, sb.2, by omega, ?_⟩⟩
    have d4 : w1 130 4 = nI k := by rw [e1, zu_row (by omega)]; exact c4
    rw [d4, pk_sub (show 1 ≤ k by omega), pk_sub (show p ≤ k - 1 by omega), nI_clamp (show k - 1 - p < 2 ^ 31 by omega), nI_add]
    refine ⟨vp_in_nI (by omega) (by decide), fun w2 e2 => ?_⟩
    rw [ex.1, g3 (132 + ib) (by omega) (by omega), ey.1, nI_add] at e1
    have t1 : w1 (143 + ia) p = nI (x p).2.1 := by rw [e1, zu_row (by omega)]; exact ex.2
    have t2 : w1 (143 + ib) (k - 1 - p) = nI (y (k - 1 - p)).2.1 := by rw [e1, zu_row (by omega), g3 _ (by omega) (by omega)]; exact ey.2
    rw [t1, t2, bI_or] at e2
    refine ih w2 (fun q hq => ?_) (fun q q1 q2 => ?_) (fun q q1 q2 => by rw [e2, zu_row q2, e1, zu_row q1]; exact g3 q q1 q2)
    · by_cases z : q = p
      · refine ⟨?_, ?_⟩
        · rw [e2, zu_row (by omega), e1, z, zu_eq]
          rfl
        · rw [e2, z, zu_eq]
          rfl
      · refine ⟨?_, ?_⟩
        · rw [e2, zu_row (by omega), e1, zu_k z]
          exact (g1 q (by omega)).1
        · rw [e2, zu_k z, e1, zu_row (by omega)]
          exact (g1 q (by omega)).2
    · refine ⟨?_, ?_⟩
      · rw [e2, zu_row (by omega), e1, zu_k (by omega)]
        exact (g2 q (by omega) q2).1
      · rw [e2, zu_k (by omega), e1, zu_row (by omega)]
        exact (g2 q (by omega) q2).2
/-- the items of the class, and where each of the list lies -/
def CM (w : zI) (n k m : Nat) (v : Nat → Nat) : Prop := w 130 3 = nI n ∧ w 130 4 = nI k ∧ ∃ σ : Nat → Nat, (∀ j, j < n - m → σ j < n ∧ w 153 (σ j) = 0 ∧ RP w (132 + σ j) (143 + σ j) k (ml k v n m j)) ∧ (∀ j j', j < n - m → j' < n - m → σ j = σ j' → j = j') ∧ (∀ i, i < n → w 153 i = 0 → ∃ j, j < n - m ∧ σ j = i) ∧ (n - m = 1 → w 130 5 = nI (σ 0))
theorem CM.step {w w1 w2 : zI} {n k m : Nat} {v : Nat → Nat} {σ : Nat → Nat} (hm : m + 1 < n) (h3 : w 130 3 = nI n) (h4 : w 130 4 = nI k)
    (s1 : ∀ j, j < n - m → σ j < n ∧ w 153 (σ j) = 0 ∧ RP w (132 + σ j) (143 + σ j) k (ml k v n m j)) (s2 : ∀ j j', j < n - m → j' < n - m → σ j = σ j' → j = j') (s3 : ∀ i, i < n → w 153 i = 0 → ∃ j, j < n - m ∧ σ j = i) (hn : n ≤ 10)
    (j1 : RP w1 (132 + σ 0) (143 + σ 0) k (mk2 k (rw2 k (ml k v n m 0) (ml k v n m 1)))) (j2 : w1 153 (σ 1) = 1) (j3 : ∀ q, q ≠ σ 1 → w1 153 q = w 153 q) (j4 : ∀ p, p ≠ 132 + σ 0 → p ≠ 143 + σ 0 → p ≠ 153 → w1 p = w p) (e2 : w2 = zu w1 130 5 (nI (σ 0))) : CM w2 n k (m + 1) v := by
  have r2 : ∀ p, p ≠ 130 → w2 p = w1 p := fun p hp => by rw [e2, zu_row hp]
  have l0 := s1 0 (by omega)
  have l1 := s1 1 (by omega)
  have ne01 : σ 0 ≠ σ 1 := fun z => by have := s2 0 1 (by omega) (by omega) z; omega
  have hP := pos_le (ky k (mk2 k (rw2 k (ml k v n m 0) (ml k v n m 1)))) (kys k (fun j => ml k v n m (j + 2))) (n - m - 2)
  have em : ml k v n (m + 1) = putP (fun j => ml k v n m (j + 2)) (pos (ky k (mk2 k (rw2 k (ml k v n m 0) (ml k v n m 1)))) (kys k (fun j => ml k v n m (j + 2))) (n - m - 2)) (mk2 k (rw2 k (ml k v n m 0) (ml k v n m 1))) := rfl
  unfold CM
  rw [em]
  generalize pos (ky k (mk2 k (rw2 k (ml k v n m 0) (ml k v n m 1)))) (kys k (fun j => ml k v n m (j + 2))) (n - m - 2) = P at hP ⊢
  have old : ∀ a, 2 ≤ a → a < n - m → σ a < n ∧ w2 153 (σ a) = 0 ∧ RP w2 (132 + σ a) (143 + σ a) k (ml k v n m a) := fun a a1 a2 => by
    have := s1 a a2
    have n0 : σ a ≠ σ 0 := fun z => by have := s2 a 0 a2 (by omega) z; omega
    have n1 : σ a ≠ σ 1 := fun z => by have := s2 a 1 a2 (by omega) z; omega
    refine ⟨this.1, by rw [r2 153 (by omega), j3 _ n1]; exact this.2.1, this.2.2.fr ?_ ?_⟩
    · rw [r2 _ (by omega), j4 _ (by omega) (by omega) (by omega)]
    · rw [r2 _ (by omega), j4 _ (by omega) (by omega) (by omega)]
  refine ⟨?_, ?_, fun j => if j < P then σ (j + 2) else if j = P then σ 0 else σ (j + 1), fun j hj => ?_, fun j j' hj hj' he => ?_, fun i hi g => ?_, fun h1 => ?_⟩
  · rw [e2, zu_k (by decide), j4 130 (by omega) (by omega) (by omega)]; exact h3
  · rw [e2, zu_k (by decide), j4 130 (by omega) (by omega) (by omega)]; exact h4
  · rcases Nat.lt_trichotomy j P with q | q | q
    · rw [putP_lt q]
      simp only [q, if_true]
      exact old (j + 2) (by omega) (by omega)
    · subst q
      rw [putP_eq]
      simp only [Nat.lt_irrefl, if_false, if_true]
      refine ⟨l0.1, by rw [r2 153 (by omega), j3 _ ne01]; exact l0.2.1, j1.fr (r2 _ (by omega)) (r2 _ (by omega))⟩
    · rw [putP_gt q]
      simp only [show ¬ j < P by omega, show ¬ j = P by omega, if_false]
      have := old (j + 1) (by omega) (by omega)
      rw [show j - 1 + 2 = j + 1 by omega]
      exact this
  · have he : (if j < P then σ (j + 2) else if j = P then σ 0 else σ (j + 1)) = (if j' < P then σ (j' + 2) else if j' = P then σ 0 else σ (j' + 1)) := he
    rcases Nat.lt_trichotomy j P with q | q | q <;> rcases Nat.lt_trichotomy j' P with r | r | r
    · rw [if_pos q, if_pos r] at he
      have := s2 _ _ (by omega) (by omega) he; omega
    · rw [if_pos q, if_neg (by omega), if_pos r] at he
      have := s2 _ _ (by omega) (by omega) he; omega
    · rw [if_pos q, if_neg (by omega), if_neg (by omega)] at he
      have := s2 _ _ (by omega) (by omega) he; omega
    · rw [if_neg (by omega), if_pos q, if_pos r] at he
      have := s2 _ _ (by omega) (by omega) he; omega
    · omega
    · rw [if_neg (by omega), if_pos q, if_neg (by omega), if_neg (by omega)] at he
      have := s2 _ _ (by omega) (by omega) he; omega
    · rw [if_neg (by omega), if_neg (by omega), if_pos r] at he
      have := s2 _ _ (by omega) (by omega) he; omega
    · rw [if_neg (by omega), if_neg (by omega), if_neg (by omega), if_pos r] at he
      have := s2 _ _ (by omega) (by omega) he; omega
    · rw [if_neg (by omega), if_neg (by omega), if_neg (by omega), if_neg (by omega)] at he
      have := s2 _ _ (by omega) (by omega) he; omega
  · have ni : i ≠ σ 1 := fun z => by
      rw [z, r2 153 (by omega), j2] at g
      exact absurd g (by decide)
    rw [r2 153 (by omega), j3 i ni] at g
    obtain ⟨j, hj, e⟩ := s3 i hi g
    have n1 : j ≠ 1 := fun z => ni (by rw [← e, z])
    by_cases z : j = 0
    · exact ⟨P, by omega, by show (if P < P then _ else if P = P then σ 0 else _) = i; rw [if_neg (Nat.lt_irrefl _), if_pos rfl, ← e, z]⟩
    · by_cases q : j - 2 < P
      · exact ⟨j - 2, by omega, by show (if j - 2 < P then σ (j - 2 + 2) else _) = i; rw [if_pos q, show j - 2 + 2 = j by omega, e]⟩
      · exact ⟨j - 1, by omega, by show (if j - 1 < P then _ else if j - 1 = P then σ 0 else σ (j - 1 + 1)) = i; rw [if_neg (by omega), if_neg (by omega), show j - 1 + 1 = j by omega, e]⟩
  · rw [e2, zu_eq]
    show nI (σ 0) = nI (if 0 < P then _ else if 0 = P then σ 0 else _)
    rw [if_neg (by omega), if_pos (by omega)]
theorem x_run4 {d k : Nat} {s : Sn} {iv : zI} {rv : zR} {lv : zJ} (hT : zTop rv) (cs : CS iv 8 s) (vs : VS s) (hk1 : 2 ≤ k) (hk : k ≤ 4) :
    Cv mX4_run (d + 4) [.ref 130, .ref 8, .int (nI k)] iv rv lv (fun a b c' => b = rv ∧ c' = lv ∧ (∃ L, L < 10 ∧ a 130 5 = nI L ∧ a 130 4 = nI k ∧ RP a (132 + L) (143 + L) k (ml k s.2.2.1 s.1 (s.1 - 1) 0)) ∧ ∀ p, p < 130 ∨ 153 < p → a p = iv p) := by
  have vn := vs.1
  have vv : ∀ i, i < s.1 → s.2.2.1 i ≤ 9999 := fun i hi => (vs.2.2.1 i hi).2
  refine eX4_run 8 _ (bX4_run_0 8 _ hT (by decide) ?_)
  intro w1 e1 w2 e2 w3 e3
  have b3 : w3 130 3 = nI s.1 ∧ w3 130 4 = nI k ∧ w3 130 5 = nI 0 := by
    refine ⟨?_, ?_, ?_⟩
    · rw [e3, zu_k (by decide), e2, zu_eq, e1, zu_row (by omega)]; exact cs.1
    · rw [e3, zu_k (by decide), e2, zu_k (by decide), e1, zu_eq]
    · rw [e3, zu_eq]; rfl
  have r3 : ∀ p, p ≠ 130 → w3 p = iv p := fun p hp => by rw [e3, zu_row hp, e2, zu_row hp, e1, zu_row hp]
  -- the joining
  have main := zfor (c := s.1 - 1) (P := fun m => ∀ w : zI, CM w s.1 k m s.2.2.1 → (∀ p, p < 130 ∨ 153 < p → w p = iv p) → Zv mX4_run (d + 4) 106 [some (.ref 130), some (.ref 8), some (.int (nI k)), some (.int (nI (m + 1))), none, none] [] w rv lv (fun a b c' => b = rv ∧ c' = lv ∧ (∃ L, L < 10 ∧ a 130 5 = nI L ∧ a 130 4 = nI k ∧ RP a (132 + L) (143 + L) k (ml k s.2.2.1 s.1 (s.1 - 1) 0)) ∧ ∀ p, p < 130 ∨ 153 < p → a p = iv p)) ?_ ?_
  rotate_left
  · intro w ⟨c3, c4, σ, s1, s2, s3, s4⟩ hf
    have l0 := s1 0 (by omega)
    exact bX4_run_106 8 _ _ hT (by decide) ⟨fun _ => ⟨rfl, rfl, ⟨σ 0, by omega, s4 (by omega), c4, l0.2.2⟩, hf⟩, fun z => absurd (by rw [c3]; exact nI_le (by omega) (by omega)) z⟩
  · intro m hm ih w ⟨c3, c4, σ, s1, s2, s3, s4⟩ hf
    have mg := ml_MG (k := k) hk1 vn.2 vv m (by omega)
    have pb : 9999 * 2 ^ m ≤ 9999 * 2 ^ 9 := Nat.mul_le_mul_left _ (Nat.pow_le_pow_right (by omega) (by omega))
    have l0 := s1 0 (by omega)
    have l1 := s1 1 (by omega)
    have g0 := mg.2.1 0 (by omega)
    have g1 := mg.2.1 1 (by omega)
    have ne01 : σ 0 ≠ σ 1 := fun z => by have := s2 0 1 (by omega) (by omega) z; omega
    refine bX4_run_106 8 _ _ hT (by decide) ⟨fun z => absurd z (by rw [c3]; exact nI_ge (by omega) (by omega)), fun _ => ?_⟩
    refine zcall (x_firstBut (d := d + 1) (n := s.1) (t := σ 0) (B := 9999 * 2 ^ m) hT vn.2 hk hk1 c3 c4 (by omega) l0.1 l0.2.1 (fun z => nI_m1 (by omega) z.symm) l0.2.2 g0 ?_) hT ?_
    · intro i hi g
      obtain ⟨j, hj, rfl⟩ := s3 i hi g
      exact ⟨_, (s1 j hj).2.2, mg.2.1 j hj, fun z _ => mg.first vn.2 (Nat.pos_of_ne_zero (fun y => z (by rw [y]))) hj⟩
    · refine zcall (x_firstBut (d := d + 1) (n := s.1) (t := σ 1) (B := 9999 * 2 ^ m) hT vn.2 hk hk1 c3 c4 (by omega) l1.1 l1.2.1 (fun z => by rw [nI_eq (by omega) (by omega)] at z; omega) l1.2.2 g1 ?_) hT ?_
      · intro i hi g
        obtain ⟨j, hj, rfl⟩ := s3 i hi g
        refine ⟨_, (s1 j hj).2.2, mg.2.1 j hj, fun z y => mg.first vn.2 ?_ hj⟩
        have n1 : j ≠ 1 := fun x => z (by rw [x])
        have n0 : j ≠ 0 := fun x => y (by rw [x])
        omega
      · refine ⟨fun z => absurd z.symm (nI_m1 (by omega)), fun _ => ⟨fun z => absurd z.symm (nI_m1 (by omega)), fun _ => ?_⟩⟩
        refine zcallV (x_join (d := d + 1) (B := 9999 * 2 ^ m) hT (by omega) (by omega) ne01 hk hk1 c4 l0.2.2 l1.2.2 g0 g1 (by omega)) ?_
        rintro a rv1 lv1 ⟨q1, q2, j1, j2, j3, j4⟩
        have q1 := q1.symm
        have q2 := q2.symm
        subst q1 q2
        refine ⟨hT, fun w4 e4 => ?_⟩
        rw [nI_1]
        exact ih w4 (CM.step (by omega) c3 c4 s1 s2 s3 vn.2 j1 j2 j3 j4 e4) (fun p hp => by rw [e4, zu_row (by omega), j4 p (by omega) (by omega) (by omega)]; exact hf p hp)
  -- the taking
  have fill := zfor (c := s.1) (P := fun i => ∀ w : zI, (w 130 3 = nI s.1 ∧ w 130 4 = nI k ∧ w 130 5 = nI 0) → (∀ a, a < i → w 153 a = 0 ∧ RP w (132 + a) (143 + a) k (one s.2.2.1 a)) → (∀ p, p < 130 ∨ 153 < p → w p = iv p) → Zv mX4_run (d + 4) 20 [some (.ref 130), some (.ref 8), some (.int (nI k)), some (.int (nI i)), none, none] [] w rv lv (fun a b c' => b = rv ∧ c' = lv ∧ (∃ L, L < 10 ∧ a 130 5 = nI L ∧ a 130 4 = nI k ∧ RP a (132 + L) (143 + L) k (ml k s.2.2.1 s.1 (s.1 - 1) 0)) ∧ ∀ p, p < 130 ∨ 153 < p → a p = iv p)) ?_ ?_
  · exact fill 0 (by omega) w3 b3 (fun a ha => absurd ha (Nat.not_lt_zero _)) (fun p hp => r3 p (by omega))
  · intro w b1 b2 b4
    refine bX4_run_20 8 _ _ hT (by decide) ⟨fun _ => ?_, fun z => absurd (by rw [b1.1]; exact nI_le (by omega) (by omega)) z⟩
    refine main 0 (by omega) w ⟨b1.1, b1.2.1, ?_⟩ b4
    obtain ⟨σ, h1, h2, h3, h4⟩ := mtk_at (k := k) (v := s.2.2.1) s.1
    refine ⟨σ, fun j hj => ⟨h1 j hj, (b2 _ (h1 j hj)).1, ?_⟩, h2, fun i hi _ => h3 i hi, fun z => ?_⟩
    · have : ml k s.2.2.1 s.1 0 j = one s.2.2.1 (σ j) := h4 j hj
      rw [this]
      exact (b2 _ (h1 j hj)).2
    · have := h1 0 (by omega)
      rw [b1.2.2, show σ 0 = 0 by omega]
  · intro i hi ih w b1 b2 b4
    have sh := mSh i (by omega)
    have va := hT.2.2.2.2.2.2.2.2.1 i (by omega)
    have ma := hT.2.2.2.2.2.2.2.2.2 i (by omega)
    refine bX4_run_20 8 _ _ hT (by decide) ⟨fun z => absurd z (by rw [b1.1]; exact nI_ge hi (by omega)), fun _ => ?_⟩
    rw [nI_clamp (by omega)]
    refine ⟨vp_in_nI (by omega) (by decide), fun u e => ?_⟩
    have ru : ∀ p, p ≠ 153 → u p = w p := fun p hp => by rw [e, zu_row hp]
    have key := zfor (c := k) (P := fun p => ∀ x : zI, (∀ q, q < p → x (132 + i) q = nI (one s.2.2.1 i q).1 ∧ x (143 + i) q = nI (one s.2.2.1 i q).2.1) → (∀ q, q ≠ 132 + i → q ≠ 143 + i → x q = u q) → Zv mX4_run (d + 4) 38 [some (.ref 130), some (.ref 8), some (.int (nI k)), some (.int (nI i)), some (.int (nI p)), none] [] x rv lv (fun a b c' => b = rv ∧ c' = lv ∧ (∃ L, L < 10 ∧ a 130 5 = nI L ∧ a 130 4 = nI k ∧ RP a (132 + L) (143 + L) k (ml k s.2.2.1 s.1 (s.1 - 1) 0)) ∧ ∀ p, p < 130 ∨ 153 < p → a p = iv p)) ?_ ?_
    · exact key 0 (by omega) u (fun q hq => absurd hq (Nat.not_lt_zero _)) (fun _ _ _ => rfl)
    · intro x x1 x2
      have m1 : x 130 = w 130 := by rw [x2 130 (by omega) (by omega), ru 130 (by omega)]
      refine bX4_run_38 8 _ _ _ hT (by decide) ⟨fun _ => ?_, fun z => absurd (by rw [m1, b1.2.1]; exact nI_le (by omega) (by omega)) z⟩
      rw [nI_1]
      refine ih x (by rw [m1]; exact b1) (fun a ha => ?_) (fun p hp => by rw [x2 p (by omega) (by omega), ru p (by omega)]; exact b4 p hp)
      by_cases z : a = i
      · refine ⟨?_, fun p hp => ?_⟩
        · rw [x2 153 (by omega) (by omega), e, z, zu_eq]
          rfl
        · rw [z]
          exact x1 p hp
      · refine ⟨?_, ?_⟩
        · rw [x2 153 (by omega) (by omega), e, zu_k z]
          exact (b2 a (by omega)).1
        · exact (b2 a (by omega)).2.fr (by rw [x2 _ (by omega) (by omega), ru _ (by omega)]) (by rw [x2 _ (by omega) (by omega), ru _ (by omega)])
    · intro p hp ih2 x x1 x2
      have m1 : x 130 = w 130 := by rw [x2 130 (by omega) (by omega), ru 130 (by omega)]
      have c9 : x (8 + 1) i = nI (s.2.2.1 i) := by rw [x2 (8 + 1) (by omega) (by omega), ru (8 + 1) (by omega), b4 (8 + 1) (by omega)]; exact cs.2.2.1 i hi
      have st : ∀ y : Int32, y = nI (one s.2.2.1 i p).1 → Zv mX4_run (d + 4) 70 [some (.ref 130), some (.ref 8), some (.int (nI k)), some (.int (nI i)), some (.int (nI p)), none] [.int y, .int (nI p), .ref (132 + i)] x rv lv (fun a b c' => b = rv ∧ c' = lv ∧ (∃ L, L < 10 ∧ a 130 5 = nI L ∧ a 130 4 = nI k ∧ RP a (132 + L) (143 + L) k (ml k s.2.2.1 s.1 (s.1 - 1) 0)) ∧ ∀ p, p < 130 ∨ 153 < p → a p = iv p) := by
        intro y ey
        refine bX4_run_70 8 _ _ _ _ _ (132 + i) 4 hT (by decide) sh.1 (by omega) ?_
        rw [nI_clamp (show p < 2 ^ 31 by omega), nI_clamp (show i < 2 ^ 31 by omega)]
        refine ⟨vp_in_nI (by omega) (by decide), fun y1 f1 => ⟨vp_in_nI (by omega) (by decide), 143 + i, ma, sh.2, by omega, ?_⟩⟩
        have fin : ∀ y2 : zI, y2 = zu y1 (143 + i) p (nI (one s.2.2.1 i p).2.1) → Zv mX4_run (d + 4) 38 [some (.ref 130), some (.ref 8), some (.int (nI k)), some (.int (nI i)), some (.int (nI (p + 1))), none] [] y2 rv lv (fun a b c' => b = rv ∧ c' = lv ∧ (∃ L, L < 10 ∧ a 130 5 = nI L ∧ a 130 4 = nI k ∧ RP a (132 + L) (143 + L) k (ml k s.2.2.1 s.1 (s.1 - 1) 0)) ∧ ∀ p, p < 130 ∨ 153 < p → a p = iv p) := by
          intro y2 f2
          refine ih2 y2 (fun q hq => ?_) (fun q q1 q2 => by rw [f2, zu_row q2, f1, zu_row q1]; exact x2 q q1 q2)
          by_cases z : q = p
          · refine ⟨?_, ?_⟩
            · rw [f2, zu_row (by omega), f1, z, zu_eq]; exact ey
            · rw [f2, z, zu_eq]
          · refine ⟨?_, ?_⟩
            · rw [f2, zu_row (by omega), f1, zu_k z]; exact (x1 q (by omega)).1
            · rw [f2, zu_k z, f1, zu_row (by omega)]; exact (x1 q (by omega)).2
        rw [nI_1]
        refine ⟨fun z => ⟨vp_in_nI (by omega) (by decide), fun y2 f2 => fin y2 ?_⟩, fun z => ⟨vp_in_nI (by omega) (by decide), fun y2 f2 => fin y2 ?_⟩⟩
        · rw [f2, one_s (fun q => z (by rw [q]; rfl))]
          rfl
        · have z : p = 0 := by rw [z_0, nI_eq (by omega) (by omega)] at z; exact z
          rw [f2, z, one_0, bI_1shl (by omega)]
      refine bX4_run_38 8 _ _ _ hT (by decide) ⟨fun z => absurd z (by rw [m1, b1.2.1]; exact nI_ge hp (by omega)), fun _ => ?_⟩
      rw [nI_clamp (show i < 2 ^ 31 by omega)]
      refine ⟨vp_in_nI (by omega) (by decide), 132 + i, va, sh.1, by omega, fun z => st 0 ?_, fun z => st _ ?_⟩
      · rw [one_s (fun q => z (by rw [q]; rfl))]
        rfl
      · have z : p = 0 := by rw [z_0, nI_eq (by omega) (by omega)] at z; exact z
        rw [c9, z, one_0]
def F_multi (S : St) (k : Int32) : Int32 × St := match S.2.1 with
  | none => rf S 1
  | some s => if k < 2 ∨ 4 < k then rf S 2 else ok S (nI (ky k.toNatClampNeg (ml k.toNatClampNeg s.2.2.1 s.1 (s.1 - 1) 0)).1)
def F_multiOf (S : St) (k x : Int32) : Int32 × St := match nOf S x with
  | none => rf S 1
  | some (s, i) => if k < 2 ∨ 4 < k then rf S 2 else ok S (nI (hp k.toNatClampNeg (ml k.toNatClampNeg s.2.2.1 s.1 (s.1 - 1) 0) i))
theorem x_multi {d : Nat} {S : St} {k : Int32} {iv : zI} {rv : zR} {lv : zJ} (hT : zTop rv) (h : CB S iv) (hv : VT S) : Ci mX10_multi (d + 9) [.ref 0, .int k] iv rv lv (XG (F_multi S k).2 (F_multi S k).1 iv rv lv) := by
  refine eX10_multi k (bX10_multi_0 k hT (zcall (x_noText hT) hT (zcall (x_noSuchHeaps hT) hT ?_)))
  rw [h.nt hv]
  have hn := h.2.1
  unfold F_multi
  cases e : S.2.1 with
  | none => exact zcall (x_refused (a := true) hT) hT ⟨fun q => absurd (show (1 : Int32) = 0 from q) (by decide), fun _ => XG.ans (t := 1) rfl h FL.refl⟩
  | some s =>
    rw [e] at hn
    obtain ⟨cs, c12⟩ := hn
    have vs := hv.2.1 s e
    have vn := vs.1
    by_cases hx : k < 2 ∨ 4 < k
    · simp only [hx, decide_true, if_true]
      exact zcall (x_refused (a := false) (b := true) hT) hT ⟨fun q => absurd (show (1 : Int32) = 0 from q) (by decide), fun _ => XG.ans (t := 2) rfl h FL.refl⟩
    · simp only [hx, decide_false, if_false]
      obtain ⟨j, j1, j2, rfl⟩ := of_k hx
      refine zcall (x_refused (a := false) (b := false) hT) hT ⟨fun _ => ?_, fun q => absurd rfl q⟩
      rw [nI_clamp (by omega)]
      refine zcallV (x_run4 (d := d + 4) hT cs vs j1 j2) ?_
      rintro a _ _ ⟨rfl, rfl, ⟨L, hL, g1, g2, g3⟩, g4⟩
      have mg := ml_MG (k := j) j1 vn.2 (fun i hi => (vs.2.2.1 i hi).2) (s.1 - 1) (by omega)
      refine ⟨hT, zcall (eX4_lastWidth (bX4_lastWidth_0 hT (by rw [g1]; exact zcall (x_width (d := d + 7) hT hL j2 j1 g2 g3 (mg.2.1 0 (by omega))) hT (zP.mk rfl)))) hT (zcall (x_answer hT) hT (XG.ans (t := 0) rfl h (fun p hp => g4 p (by omega))))⟩
theorem x_heapOf4 {d i k L : Nat} {f : Pa} {iv : zI} {rv : zR} {lv : zJ} (hT : zTop rv) (hL : L < 10) (hi : i < 10) (hk : k ≤ 4) (h5 : iv 130 5 = nI L) (h4 : iv 130 4 = nI k) (hR : RP iv (132 + L) (143 + L) k f) (hf : ∀ p, p < k → (f p).2.1 < 1024) (hh : hb k i f) :
    Ci mX4_heapOf d [.ref 130, .int (nI i)] iv rv lv (zP (nI (hp k f i)) iv rv lv) := by
  obtain ⟨p1, p2, p3⟩ := hp_ok hh
  have sh := mSh L hL
  have ma := hT.2.2.2.2.2.2.2.2.2 L hL
  refine eX4_heapOf _ (bX4_heapOf_0 _ hT ?_)
  have key := zfor (c := hp k f i) (P := fun p => Zi mX4_heapOf d 2 [some (.ref 130), some (.int (nI i)), some (.int (nI p))] [] iv rv lv (zP (nI (hp k f i)) iv rv lv)) ?_ ?_
  · exact key 0 (by omega)
  · refine bX4_heapOf_2 _ _ hT ⟨fun z => absurd z (by rw [h4]; exact nI_ge p1 (by omega)), fun _ => ?_⟩
    rw [h5, nI_clamp (show L < 2 ^ 31 by omega), nI_clamp (show hp k f i < 2 ^ 31 by omega)]
    refine ⟨vp_in_nI hL (by decide), 143 + L, ma, sh.2, by omega, vp_in_nI (by omega) (by decide), ?_⟩
    have := hf _ p1
    rw [(hR _ p1).2, bI_bit (by omega) (by omega)]
    exact ⟨fun z => absurd p2 z, fun _ => zP.mk rfl⟩
  · intro p hp ih
    refine bX4_heapOf_2 _ _ hT ⟨fun z => absurd z (by rw [h4]; exact nI_ge (by omega) (by omega)), fun _ => ?_⟩
    rw [h5, nI_clamp (show L < 2 ^ 31 by omega), nI_clamp (show p < 2 ^ 31 by omega)]
    refine ⟨vp_in_nI hL (by decide), 143 + L, ma, sh.2, by omega, vp_in_nI (by omega) (by decide), ?_⟩
    have := hf p (by omega)
    rw [(hR p (by omega)).2, bI_bit (by omega) (by omega), p3 p hp, nI_1]
    exact ⟨fun _ => ih, fun z => by cases z⟩
theorem x_multiOf {d : Nat} {S : St} {k x : Int32} {iv : zI} {rv : zR} {lv : zJ} (hT : zTop rv) (h : CB S iv) (hv : VT S) : Ci mX10_multiOf (d + 9) [.ref 0, .int k, .int x] iv rv lv (XG (F_multiOf S k x).2 (F_multiOf S k x).1 iv rv lv) := by
  refine eX10_multiOf k x (bX10_multiOf_0 k x hT (zcall (x_noNumber hT) hT (zcall (x_noSuchHeaps hT) hT ?_)))
  have hn := h.2.1
  unfold F_multiOf
  rcases nOf_cases S x hv with ⟨hn, hx⟩ | ⟨s, i, hn2, es, hi, rfl⟩
  · rw [hn, h.nn0 hx]
    exact zcall (x_refused (a := true) hT) hT ⟨fun q => absurd (show (1 : Int32) = 0 from q) (by decide), fun _ => XG.ans (t := 1) rfl h FL.refl⟩
  · rw [hn2, h.nn1 hv es hi]
    rw [es] at hn
    obtain ⟨cs, c12⟩ := hn
    have vs := hv.2.1 s es
    have vn := vs.1
    simp only
    by_cases hx : k < 2 ∨ 4 < k
    · simp only [hx, decide_true, if_true]
      exact zcall (x_refused (a := false) (b := true) hT) hT ⟨fun q => absurd (show (1 : Int32) = 0 from q) (by decide), fun _ => XG.ans (t := 2) rfl h FL.refl⟩
    · simp only [hx, decide_false, if_false]
      obtain ⟨j, j1, j2, rfl⟩ := of_k hx
      refine zcall (x_refused (a := false) (b := false) hT) hT ⟨fun _ => ?_, fun q => absurd rfl q⟩
      rw [nI_clamp (show j < 2 ^ 31 by omega)]
      refine zcallV (x_run4 (d := d + 4) hT cs vs j1 j2) ?_
      rintro a _ _ ⟨rfl, rfl, ⟨L, hL, g1, g2, g3⟩, g4⟩
      have mg := ml_MG (k := j) j1 vn.2 (fun i hi => (vs.2.2.1 i hi).2) (s.1 - 1) (by omega)
      have hh : hb j i (ml j s.2.2.1 s.1 (s.1 - 1) 0) := by
        obtain ⟨a, ha, z⟩ := mg.2.2.1 i hi
        rw [show a = 0 by omega] at z
        exact z
      exact ⟨hT, zcall (x_heapOf4 hT hL (by omega) j2 g1 g2 g3 (fun p hp => ((mg.2.1 0 (by omega)).1 p hp).2.1) hh) hT (zcall (x_answer hT) hT (XG.ans (t := 0) rfl h (fun p hp => g4 p (by omega))))⟩
