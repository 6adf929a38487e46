/-! FEED: both sides. -/
def b8 (y : Int32) : Nat := y.toBitVec.toNat % 256
theorem b8_lt (y : Int32) : b8 y < 256 := Nat.mod_lt _ (by omega)
theorem nI_bv (n : Nat) : (nI n).toBitVec = BitVec.ofNat 32 n := rfl
theorem b8_and (y : Int32) : y &&& 255 = nI (b8 y) := by
  apply Int32.toBitVec_inj.mp
  rw [nI_bv, Int32.toBitVec_and]
  apply BitVec.eq_of_toNat_eq
  rw [BitVec.toNat_and, BitVec.toNat_ofNat]
  have h1 : (255 : Int32).toBitVec.toNat = 2 ^ 8 - 1 := rfl
  rw [h1, Nat.and_two_pow_sub_one_eq_mod]
  unfold b8
  omega
theorem b8_sb (y : Int32) : y.toInt8.toInt32 = sbI (b8 y) := by
  unfold sbI
  congr 1
  apply Int8.toBitVec_inj.mp
  show y.toBitVec.signExtend 8 = (nI (b8 y)).toBitVec.signExtend 8
  rw [BitVec.signExtend_eq_setWidth_of_le _ (by omega), BitVec.signExtend_eq_setWidth_of_le _ (by omega), nI_bv]
  apply BitVec.eq_of_toNat_eq
  rw [BitVec.toNat_setWidth, BitVec.toNat_setWidth, BitVec.toNat_ofNat]
  unfold b8
  omega
theorem nar_b (y : Int32) : vp_nar .byte (y.toInt8.toInt32) = sbI (b8 y) := by
  rw [vp_nar_byte, ← b8_sb]
  congr 1
  exact Int8.toInt8_toInt32 _
def fq (x : Int32) (q : Nat) : Nat := b8 (x >>> (nI (24 - 8 * q) &&& 31))
def fb (a b c d e : Int32) (k : Nat) : Nat := fq (if k < 4 then a else if k < 8 then b else if k < 12 then c else if k < 16 then d else e) (k % 4)
def F_feed (S : St) (a b c d e : Int32) : Int32 × St := if 300 < S.1.1 + 20 then (-1, S) else (nI (S.1.1 + 20), (S.1.1 + 20, fun j => if j < S.1.1 then S.1.2 j else fb a b c d e (j - S.1.1)), S.2)
theorem x_putFour {d t : Nat} {x : Int32} {iv : zI} {rv : zR} {lv : zJ} (hT : zTop rv) (ht : iv 1 0 = nI t) (hb : t + 4 ≤ 300) : Cv mX6_putFour d [.ref 1, .int x] iv rv lv (fun a b c => b = rv ∧ c = lv ∧ a 1 0 = nI (t + 4) ∧ (∀ q, q < 4 → a 7 (t + q) = sbI (fq x q)) ∧ (∀ k, k < t → a 7 k = iv 7 k) ∧ ∀ p, p ≠ 1 → p ≠ 7 → a p = iv p) := by
  refine eX6_putFour _ (bX6_putFour_0 _ hT ?_)
  have st : ∀ q : Nat, q < 4 → ∀ w : zI, w 1 0 = nI (t + q) → (∀ w2 : zI, w2 = zu (zu w 7 (t + q) (sbI (fq x q))) 1 0 (nI (t + q + 1)) → Zv mX6_putFour d 3 [some (.ref 1), some (.int x), some (.int (nI (24 - 8 * q) + -8))] [] w2 rv lv (fun a b c => b = rv ∧ c = lv ∧ a 1 0 = nI (t + 4) ∧ (∀ q, q < 4 → a 7 (t + q) = sbI (fq x q)) ∧ (∀ k, k < t → a 7 k = iv 7 k) ∧ ∀ p, p ≠ 1 → p ≠ 7 → a p = iv p)) → Zv mX6_putFour d 3 [some (.ref 1), some (.int x), some (.int (nI (24 - 8 * q)))] [] w rv lv (fun a b c => b = rv ∧ c = lv ∧ a 1 0 = nI (t + 4) ∧ (∀ q, q < 4 → a 7 (t + q) = sbI (fq x q)) ∧ (∀ k, k < t → a 7 k = iv 7 k) ∧ ∀ p, p ≠ 1 → p ≠ 7 → a p = iv p) := by
    intro q hq w h1 hk
    refine bX6_putFour_3 _ _ hT ⟨fun z => absurd z (nI_pos (by omega)), fun _ => ?_⟩
    rw [h1, nI_clamp (show t + q < 2 ^ 31 by omega), nar_b]
    refine ⟨fun z => absurd z (show ¬ nI 300 ≤ nI (t + q) from nI_ge (by omega) (by omega)), fun _ => ⟨vp_in_nI (by omega) (by decide), fun w1 e1 w2 e2 => hk w2 ?_⟩⟩
    have : w1 1 0 = nI (t + q) := by rw [e1, zu_row (by omega)]; exact h1
    rw [this, nI_1] at e2
    rw [e2, e1]
    rfl
  refine st 0 (by omega) iv ht (fun w1 e1 => ?_)
  refine st 1 (by omega) w1 (by rw [e1, zu_eq]) (fun w2 e2 => ?_)
  refine st 2 (by omega) w2 (by rw [e2, zu_eq]) (fun w3 e3 => ?_)
  refine st 3 (by omega) w3 (by rw [e3, zu_eq]) (fun w4 e4 => ?_)
  refine bX6_putFour_3 _ _ hT ⟨fun _ => ?_, fun z => absurd (show nI (24 - 8 * 3) + -8 < 0 by decide) z⟩
  have v4 : ∀ k, w4 7 k = zu w3 7 (t + 3) (sbI (fq x 3)) 7 k := fun k => by rw [e4, zu_row (by omega)]
  have v3 : ∀ k, w3 7 k = zu w2 7 (t + 2) (sbI (fq x 2)) 7 k := fun k => by rw [e3, zu_row (by omega)]
  have v2 : ∀ k, w2 7 k = zu w1 7 (t + 1) (sbI (fq x 1)) 7 k := fun k => by rw [e2, zu_row (by omega)]
  have v1 : ∀ k, w1 7 k = zu iv 7 (t + 0) (sbI (fq x 0)) 7 k := fun k => by rw [e1, zu_row (by omega)]
  refine ⟨rfl, rfl, by rw [e4, zu_eq], fun q hq => ?_, fun k hk => ?_, fun p p1 p2 => ?_⟩
  · rcases (by omega : q = 0 ∨ q = 1 ∨ q = 2 ∨ q = 3) with rfl | rfl | rfl | rfl
    · rw [v4, zu_k (by omega), v3, zu_k (by omega), v2, zu_k (by omega), v1, zu_eq]
    · rw [v4, zu_k (by omega), v3, zu_k (by omega), v2, zu_eq]
    · rw [v4, zu_k (by omega), v3, zu_eq]
    · rw [v4, zu_eq]
  · rw [v4, zu_k (by omega), v3, zu_k (by omega), v2, zu_k (by omega), v1, zu_k (by omega)]
  · rw [e4, zu_row p1, zu_row p2, e3, zu_row p1, zu_row p2, e2, zu_row p1, zu_row p2, e1, zu_row p1, zu_row p2]
theorem x_feed {d : Nat} {S : St} {a b c e f : Int32} {iv : zI} {rv : zR} {lv : zJ} (hT : zTop rv) (h : CB S iv) (hv : VT S) : Ci mX10_feed (d + 9) [.ref 0, .int a, .int b, .int c, .int e, .int f] iv rv lv (XR (F_feed S a b c e f).2 (F_feed S a b c e f).1 iv rv lv) := by
  refine eX10_feed _ _ _ _ _ (bX10_feed_0 _ _ _ _ _ hT ?_)
  have ht := h.1.1
  have vt := hv.1.1
  rw [ht, show (20 : Int32) = nI 20 from rfl, nI_add, z_300, nI_leI (by omega) (by omega)]
  unfold F_feed
  by_cases q : 300 < S.1.1 + 20
  · rw [if_pos q]
    exact ⟨fun z => absurd z (by omega), fun _ => ⟨rfl, rfl, rfl, h, fun _ _ _ => rfl⟩⟩
  · rw [if_neg q]
    refine ⟨fun _ => zcallV (x_putFour (t := S.1.1) hT ht (by omega)) ?_, fun z => absurd (by omega) z⟩
    rintro w1 _ _ ⟨rfl, rfl, a1, a2, a3, a4⟩
    refine ⟨hT, zcallV (x_putFour (t := S.1.1 + 4) hT a1 (by omega)) ?_⟩
    rintro w2 _ _ ⟨rfl, rfl, b1, b2, b3, b4⟩
    refine ⟨hT, zcallV (x_putFour (t := S.1.1 + 4 + 4) hT b1 (by omega)) ?_⟩
    rintro w3 _ _ ⟨rfl, rfl, c1, c2, c3, c4⟩
    refine ⟨hT, zcallV (x_putFour (t := S.1.1 + 4 + 4 + 4) hT c1 (by omega)) ?_⟩
    rintro w4 _ _ ⟨rfl, rfl, d1, d2, d3, d4⟩
    refine ⟨hT, zcallV (x_putFour (t := S.1.1 + 4 + 4 + 4 + 4) hT d1 (by omega)) ?_⟩
    rintro w5 _ _ ⟨rfl, rfl, e1, e2, e3, e4⟩
    have r : ∀ p, p ≠ 1 → p ≠ 7 → w5 p = iv p := fun p p1 p2 => by rw [e4 p p1 p2, d4 p p1 p2, c4 p p1 p2, b4 p p1 p2, a4 p p1 p2]
    refine ⟨hT, e1, rfl, rfl, ?_, fun p p1 _ => r p (by omega) (by omega)⟩
    obtain ⟨h1, h2, h3, h4, h5, h6, h7⟩ := h
    refine ⟨⟨e1, fun j hj => ?_⟩, h2.fr (fun p _ _ => r p (by omega) (by omega)), h3.fr (fun p _ _ => r p (by omega) (by omega)), h4.fr (fun p _ _ => r p (by omega) (by omega)), ?_, ?_, ?_⟩
    · have hj : j < S.1.1 + 20 := hj
      show w5 7 j = sbI (if j < S.1.1 then S.1.2 j else fb a b c e f (j - S.1.1))
      by_cases q0 : j < S.1.1
      · rw [if_pos q0, e3 j (by omega), d3 j (by omega), c3 j (by omega), b3 j (by omega), a3 j (by omega)]
        exact h1.2 j q0
      · rw [if_neg q0]
        obtain ⟨k, rfl⟩ := Nat.exists_eq_add_of_le (Nat.le_of_not_lt q0)
        rw [Nat.add_sub_cancel_left]
        unfold fb
        by_cases k4 : k < 4
        · rw [if_pos k4, e3 _ (by omega), d3 _ (by omega), c3 _ (by omega), b3 _ (by omega), a2 k k4, Nat.mod_eq_of_lt k4]
        · by_cases k8 : k < 8
          · rw [if_neg k4, if_pos k8, e3 _ (by omega), d3 _ (by omega), c3 _ (by omega), show S.1.1 + k = S.1.1 + 4 + (k - 4) by omega, b2 (k - 4) (by omega), show k % 4 = k - 4 by omega]
          · by_cases k12 : k < 12
            · rw [if_neg k4, if_neg k8, if_pos k12, e3 _ (by omega), d3 _ (by omega), show S.1.1 + k = S.1.1 + 4 + 4 + (k - 8) by omega, c2 (k - 8) (by omega), show k % 4 = k - 8 by omega]
            · by_cases k16 : k < 16
              · rw [if_neg k4, if_neg k8, if_neg k12, if_pos k16, e3 _ (by omega), show S.1.1 + k = S.1.1 + 4 + 4 + 4 + (k - 12) by omega, d2 (k - 12) (by omega), show k % 4 = k - 12 by omega]
              · rw [if_neg k4, if_neg k8, if_neg k12, if_neg k16, show S.1.1 + k = S.1.1 + 4 + 4 + 4 + 4 + (k - 16) by omega, e2 (k - 16) (by omega), show k % 4 = k - 16 by omega]
    · rw [r 0 (by omega) (by omega)]; exact h5
    · rw [r 0 (by omega) (by omega), r 158 (by omega) (by omega)]; exact h6
    · rw [r 0 (by omega) (by omega)]; exact h7
theorem fsh : ∀ k, k < 20 → (((24 : Int32) - ((8 : Int32) * (nI k - nI k / (4 : Int32) * (4 : Int32)))) &&& 31) = nI (24 - 8 * (k % 4)) &&& 31 := by decide
theorem y_feed {d : Nat} {S : St} {a b c e f : Int32} {iv : zI} {rv : zR} {lv : zJ} (hT : zTop rv) (h : MB S iv) (hv : VT S) : Ci mX11_feed d [.ref 174, .int a, .int b, .int c, .int e, .int f] iv rv lv (YR (F_feed S a b c e f).2 (F_feed S a b c e f).1 iv rv lv) := by
  refine eX11_feed _ _ _ _ _ (bX11_feed_0 _ _ _ _ _ hT ?_)
  intro w0 e0
  have h0 : MB S w0 := e0 ▸ h.th
  have f0 : FM iv w0 := e0 ▸ FM.th
  have ht := h0.1.1
  have vt := hv.1.1
  rw [ht, show (20 : Int32) = nI 20 from rfl, nI_add, z_300, nI_leI (by omega) (by omega)]
  unfold F_feed
  by_cases q : 300 < S.1.1 + 20
  · rw [if_pos q]
    exact ⟨fun z => absurd z (by omega), fun _ => ⟨rfl, rfl, rfl, h0, f0⟩⟩
  · rw [if_neg q]
    refine ⟨fun _ => ?_, fun z => absurd (by omega) z⟩
    have key := zfor (c := 20) (P := fun j => ∀ w : zI, (∀ k, k < j → w 175 (S.1.1 + k) = nI (fb a b c e f k)) → (∀ k, k < S.1.1 → w 175 k = w0 175 k) → (∀ p, p ≠ 175 → w p = w0 p) → Zi mX11_feed d 23 [some (.ref 174), some (.int a), some (.int b), some (.int c), some (.int e), some (.int f), some (.int (nI j)), none] [] w rv lv (YR ((S.1.1 + 20, fun j => if j < S.1.1 then S.1.2 j else fb a b c e f (j - S.1.1)), S.2) (nI (S.1.1 + 20)) iv rv lv)) ?_ ?_
    · exact key 0 (by omega) w0 (fun k hk => absurd hk (Nat.not_lt_zero _)) (fun _ _ => rfl) (fun _ _ => rfl)
    · intro w g1 g2 g3
      refine bX11_feed_23 _ _ _ _ _ _ hT ⟨fun _ w1 e1 => ?_, fun z => absurd (by decide) z⟩
      rw [g3 174 (by omega), ht, show (20 : Int32) = nI 20 from rfl, nI_add] at e1
      have r : ∀ p, p ≠ 174 → p ≠ 175 → w1 p = w0 p := fun p p1 p2 => by rw [e1, zu_row p1, g3 p p2]
      have k : ∀ b, b ≠ 4 → w1 174 b = w0 174 b := fun b hb => by rw [e1, zu_k hb, g3 174 (by omega)]
      refine ⟨by rw [e1, zu_eq], rfl, rfl, ?_, fun p hp => by rw [r p (by omega) (by omega)]; exact f0 p hp⟩
      obtain ⟨q1, q2, q3, q4, q5, q6⟩ := h0
      refine MB.mk' ⟨by rw [e1, zu_eq], fun j hj => ?_⟩ ⟨by rw [k 19 (by decide)]; exact q2.1, fun s hs => ?_⟩ ⟨by rw [k 21 (by decide)]; exact q3.1, fun j hj => ?_⟩ (fun i hi => ⟨by rw [r 180 (by omega) (by omega)]; exact (q4 i hi).1, fun s hs => ?_⟩) (by rw [k 7 (by decide), k 2 (by decide), k 1 (by decide)]; exact q5) (by rw [k 51 (by decide), r 198 (by omega) (by omega)]; exact q6)
      · have hj : j < S.1.1 + 20 := hj
        show w1 175 j = nI (if j < S.1.1 then S.1.2 j else fb a b c e f (j - S.1.1))
        rw [e1, zu_row (by omega)]
        by_cases c0 : j < S.1.1
        · rw [if_pos c0, g2 j c0]; exact q1.2 j c0
        · rw [if_neg c0]
          have := g1 (j - S.1.1) (by omega)
          rw [show S.1.1 + (j - S.1.1) = j by omega] at this
          exact this
      · have m := q2.2 s hs
        unfold MS at m ⊢
        rw [r 176 (by omega) (by omega)]
        exact m
      · have m := q3.2 j hj
        unfold MS at m ⊢
        rw [r 178 (by omega) (by omega)]
        exact m
      · have m := (q4 i hi).2 s hs
        unfold MS at m ⊢
        rw [r 179 (by omega) (by omega)]
        exact m
    · intro j hj ih w g1 g2 g3
      have st : ∀ y : Int32, fq y (j % 4) = fb a b c e f j → Zi mX11_feed d 76 [some (.ref 174), some (.int a), some (.int b), some (.int c), some (.int e), some (.int f), some (.int (nI j)), none] [.int y] w rv lv (YR ((S.1.1 + 20, fun j => if j < S.1.1 then S.1.2 j else fb a b c e f (j - S.1.1)), S.2) (nI (S.1.1 + 20)) iv rv lv) := by
        intro y hy
        refine bX11_feed_76 _ _ _ _ _ _ _ hT ?_
        rw [g3 174 (by omega), ht, nI_add, nI_clamp (show S.1.1 + j < 2 ^ 31 by omega), fsh j hj, b8_and, nI_1]
        refine ⟨vp_in_nI (by omega) (by decide), fun w1 e1 => ?_⟩
        subst e1
        refine ih _ (fun k hk => ?_) (fun k hk => ?_) (fun p hp => by rw [zu_row hp]; exact g3 p hp)
        · by_cases c0 : k = j
          · rw [c0, zu_eq, ← hy]
            rfl
          · rw [zu_k (by omega)]; exact g1 k (by omega)
        · rw [zu_k (by omega)]; exact g2 k hk
      refine bX11_feed_23 _ _ _ _ _ _ hT ⟨fun z => absurd z (show ¬ nI 20 ≤ nI j from nI_ge hj (by omega)), fun _ => ?_⟩
      have i4 : (4 : Int32) ≤ nI j ↔ 4 ≤ j := nI_leI (a := 4) (by omega) (by omega)
      have i8 : (8 : Int32) ≤ nI j ↔ 8 ≤ j := nI_leI (a := 8) (by omega) (by omega)
      have i12 : (12 : Int32) ≤ nI j ↔ 12 ≤ j := nI_leI (a := 12) (by omega) (by omega)
      have i16 : (16 : Int32) ≤ nI j ↔ 16 ≤ j := nI_leI (a := 16) (by omega) (by omega)
      rw [i4, i8, i12, i16]
      refine ⟨fun z4 => ⟨fun z8 => ⟨fun z12 => ⟨fun z16 => st _ ?_, fun z16 => st _ ?_⟩, fun z12 => st _ ?_⟩, fun z8 => st _ ?_⟩, fun z4 => st _ ?_⟩
      · unfold fb
        rw [if_neg (by omega), if_neg (by omega), if_neg (by omega), if_neg (by omega)]
      · unfold fb
        rw [if_neg (by omega), if_neg (by omega), if_neg (by omega), if_pos (by omega)]
      · unfold fb
        rw [if_neg (by omega), if_neg (by omega), if_pos (by omega)]
      · unfold fb
        rw [if_neg (by omega), if_pos (by omega)]
      · unfold fb
        rw [if_pos (by omega)]
theorem VT_feed {S : St} {a b c d e : Int32} (h : VT S) : VT (F_feed S a b c d e).2 := by
  unfold F_feed
  by_cases q : 300 < S.1.1 + 20
  · rw [if_pos q]
    exact h
  · rw [if_neg q]
    obtain ⟨h1, h2⟩ := h
    refine ⟨⟨?_, fun j => ?_⟩, h2⟩
    · show S.1.1 + 20 ≤ 300
      omega
    · show (if j < S.1.1 then S.1.2 j else fb a b c d e (j - S.1.1)) < 256
      split
      · exact h1.2 j
      · exact b8_lt _
