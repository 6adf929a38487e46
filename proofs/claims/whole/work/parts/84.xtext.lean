/-! THE CLASS: tokens. -/
theorem sb_32 : ∀ x, x < 256 → (decide (sbI x = 32) = decide (x = 32)) := by decide +kernel
theorem sb_59 : ∀ x, x < 256 → (decide (sbI x = 59) = decide (x = 59)) := by decide +kernel
theorem sb_44 : ∀ x, x < 256 → (decide (sbI x = 44) = decide (x = 44)) := by decide +kernel
theorem sb_L : ∀ x, x < 256 → (decide (¬ sbI x < 97) && decide (¬ (122 : Int32) < sbI x)) = isL x := by decide +kernel
theorem sb_D : ∀ x, x < 256 → (decide (¬ sbI x < 48) && decide (¬ (57 : Int32) < sbI x)) = isD x := by decide +kernel
theorem sb_n : ∀ x, x < 128 → sbI x = nI x := by decide +kernel
theorem dec_iff {p q : Prop} [Decidable p] [Decidable q] (h : decide p = decide q) : p ↔ q := by
  constructor
  · intro hp
    rw [decide_eq_true hp] at h
    exact of_decide_eq_true h.symm
  · intro hq
    rw [decide_eq_true hq] at h
    exact of_decide_eq_true h
theorem x_isLetter {d x : Nat} {iv : zI} {rv : zR} {lv : zJ} (hT : zTop rv) (hx : x < 256) : Ci mX6_isLetter d [.int (sbI x)] iv rv lv (zP (bI (isL x)) iv rv lv) := by
  refine eX6_isLetter _ (bX6_isLetter_0 _ hT ?_)
  have h := sb_L x hx
  rw [← h]
  refine ⟨fun q => zP.mk ?_, fun q => ⟨fun q2 => zP.mk ?_, fun q2 => zP.mk ?_⟩⟩
  · rw [decide_eq_false (fun z => z q)]; rfl
  · rw [decide_eq_false (show ¬ ¬ (122 : Int32) < sbI x from fun z => z q2), Bool.and_false]; rfl
  · rw [decide_eq_true q, decide_eq_true q2]; rfl
theorem x_isDigit {d x : Nat} {iv : zI} {rv : zR} {lv : zJ} (hT : zTop rv) (hx : x < 256) : Ci mX6_isDigit d [.int (sbI x)] iv rv lv (zP (bI (isD x)) iv rv lv) := by
  refine eX6_isDigit _ (bX6_isDigit_0 _ hT ?_)
  have h := sb_D x hx
  rw [← h]
  refine ⟨fun q => zP.mk ?_, fun q => ⟨fun q2 => zP.mk ?_, fun q2 => zP.mk ?_⟩⟩
  · rw [decide_eq_false (fun z => z q)]; rfl
  · rw [decide_eq_false (show ¬ ¬ (57 : Int32) < sbI x from fun z => z q2), Bool.and_false]; rfl
  · rw [decide_eq_true q, decide_eq_true q2]; rfl
def RT (w : zI) (tp : Nat → Nat) (n : Nat) : Prop := w 1 5 = nI n ∧ ∀ j, j < n → w 7 j = sbI (tp j)
def FZ (iv a : zI) : Prop := (∀ p, p ≠ 1 → a p = iv p) ∧ ∀ b, b ≠ 3 → b ≠ 6 → b ≠ 7 → b ≠ 8 → a 1 b = iv 1 b
theorem FZ.refl {iv : zI} : FZ iv iv := ⟨fun _ _ => rfl, fun _ _ _ _ _ => rfl⟩
theorem FZ.trans {iv a b : zI} (h : FZ iv a) (g : FZ a b) : FZ iv b := ⟨fun p hp => by rw [g.1 p hp]; exact h.1 p hp, fun q a1 a2 a3 a4 => by rw [g.2 q a1 a2 a3 a4]; exact h.2 q a1 a2 a3 a4⟩
theorem FZ.rt {iv a : zI} {tp : Nat → Nat} {n : Nat} (h : FZ iv a) (r : RT iv tp n) : RT a tp n := by
  unfold RT
  rw [h.1 7 (by decide), h.2 5 (by decide) (by decide) (by decide) (by decide)]
  exact r
def TK (w : zI) (t : Tk) : Prop := w 1 7 = nI t.1 ∧ w 1 3 = nI t.2.1 ∧ w 1 6 = nI t.2.2.1 ∧ (t.1 = 2 → w 1 8 = nI t.2.2.2)
theorem x_takeWord {tp : Nat → Nat} {n s d : Nat} {rv : zR} {lv : zJ} (hT : zTop rv) (hn : n ≤ 300) (ht : ∀ j, tp j < 256) {iv : zI} (hR : RT iv tp n) (h3 : iv 1 3 = nI s) (h6 : iv 1 6 = nI s) (hs : s ≤ n) :
    Cv mX6_takeWord (d + 1) [.ref 1] iv rv lv (fun a b c' => b = rv ∧ c' = lv ∧ (a 1 7 = nI (if rr (fun j => isL (tp j)) n s - s ≤ 6 then 1 else 5) ∧ a 1 3 = nI s ∧ a 1 6 = nI (rr (fun j => isL (tp j)) n s) ∧ a 1 8 = iv 1 8) ∧ FZ iv a) := by
  have fin : ∀ (m a : Nat) (w : zI), n - a = m → s ≤ a → a ≤ n → rr (fun j => isL (tp j)) n a = rr (fun j => isL (tp j)) n s → w 1 6 = nI a → w 1 3 = nI s → w 1 8 = iv 1 8 → FZ iv w → Zv mX6_takeWord (d + 1) 0 [some (.ref 1)] [] w rv lv (fun a b c' => b = rv ∧ c' = lv ∧ (a 1 7 = nI (if rr (fun j => isL (tp j)) n s - s ≤ 6 then 1 else 5) ∧ a 1 3 = nI s ∧ a 1 6 = nI (rr (fun j => isL (tp j)) n s) ∧ a 1 8 = iv 1 8) ∧ FZ iv a) := by
    intro m
    induction m with
    | zero =>
      intro a w hm sa an he w6 w3 w8 wf
      have r := wf.rt hR
      have e : rr (fun j => isL (tp j)) n s = a := by rw [← he]; exact rr_e (Or.inl (by omega))
      refine bX6_takeWord_0 hT ?_
      rw [r.1, w6, nI_leI (by omega) (by omega)]
      refine ⟨fun _ => bX6_takeWord_39 hT ?_, fun z => absurd (by omega) z⟩
      rw [w6, w3, pk_sub sa, show (6 : Int32) = nI 6 from rfl, nI_ltI (by omega) (by omega), e]
      refine ⟨fun z u eu => ⟨rfl, rfl, ⟨?_, ?_, ?_, ?_⟩, wf.trans ⟨fun p hp => by rw [eu, zu_row hp], fun b _ _ b7 _ => by rw [eu, zu_k b7]⟩⟩, fun z u eu => ⟨rfl, rfl, ⟨?_, ?_, ?_, ?_⟩, wf.trans ⟨fun p hp => by rw [eu, zu_row hp], fun b _ _ b7 _ => by rw [eu, zu_k b7]⟩⟩⟩
      · rw [eu, zu_eq, if_neg (by omega)]; rfl
      · rw [eu, zu_k (by decide)]; exact w3
      · rw [eu, zu_k (by decide)]; exact w6
      · rw [eu, zu_k (by decide)]; exact w8
      · rw [eu, zu_eq, if_pos (by omega)]; rfl
      · rw [eu, zu_k (by decide)]; exact w3
      · rw [eu, zu_k (by decide)]; exact w6
      · rw [eu, zu_k (by decide)]; exact w8
    | succ m ih =>
      intro a w hm sa an he w6 w3 w8 wf
      have r := wf.rt hR
      refine bX6_takeWord_0 hT ?_
      rw [r.1, w6, nI_leI (by omega) (by omega), nI_clamp (by omega), r.2 a (by omega)]
      refine ⟨fun z => absurd z (by omega), fun _ => ⟨vp_in_nI (by omega) (by decide), zcall (x_isLetter hT (ht a)) hT ?_⟩⟩
      cases q : isL (tp a) with
      | true =>
        refine ⟨fun z => absurd (show (1 : Int32) = 0 from z) (by decide), fun _ u eu => ?_⟩
        rw [w6, nI_1] at eu
        refine ih (a + 1) u (by omega) (by omega) (by omega) (by rw [← rr_s (p := fun j => isL (tp j)) (show a < n by omega) q]; exact he) (by rw [eu, zu_eq]) (by rw [eu, zu_k (by decide)]; exact w3) (by rw [eu, zu_k (by decide)]; exact w8) (wf.trans ⟨fun p hp => by rw [eu, zu_row hp], fun b _ b6 _ _ => by rw [eu, zu_k b6]⟩)
      | false =>
        have e : rr (fun j => isL (tp j)) n s = a := by rw [← he]; exact rr_e (Or.inr q)
        refine ⟨fun _ => bX6_takeWord_39 hT ?_, fun z => absurd rfl z⟩
        rw [w6, w3, pk_sub sa, show (6 : Int32) = nI 6 from rfl, nI_ltI (by omega) (by omega), e]
        refine ⟨fun z u eu => ⟨rfl, rfl, ⟨?_, ?_, ?_, ?_⟩, wf.trans ⟨fun p hp => by rw [eu, zu_row hp], fun b _ _ b7 _ => by rw [eu, zu_k b7]⟩⟩, fun z u eu => ⟨rfl, rfl, ⟨?_, ?_, ?_, ?_⟩, wf.trans ⟨fun p hp => by rw [eu, zu_row hp], fun b _ _ b7 _ => by rw [eu, zu_k b7]⟩⟩⟩
        · rw [eu, zu_eq, if_neg (by omega)]; rfl
        · rw [eu, zu_k (by decide)]; exact w3
        · rw [eu, zu_k (by decide)]; exact w6
        · rw [eu, zu_k (by decide)]; exact w8
        · rw [eu, zu_eq, if_pos (by omega)]; rfl
        · rw [eu, zu_k (by decide)]; exact w3
        · rw [eu, zu_k (by decide)]; exact w6
        · rw [eu, zu_k (by decide)]; exact w8
  exact eX6_takeWord (fin (n - s) s iv rfl (Nat.le_refl _) hs rfl h6 h3 rfl FZ.refl)
theorem x_takeWhole {tp : Nat → Nat} {n s d : Nat} {rv : zR} {lv : zJ} (hT : zTop rv) (hn : n ≤ 300) (ht : ∀ j, tp j < 256) {iv : zI} (hR : RT iv tp n) (h3 : iv 1 3 = nI s) (h6 : iv 1 6 = nI s) (hs : s ≤ n) :
    Cv mX6_takeWhole (d + 1) [.ref 1] iv rv lv (fun a b c' => b = rv ∧ c' = lv ∧ TK a (if rr (fun j => isD (tp j)) n s - s ≤ 4 then 2 else 5, s, rr (fun j => isD (tp j)) n s, dvl tp s (min 4 (rr (fun j => isD (tp j)) n s - s))) ∧ FZ iv a) := by
  have last : ∀ (a : Nat) (w : zI), s ≤ a → a ≤ n → rr (fun j => isD (tp j)) n s = a → w 1 6 = nI a → w 1 3 = nI s → w 1 8 = nI (dvl tp s (min 4 (a - s))) → FZ iv w → Zv mX6_takeWhole (d + 1) 88 [some (.ref 1)] [] w rv lv (fun a b c' => b = rv ∧ c' = lv ∧ TK a (if rr (fun j => isD (tp j)) n s - s ≤ 4 then 2 else 5, s, rr (fun j => isD (tp j)) n s, dvl tp s (min 4 (rr (fun j => isD (tp j)) n s - s))) ∧ FZ iv a) := by
    intro a w sa an e w6 w3 w8 wf
    refine bX6_takeWhole_88 hT ?_
    rw [w6, w3, pk_sub sa, z_4, nI_ltI (by omega) (by omega), e]
    refine ⟨fun z u eu => ⟨rfl, rfl, ⟨?_, ?_, ?_, ?_⟩, wf.trans ⟨fun p hp => by rw [eu, zu_row hp], fun b _ _ b7 _ => by rw [eu, zu_k b7]⟩⟩, fun z u eu => ⟨rfl, rfl, ⟨?_, ?_, ?_, ?_⟩, wf.trans ⟨fun p hp => by rw [eu, zu_row hp], fun b _ _ b7 _ => by rw [eu, zu_k b7]⟩⟩⟩
    · rw [eu, zu_eq, if_neg (by omega)]; rfl
    · rw [eu, zu_k (by decide)]; exact w3
    · rw [eu, zu_k (by decide)]; exact w6
    · exact fun _ => by rw [eu, zu_k (by decide)]; exact w8
    · rw [eu, zu_eq, if_pos (by omega)]; rfl
    · rw [eu, zu_k (by decide)]; exact w3
    · rw [eu, zu_k (by decide)]; exact w6
    · exact fun _ => by rw [eu, zu_k (by decide)]; exact w8
  have fin : ∀ (m a : Nat) (w : zI), n - a = m → s ≤ a → a ≤ n → rr (fun j => isD (tp j)) n a = rr (fun j => isD (tp j)) n s → w 1 6 = nI a → w 1 3 = nI s → w 1 8 = nI (dvl tp s (min 4 (a - s))) → FZ iv w → Zv mX6_takeWhole (d + 1) 5 [some (.ref 1)] [] w rv lv (fun a b c' => b = rv ∧ c' = lv ∧ TK a (if rr (fun j => isD (tp j)) n s - s ≤ 4 then 2 else 5, s, rr (fun j => isD (tp j)) n s, dvl tp s (min 4 (rr (fun j => isD (tp j)) n s - s))) ∧ FZ iv a) := by
    intro m
    induction m with
    | zero =>
      intro a w hm sa an he w6 w3 w8 wf
      have r := wf.rt hR
      refine bX6_takeWhole_5 hT ?_
      rw [r.1, w6, nI_leI (by omega) (by omega)]
      exact ⟨fun _ => last a w sa an (by rw [← he]; exact rr_e (Or.inl (by omega))) w6 w3 w8 wf, fun z => absurd (by omega) z⟩
    | succ m ih =>
      intro a w hm sa an he w6 w3 w8 wf
      have r := wf.rt hR
      refine bX6_takeWhole_5 hT ?_
      rw [r.1, w6, nI_leI (by omega) (by omega), nI_clamp (by omega), r.2 a (by omega)]
      refine ⟨fun z => absurd z (by omega), fun _ => ⟨vp_in_nI (by omega) (by decide), zcall (x_isDigit hT (ht a)) hT ?_⟩⟩
      cases q : isD (tp a) with
      | true =>
        refine ⟨fun z => absurd (show (1 : Int32) = 0 from z) (by decide), fun _ => ?_⟩
        have dd := of_decide_eq_true q
        have he2 : rr (fun j => isD (tp j)) n (a + 1) = rr (fun j => isD (tp j)) n s := by rw [← rr_s (p := fun j => isD (tp j)) (show a < n by omega) q]; exact he
        rw [w6, w3, w8, pk_sub sa, z_4, nI_leI (by omega) (by omega), nI_clamp (by omega), r.2 a (by omega), sb_n (tp a) (by omega), show (10 : Int32) = nI 10 from rfl, show (48 : Int32) = nI 48 from rfl, pk_mul, nI_add, pk_sub (by omega)]
        refine ⟨fun z u eu u2 eu2 => ?_, fun z => ⟨vp_in_nI (by omega) (by decide), fun u eu u2 eu2 => ?_⟩⟩
        · rw [eu, zu_k (by decide), w6, nI_1] at eu2
          refine ih (a + 1) u2 (by omega) (by omega) (by omega) he2 (by rw [eu2, zu_eq]) (by rw [eu2, zu_k (by decide), zu_k (by decide)]; exact w3) (by rw [eu2, zu_k (by decide), zu_eq, show min 4 (a + 1 - s) = min 4 (a - s) by omega]) (wf.trans ⟨fun p hp => by rw [eu2, zu_row hp, zu_row hp], fun b _ b6 _ b8 => by rw [eu2, zu_k b6, zu_k b8]⟩)
        · rw [eu, zu_k (by decide), w6, nI_1] at eu2
          refine ih (a + 1) u2 (by omega) (by omega) (by omega) he2 (by rw [eu2, zu_eq]) (by rw [eu2, zu_k (by decide), zu_k (by decide)]; exact w3) ?_ (wf.trans ⟨fun p hp => by rw [eu2, zu_row hp, zu_row hp], fun b _ b6 _ b8 => by rw [eu2, zu_k b6, zu_k b8]⟩)
          rw [eu2, zu_k (by decide), zu_eq, show min 4 (a + 1 - s) = min 4 (a - s) + 1 by omega, dvl, show s + min 4 (a - s) = a by omega]
          congr 1
          omega
      | false => exact ⟨fun _ => last a w sa an (by rw [← he]; exact rr_e (Or.inr q)) w6 w3 w8 wf, fun z => absurd rfl z⟩
  refine eX6_takeWhole (bX6_takeWhole_0 hT (fun u eu => ?_))
  refine fin (n - s) s u rfl (Nat.le_refl _) hs rfl (by rw [eu, zu_k (by decide)]; exact h6) (by rw [eu, zu_k (by decide)]; exact h3) (by rw [eu, zu_eq, Nat.sub_self]; rfl) ⟨fun p hp => by rw [eu, zu_row hp], fun b _ _ _ b8 => by rw [eu, zu_k b8]⟩
theorem x_nextToken {tp : Nat → Nat} {n a0 d : Nat} {rv : zR} {lv : zJ} (hT : zTop rv) (hn : n ≤ 300) (ht : ∀ j, tp j < 256) {iv : zI} (hR : RT iv tp n) (h6 : iv 1 6 = nI a0) (ha : a0 ≤ n) :
    Cv mX6_nextToken (d + 2) [.ref 1] iv rv lv (fun a b c' => b = rv ∧ c' = lv ∧ TK a (tkn tp n a0 0) ∧ FZ iv a) := by
  obtain ⟨q1, q2, q3, q4⟩ := rr_ok (p := fun j => tp j == 32) (n := n) (n - a0) a0 rfl
  have q2 := q2 ha
  have tokd : ∀ w : zI, w 1 6 = nI (rr (fun j => tp j == 32) n a0) → FZ iv w → Zv mX6_nextToken (d + 2) 38 [some (.ref 1)] [] w rv lv (fun a b c' => b = rv ∧ c' = lv ∧ TK a (tkn tp n a0 0) ∧ FZ iv a) := by
    intro w w6 wf
    unfold tkn
    generalize rr (fun j => tp j == 32) n a0 = s at *
    refine bX6_nextToken_38 hT (fun u eu => ?_)
    rw [w6] at eu
    have u3 : u 1 3 = nI s := by rw [eu, zu_eq]
    have u6 : u 1 6 = nI s := by rw [eu, zu_k (by decide)]; exact w6
    have uf : FZ iv u := wf.trans ⟨fun p hp => by rw [eu, zu_row hp], fun b b3 _ _ _ => by rw [eu, zu_k b3]⟩
    have r := uf.rt hR
    rw [u6, r.1, nI_ltI (by omega) (by omega), nI_clamp (by omega)]
    refine ⟨fun z => ⟨vp_in_nI (by omega) (by decide), ?_⟩, fun z x ex => ?_⟩
    · rw [r.2 s z, if_pos z]
      refine zcall (x_isLetter hT (ht s)) hT ?_
      cases hl : isL (tp s) with
      | true =>
        refine ⟨fun z => absurd (show (1 : Int32) = 0 from z) (by decide), fun _ => zcallV (x_takeWord (d := d) hT hn ht r u3 u6 (by omega)) ?_⟩
        rintro a _ _ ⟨rfl, rfl, ⟨g1, g2, g3, g4⟩, g5⟩
        rw [if_pos rfl]
        exact ⟨hT, rfl, rfl, ⟨g1, g2, g3, fun z => by
          have z : (if rr (fun j => isL (tp j)) n s - s ≤ 6 then 1 else 5) = 2 := z
          split at z <;> omega⟩, uf.trans g5⟩
      | false =>
        rw [if_neg (by simp)]
        refine ⟨fun _ => ?_, fun z => absurd rfl z⟩
        rw [u6, nI_clamp (by omega), r.2 s z]
        refine ⟨vp_in_nI (by omega) (by decide), zcall (x_isDigit hT (ht s)) hT ?_⟩
        cases hd : isD (tp s) with
        | true =>
          refine ⟨fun z => absurd (show (1 : Int32) = 0 from z) (by decide), fun _ => zcallV (x_takeWhole (d := d) hT hn ht r u3 u6 (by omega)) ?_⟩
          rintro a _ _ ⟨rfl, rfl, g1, g5⟩
          rw [if_pos rfl]
          exact ⟨hT, rfl, rfl, g1, uf.trans g5⟩
        | false =>
          rw [if_neg (by simp)]
          refine ⟨fun _ => ?_, fun z => absurd rfl z⟩
          have e1 := dec_iff (sb_59 (tp s) (ht s))
          have e2 := dec_iff (sb_44 (tp s) (ht s))
          have sign : Cv mX6_takeSign (d + 1) [.ref 1] u rv lv (fun a b c' => b = rv ∧ c' = lv ∧ TK a (if tp s = 59 then 3 else if tp s = 44 then 4 else 5, s, s + 1, 0) ∧ FZ iv a) := by
            refine eX6_takeSign (bX6_takeSign_0 hT ?_)
            rw [u6, nI_clamp (by omega), r.2 s z, e1, e2]
            have res : ∀ (kd : Nat) (x y : zI), kd ≠ 2 → x = zu u 1 7 (nI kd) → y = zu x 1 6 (x 1 6 + 1) → (rv = rv ∧ lv = lv ∧ TK y (kd, s, s + 1, 0) ∧ FZ iv y) := by
              intro kd x y k2 ex ey
              rw [ex, zu_k (by decide), u6, nI_1] at ey
              exact ⟨rfl, rfl, ⟨by rw [ey, zu_k (by decide), zu_eq], by rw [ey, zu_k (by decide), zu_k (by decide)]; exact u3, by rw [ey, zu_eq], fun z => absurd z k2⟩, uf.trans ⟨fun p hp => by rw [ey, zu_row hp, zu_row hp], fun b _ b6 b7 _ => by rw [ey, zu_k b6, zu_k b7]⟩⟩
            refine ⟨vp_in_nI (by omega) (by decide), fun y1 => ⟨fun y2 x ex y ey => ?_, fun y2 x ex y ey => ?_⟩, fun y1 x ex y ey => ?_⟩
            · rw [if_neg y1, if_neg y2]; exact res 5 x y (by decide) ex ey
            · rw [if_neg y1, if_pos y2]; exact res 4 x y (by decide) ex ey
            · rw [if_pos y1]; exact res 3 x y (by decide) ex ey
          exact zcallV sign (fun a b c' h => ⟨h.1 ▸ hT, h⟩)
    · rw [if_neg z]
      exact ⟨rfl, rfl, ⟨by rw [ex, zu_eq]; rfl, by rw [ex, zu_k (by decide)]; exact u3, by rw [ex, zu_k (by decide)]; exact u6, fun z => by cases z⟩, uf.trans ⟨fun p hp => by rw [ex, zu_row hp], fun b _ _ b7 _ => by rw [ex, zu_k b7]⟩⟩
  have fin : ∀ (m a : Nat) (w : zI), n - a = m → a0 ≤ a → a ≤ n → rr (fun j => tp j == 32) n a = rr (fun j => tp j == 32) n a0 → w 1 6 = nI a → FZ iv w → Zv mX6_nextToken (d + 2) 0 [some (.ref 1)] [] w rv lv (fun a b c' => b = rv ∧ c' = lv ∧ TK a (tkn tp n a0 0) ∧ FZ iv a) := by
    intro m
    induction m with
    | zero =>
      intro a w hm sa an he w6 wf
      have r := wf.rt hR
      have e : rr (fun j => tp j == 32) n a0 = a := by rw [← he]; exact rr_e (Or.inl (by omega))
      refine bX6_nextToken_0 hT ?_
      rw [r.1, w6, nI_leI (by omega) (by omega)]
      exact ⟨fun _ => tokd w (by rw [w6, e]) wf, fun z => absurd (by omega) z⟩
    | succ m ih =>
      intro a w hm sa an he w6 wf
      have r := wf.rt hR
      refine bX6_nextToken_0 hT ?_
      rw [r.1, w6, nI_leI (by omega) (by omega), nI_clamp (by omega), r.2 a (by omega), dec_iff (sb_32 (tp a) (ht a))]
      refine ⟨fun z => absurd z (by omega), fun _ => ⟨vp_in_nI (by omega) (by decide), fun z => ?_, fun z u eu => ?_⟩⟩
      · have e : rr (fun j => tp j == 32) n a0 = a := by rw [← he]; exact rr_e (Or.inr (beq_eq_false_iff_ne.mpr z))
        exact tokd w (by rw [w6, e]) wf
      · rw [nI_1] at eu
        exact ih (a + 1) u (by omega) (by omega) (by omega) (by rw [← rr_s (p := fun j => tp j == 32) (show a < n by omega) (beq_iff_eq.mpr z)]; exact he) (by rw [eu, zu_eq]) (wf.trans ⟨fun p hp => by rw [eu, zu_row hp], fun b _ b6 _ _ => by rw [eu, zu_k b6]⟩)
  exact eX6_nextToken (fin (n - a0) a0 iv rfl (Nat.le_refl _) ha rfl h6 FZ.refl)
