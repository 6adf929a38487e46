/-! THE REFERENCE: levels of items. -/
theorem lo_ok : ∀ x, x < 1024 → (∀ j, j < lo x → x.testBit j = false) ∧ (lo x = 16 ∨ (lo x < 16 ∧ x.testBit (lo x) = true)) ∧ ((lw x < 10 ∧ lo x = lw x) ∨ (lw x = 10 ∧ lo x = 16)) := by decide +kernel
theorem y_has {d x j : Nat} {iv : zI} {rv : zR} {lv : zJ} (hT : zTop rv) (hx : x < 2 ^ 31) (hj : j < 16) : Ci mX11_has d [.int (nI x), .int (nI j)] iv rv lv (zP (bI (x.testBit j)) iv rv lv) := by
  refine eX11_has _ _ (bX11_has_0 _ _ hT ?_)
  rw [bI_bit hj hx]
  refine ⟨fun q => zP.mk ?_, fun q => zP.mk ?_⟩
  · cases e : x.testBit j with
    | false => rfl
    | true => exact absurd e q
  · rw [q]
    rfl
theorem y_lowest {d x : Nat} {iv : zI} {rv : zR} {lv : zJ} (hT : zTop rv) (hx : x < 1024) : Ci mX11_lowest (d + 1) [.int (nI x)] iv rv lv (zP (nI (lo x)) iv rv lv) := by
  obtain ⟨h1, h2, -⟩ := lo_ok x hx
  have hl : lo x ≤ 16 := by omega
  refine eX11_lowest _ (bX11_lowest_0 _ hT ?_)
  have key := zfor (c := lo x) (P := fun j => Zi mX11_lowest (d + 1) 2 [some (.int (nI x)), some (.int (nI j))] [] iv rv lv (zP (nI (lo x)) iv rv lv)) ?_ ?_
  · exact key 0 (by omega)
  · refine bX11_lowest_2 _ _ hT ⟨fun _ => zP.mk rfl, fun z => ?_⟩
    rcases h2 with h2 | ⟨h2, h3⟩
    · rw [h2] at z
      exact absurd (by decide) z
    · refine zcall (y_has hT (by omega) h2) hT ?_
      rw [h3]
      exact ⟨fun _ => zP.mk rfl, fun q => absurd (show (1 : Int32) = 0 from q) (by decide)⟩
  · intro j hj ih
    refine bX11_lowest_2 _ _ hT ⟨fun z => absurd z (show ¬ nI 16 ≤ nI j from nI_ge (by omega) (by omega)), fun _ => zcall (y_has hT (by omega) (by omega)) hT ?_⟩
    rw [h1 j hj, nI_1]
    exact ⟨fun q => absurd rfl q, fun _ => ih⟩
def RM (w : zI) (L c : Nat) (f : Nat → It) : Prop := w 184 L = nI c ∧ ∀ j, j < c → w 185 (10 * L + j) = nI (f j).1 ∧ w 186 (10 * L + j) = nI (f j).2.1 ∧ w 187 (10 * L + j) = nI (f j).2.2
/-- only level L changes -/
def FV (L : Nat) (iv a : zI) : Prop := (∀ p, p < 184 ∨ 187 < p → a p = iv p) ∧ (∀ q, q ≠ L → a 184 q = iv 184 q) ∧ ∀ q, q < 10 * L ∨ 10 * L + 10 ≤ q → a 185 q = iv 185 q ∧ a 186 q = iv 186 q ∧ a 187 q = iv 187 q
theorem FV.refl {L : Nat} {iv : zI} : FV L iv iv := ⟨fun _ _ => rfl, fun _ _ => rfl, fun _ _ => ⟨rfl, rfl, rfl⟩⟩
theorem FV.trans {L : Nat} {iv a b : zI} (h : FV L iv a) (g : FV L a b) : FV L iv b := ⟨fun p hp => by rw [g.1 p hp]; exact h.1 p hp, fun q hq => by rw [g.2.1 q hq]; exact h.2.1 q hq, fun q hq => ⟨by rw [(g.2.2 q hq).1]; exact (h.2.2 q hq).1, by rw [(g.2.2 q hq).2.1]; exact (h.2.2 q hq).2.1, by rw [(g.2.2 q hq).2.2]; exact (h.2.2 q hq).2.2⟩⟩
theorem FV.rm {L M c : Nat} {iv a : zI} {f : Nat → It} (h : FV L iv a) (hM : M ≠ L) (hc : c ≤ 10) (hR : RM iv M c f) : RM a M c f := by
  refine ⟨by rw [h.2.1 M hM]; exact hR.1, fun j hj => ?_⟩
  obtain ⟨a1, a2, a3⟩ := h.2.2 (10 * M + j) (by omega)
  rw [a1, a2, a3]
  exact hR.2 j hj
theorem y_isAhead {d q : Nat} {x y : It} {iv : zI} {rv : zR} {lv : zJ} (hT : zTop rv) (hq : q < 120) (h1 : iv 185 q = nI y.1) (h2 : iv 186 q = nI y.2.1) (h3 : iv 187 q = nI y.2.2) (hy : y.1 < 2 ^ 31 ∧ y.2.1 < 1024 ∧ y.2.2 < 1024) (hx : x.1 < 2 ^ 31 ∧ x.2.1 < 1024 ∧ x.2.2 < 1024) :
    Ci mX11_isAhead (d + 2) [.ref 174, .int (nI x.1), .int (nI (x.2.1 ||| x.2.2)), .int (nI q)] iv rv lv (zP (bI (ahead x y)) iv rv lv) := by
  refine eX11_isAhead _ _ _ (bX11_isAhead_0 _ _ _ hT ?_)
  have sx := or_10 hx.2.1 hx.2.2
  have sy := or_10 hy.2.1 hy.2.2
  rw [nI_clamp (by omega), h1, nI_ltI hy.1 hx.1, nI_eq hx.1 hy.1]
  refine ⟨vp_in_nI hq (by decide), fun q => zP.mk ?_, fun q => ⟨fun q2 => zP.mk ?_, fun q2 => zcall (y_lowest hT sx) hT ?_⟩⟩
  · unfold ahead
    rw [decide_eq_true q]
    rfl
  · unfold ahead
    rw [decide_eq_false q, decide_eq_false q2]
    rfl
  · rw [h2, h3, bI_or]
    refine zcall (y_lowest hT sy) hT ?_
    have ox := (lo_ok _ sx).2.2
    have oy := (lo_ok _ sy).2.2
    rw [nI_leI (by omega) (by omega)]
    unfold ahead
    rw [decide_eq_false q, decide_eq_true q2]
    refine ⟨fun q3 => zP.mk ?_, fun q3 => zP.mk ?_⟩
    · rw [decide_eq_false (by omega)]
      rfl
    · rw [decide_eq_true (by omega)]
      rfl
theorem y_comes {d L c B : Nat} {f : Nat → It} {x : It} {iv : zI} {rv : zR} {lv : zJ} (hT : zTop rv) (hL : L < 12) (hR : RM iv L c f) (hc : c < 10) (hb : BI f c B) (hB : B < 2 ^ 31) (hx : x.1 ≤ B ∧ x.2.1 < 1024 ∧ x.2.2 < 1024) :
    Cv mX11_comes (d + 3) [.ref 174, .int (nI L), .int (nI x.1), .int (nI x.2.1), .int (nI x.2.2)] iv rv lv (fun a b c' => b = rv ∧ c' = lv ∧ RM a L (c + 1) (ins x f c) ∧ FV L iv a) := by
  have hx1 : x.1 < 2 ^ 31 := by omega
  refine eX11_comes _ _ _ _ (bX11_comes_0 _ _ _ _ hT ?_)
  rw [nI_clamp (by omega), hR.1, show (10 : Int32) = nI 10 from rfl, pk_mul]
  refine ⟨vp_in_nI hL (by decide), ?_⟩
  have wr : ∀ (a : Nat) (w : zI), a ≤ c → pos x f c = a → (∀ j, j < a → w 185 (10 * L + j) = nI (f j).1 ∧ w 186 (10 * L + j) = nI (f j).2.1 ∧ w 187 (10 * L + j) = nI (f j).2.2) → (∀ j, a < j → j ≤ c → w 185 (10 * L + j) = nI (f (j - 1)).1 ∧ w 186 (10 * L + j) = nI (f (j - 1)).2.1 ∧ w 187 (10 * L + j) = nI (f (j - 1)).2.2) → FV L iv w → w 184 L = nI c → Zv mX11_comes (d + 3) 110 [some (.ref 174), some (.int (nI L)), some (.int (nI x.1)), some (.int (nI x.2.1)), some (.int (nI x.2.2)), some (.int (nI (10 * L))), some (.int (nI a))] [] w rv lv (fun a b c' => b = rv ∧ c' = lv ∧ RM a L (c + 1) (ins x f c) ∧ FV L iv a) := by
    intro a w ha hp g1 g2 g3 g4
    refine bX11_comes_110 _ _ _ _ _ _ hT ?_
    rw [nI_add, nI_clamp (show 10 * L + a < 2 ^ 31 by omega), nI_clamp (show L < 2 ^ 31 by omega)]
    refine ⟨vp_in_nI (by omega) (by decide), fun w1 e1 w2 e2 w3 e3 => ⟨vp_in_nI hL (by decide), fun w4 e4 => ⟨rfl, rfl, ⟨?_, fun j hj => ?_⟩, ?_⟩⟩⟩
    · have : w3 184 L = nI c := by rw [e3, zu_row (by omega), e2, zu_row (by omega), e1, zu_row (by omega)]; exact g4
      rw [e4, zu_eq, this, nI_1]
    · have v1 : w4 185 (10 * L + j) = zu w 185 (10 * L + a) (nI x.1) 185 (10 * L + j) := by rw [e4, zu_row (by omega), e3, zu_row (by omega), e2, zu_row (by omega), e1]
      have v2 : w4 186 (10 * L + j) = zu w 186 (10 * L + a) (nI x.2.1) 186 (10 * L + j) := by
        rw [e4, zu_row (by omega), e3, zu_row (by omega), e2]
        by_cases q : j = a
        · rw [q, zu_eq, zu_eq]
        · rw [zu_k (by omega), zu_k (by omega), e1, zu_row (by omega)]
      have v3 : w4 187 (10 * L + j) = zu w 187 (10 * L + a) (nI x.2.2) 187 (10 * L + j) := by
        rw [e4, zu_row (by omega), e3]
        by_cases q : j = a
        · rw [q, zu_eq, zu_eq]
        · rw [zu_k (by omega), zu_k (by omega), e2, zu_row (by omega), e1, zu_row (by omega)]
      rw [v1, v2, v3]
      unfold ins
      rw [hp]
      rcases Nat.lt_trichotomy j a with q | q | q
      · rw [put_lt q, zu_k (by omega), zu_k (by omega), zu_k (by omega)]
        exact g1 j q
      · rw [q, put_eq, zu_eq, zu_eq, zu_eq]
        exact ⟨rfl, rfl, rfl⟩
      · rw [put_gt q, zu_k (by omega), zu_k (by omega), zu_k (by omega)]
        exact g2 j q (by omega)
    · refine g3.trans ⟨fun p hp => by rw [e4, zu_row (by omega), e3, zu_row (by omega), e2, zu_row (by omega), e1, zu_row (by omega)], fun q hq => by rw [e4, zu_k hq, e3, zu_row (by omega), e2, zu_row (by omega), e1, zu_row (by omega)], fun q hq => ⟨?_, ?_, ?_⟩⟩
      · rw [e4, zu_row (by omega), e3, zu_row (by omega), e2, zu_row (by omega), e1, zu_k (by omega)]
      · rw [e4, zu_row (by omega), e3, zu_row (by omega), e2, zu_k (by omega), e1, zu_row (by omega)]
      · rw [e4, zu_row (by omega), e3, zu_k (by omega), e2, zu_row (by omega), e1, zu_row (by omega)]
  have go : ∀ (a : Nat) (w : zI), a ≤ c → pos x f c = pos x f a → (∀ j, j < a → w 185 (10 * L + j) = nI (f j).1 ∧ w 186 (10 * L + j) = nI (f j).2.1 ∧ w 187 (10 * L + j) = nI (f j).2.2) → (∀ j, a < j → j ≤ c → w 185 (10 * L + j) = nI (f (j - 1)).1 ∧ w 186 (10 * L + j) = nI (f (j - 1)).2.1 ∧ w 187 (10 * L + j) = nI (f (j - 1)).2.2) → FV L iv w → w 184 L = nI c → Zv mX11_comes (d + 3) 14 [some (.ref 174), some (.int (nI L)), some (.int (nI x.1)), some (.int (nI x.2.1)), some (.int (nI x.2.2)), some (.int (nI (10 * L))), some (.int (nI a))] [] w rv lv (fun a b c' => b = rv ∧ c' = lv ∧ RM a L (c + 1) (ins x f c) ∧ FV L iv a) := by
    intro a
    induction a with
    | zero =>
      intro w ha hp g1 g2 g3 g4
      exact bX11_comes_14 _ _ _ _ _ _ hT ⟨fun _ => wr 0 w ha hp g1 g2 g3 g4, fun z => absurd (by decide) z⟩
    | succ a ih =>
      intro w ha hp g1 g2 g3 g4
      have fb := hb a (by omega)
      obtain ⟨k1, k2, k3⟩ := g1 a (by omega)
      refine bX11_comes_14 _ _ _ _ _ _ hT ⟨fun z => absurd z (show ¬ nI (a + 1) ≤ nI 0 from nI_ge (by omega) (by omega)), fun _ => ?_⟩
      rw [bI_or, nI_add, ← Nat.add_assoc, nI_pred]
      refine zcall (y_isAhead hT (by omega) k1 k2 k3 ⟨by omega, fb.2⟩ ⟨hx1, hx.2⟩) hT ?_
      rw [pos] at hp
      cases q : ahead x (f a) with
      | false =>
        rw [q, if_neg (by simp)] at hp
        exact ⟨fun _ => wr (a + 1) w ha hp g1 g2 g3 g4, fun z => absurd rfl z⟩
      | true =>
        rw [q, if_pos rfl] at hp
        refine ⟨fun z => absurd (show (1 : Int32) = 0 from z) (by decide), fun _ => ?_⟩
        rw [nI_clamp (show 10 * L + a < 2 ^ 31 by omega), nI_clamp (show 10 * L + a + 1 < 2 ^ 31 by omega), nI_dn, nI_pred]
        refine ⟨vp_in_nI (by omega) (by decide), vp_in_nI (by omega) (by decide), fun w1 e1 w2 e2 w3 e3 => ?_⟩
        have m2 : w1 186 (10 * L + a) = nI (f a).2.1 := by rw [e1, zu_row (by omega)]; exact k2
        have m3 : w2 187 (10 * L + a) = nI (f a).2.2 := by rw [e2, zu_row (by omega), e1, zu_row (by omega)]; exact k3
        rw [k1] at e1
        rw [m2] at e2
        rw [m3] at e3
        have v1 : ∀ j, w3 185 j = zu w 185 (10 * L + a + 1) (nI (f a).1) 185 j := fun j => by rw [e3, zu_row (by omega), e2, zu_row (by omega), e1]
        have v2 : ∀ j, w3 186 j = zu w 186 (10 * L + a + 1) (nI (f a).2.1) 186 j := fun j => by
          rw [e3, zu_row (by omega), e2]
          by_cases q : j = 10 * L + a + 1
          · rw [q, zu_eq, zu_eq]
          · rw [zu_k q, zu_k q, e1, zu_row (by omega)]
        have v3 : ∀ j, w3 187 j = zu w 187 (10 * L + a + 1) (nI (f a).2.2) 187 j := fun j => by
          rw [e3]
          by_cases q : j = 10 * L + a + 1
          · rw [q, zu_eq, zu_eq]
          · rw [zu_k q, zu_k q, e2, zu_row (by omega), e1, zu_row (by omega)]
        refine ih w3 (by omega) hp (fun j hj => ?_) (fun j j1 j2 => ?_) (g3.trans ⟨fun p hp => by rw [e3, zu_row (by omega), e2, zu_row (by omega), e1, zu_row (by omega)], fun q hq => by rw [e3, zu_row (by omega), e2, zu_row (by omega), e1, zu_row (by omega)], fun q hq => ⟨by rw [v1, zu_k (by omega)], by rw [v2, zu_k (by omega)], by rw [v3, zu_k (by omega)]⟩⟩) (by rw [e3, zu_row (by omega), e2, zu_row (by omega), e1, zu_row (by omega)]; exact g4)
        · rw [v1, v2, v3, zu_k (by omega), zu_k (by omega), zu_k (by omega)]
          exact g1 j (by omega)
        · rw [v1, v2, v3]
          by_cases q : j = a + 1
          · rw [q, Nat.add_sub_cancel, ← Nat.add_assoc, zu_eq, zu_eq, zu_eq]
            exact ⟨rfl, rfl, rfl⟩
          · rw [zu_k (by omega), zu_k (by omega), zu_k (by omega)]
            exact g2 j (by omega) j2
  exact go c iv (Nat.le_refl _) rfl hR.2 (fun j j1 j2 => by omega) FV.refl hR.1
theorem y_begins {d : Nat} {s : Sn} {iv : zI} {rv : zR} {lv : zJ} (hT : zTop rv) (ms : MS iv 176 0 s) (vs : VS s) :
    Cv mX11_begins (d + 4) [.ref 174] iv rv lv (fun a b c' => b = rv ∧ c' = lv ∧ RM a 0 s.1 (tk s.2.2.1 s.1) ∧ FV 0 iv a) := by
  have vn := vs.1
  have n1 : iv 176 0 = nI s.1 := ms.1
  refine eX11_begins (bX11_begins_0 hT ?_)
  intro w0 e0
  have key := zfor (c := s.1) (P := fun i => ∀ w : zI, RM w 0 i (tk s.2.2.1 i) → FV 0 iv w → Zv mX11_begins (d + 4) 9 [some (.ref 174), some (.int (nI i))] [] w rv lv (fun a b c' => b = rv ∧ c' = lv ∧ RM a 0 s.1 (tk s.2.2.1 s.1) ∧ FV 0 iv a)) ?_ ?_
  · exact key 0 (by omega) w0 ⟨by rw [e0, zu_eq]; rfl, fun j hj => absurd hj (Nat.not_lt_zero _)⟩ ⟨fun p hp => by rw [e0, zu_row (by omega)], fun q hq => by rw [e0, zu_k hq], fun q hq => by rw [e0, zu_row (by omega), zu_row (by omega), zu_row (by omega)]; exact ⟨rfl, rfl, rfl⟩⟩
  · intro w g1 g2
    have c0 : w 176 0 = nI s.1 := by rw [g2.1 176 (by omega)]; exact n1
    exact bX11_begins_9 _ hT ⟨fun _ => ⟨rfl, rfl, g1, g2⟩, fun z => absurd (by rw [c0]; exact nI_le (by omega) (by omega)) z⟩
  · intro i hi ih w g1 g2
    have t6 : w 176 = iv 176 := g2.1 176 (by omega)
    have c0 : w 176 0 = nI s.1 := by rw [t6]; exact n1
    refine bX11_begins_9 _ hT ⟨fun z => ?_, fun _ => zcall (y_value (n := s.1) (v := s.2.2.1) hT (fun q hq => by rw [t6]; exact ms.vals q hq) vn.2 hi) hT ?_⟩
    · rw [c0] at z
      exact absurd z (nI_ge hi (by omega))
    · rw [bI_1shl (by omega), nI_1]
      refine zcallV (y_comes (L := 0) (x := (s.2.2.1 i, 2 ^ i, 0)) (B := 9999) hT (by omega) g1 (by omega) (tk_b i (by omega) (fun j hj => (vs.2.2.1 j (by omega)).2)) (by omega) ⟨(vs.2.2.1 i hi).2, Nat.pow_lt_pow_right (by omega) (show i < 10 by omega), by show 0 < 1024; omega⟩) ?_
      rintro a _ _ ⟨rfl, rfl, b1, b2⟩
      exact ⟨hT, ih a b1 (g2.trans b2)⟩
theorem RM.cg {w : zI} {L c : Nat} {f g : Nat → It} (h : RM w L c f) (e : ∀ j, j < c → f j = g j) : RM w L c g := ⟨h.1, fun j hj => by rw [← e j hj]; exact h.2 j hj⟩
theorem y_joins {d L c B : Nat} {f : Nat → It} {df : Bool} {iv : zI} {rv : zR} {lv : zJ} (hT : zTop rv) (hL : L < 11) (hR : RM iv L c f) (hc2 : 2 ≤ c) (hc : c ≤ 10) (hb : BI f c B) (hB : 2 * B < 2 ^ 31) (hs : srt f c) :
    Cv mX11_joins (d + 4) [.ref 174, .int (nI L), .int (bI df)] iv rv lv (fun a b c' => b = rv ∧ c' = lv ∧ RM a (L + 1) (c - 1) (jn f c df) ∧ FV (L + 1) iv a) := by
  refine eX11_joins _ _ (bX11_joins_0 _ _ hT ?_)
  rw [nI_1, nI_clamp (by omega), show (10 : Int32) = nI 10 from rfl, pk_mul]
  refine ⟨vp_in_nI (by omega) (by decide), fun w0 e0 => ?_⟩
  have key := zfor (c := c) (P := fun k => 2 ≤ k → ∀ w : zI, RM w (L + 1) (k - 2) (fun j => f (j + 2)) → FV (L + 1) iv w → Zv mX11_joins (d + 4) 17 [some (.ref 174), some (.int (nI L)), some (.int (bI df)), some (.int (nI (10 * L))), some (.int (nI k))] [] w rv lv (fun a b c' => b = rv ∧ c' = lv ∧ RM a (L + 1) (c - 1) (jn f c df) ∧ FV (L + 1) iv a)) ?_ ?_
  · exact key 2 hc2 (Nat.le_refl _) w0 ⟨by rw [e0, zu_eq]; rfl, fun j hj => absurd hj (Nat.not_lt_zero _)⟩ ⟨fun p hp => by rw [e0, zu_row (by omega)], fun q hq => by rw [e0, zu_k hq], fun q hq => by rw [e0, zu_row (by omega), zu_row (by omega), zu_row (by omega)]; exact ⟨rfl, rfl, rfl⟩⟩
  · intro _ w g1 g2
    have hR2 := g2.rm (M := L) (by omega) hc hR
    have b2 : BI (fun j => f (j + 2)) (c - 2) (2 * B) := fun j hj => ⟨by have := (hb (j + 2) (by omega)).1; show (f (j + 2)).1 ≤ 2 * B; omega, (hb (j + 2) (by omega)).2⟩
    obtain ⟨a1, a2, a3⟩ := hR2.2 0 (by omega)
    obtain ⟨c1, c2, c3⟩ := hR2.2 1 (by omega)
    rw [Nat.add_zero] at a1 a2 a3
    have cc := y_comes (d := d) (L := L + 1) (x := jd f df) (B := 2 * B) (lv := lv) hT (by omega) g1 (by omega) b2 hB (jd_b df hb hc2)
    have fin : ∃ Q4 : zI → zR → zJ → Prop, Cv mX11_comes (d + 3) [.ref 174, .int (nI (L + 1)), .int (nI (jd f df).1), .int (nI (jd f df).2.1), .int (nI (jd f df).2.2)] w rv lv Q4 ∧ ∀ (a : zI) (b : zR) (c' : zJ), Q4 a b c' → zTop b ∧ (b = rv ∧ c' = lv ∧ RM a (L + 1) (c - 1) (jn f c df) ∧ FV (L + 1) iv a) := zcallV cc (by
      rintro a _ _ ⟨rfl, rfl, d1, d2⟩
      rw [show c - 2 + 1 = c - 1 by omega] at d1
      exact ⟨hT, rfl, rfl, d1, g2.trans d2⟩)
    refine bX11_joins_17 _ _ _ _ hT ?_
    rw [nI_clamp (show L < 2 ^ 31 by omega), hR2.1]
    refine ⟨vp_in_nI (by omega) (by decide), fun _ => ?_, fun z => absurd (nI_le (by omega) (by omega)) z⟩
    rw [nI_1, nI_1, nI_clamp (show 10 * L < 2 ^ 31 by omega), nI_clamp (show 10 * L + 1 < 2 ^ 31 by omega), a1, a2, a3, c1, c2, c3]
    cases df with
    | false =>
      refine ⟨fun _ => ⟨vp_in_nI (by omega) (by decide), vp_in_nI (by omega) (by decide), ?_⟩, fun z => absurd rfl z⟩
      rw [nI_add, bI_or, bI_or]
      exact fin
    | true =>
      refine ⟨fun z => absurd (show (1 : Int32) = 0 from z) (by decide), fun _ => ⟨vp_in_nI (by omega) (by decide), vp_in_nI (by omega) (by decide), ?_⟩⟩
      rw [pk_sub (srt_01 hs hc2), bI_or, bI_or]
      exact fin
  · intro k hk ih hk2 w g1 g2
    have hR2 := g2.rm (M := L) (by omega) hc hR
    obtain ⟨a1, a2, a3⟩ := hR2.2 k hk
    refine bX11_joins_17 _ _ _ _ hT ?_
    rw [nI_clamp (show L < 2 ^ 31 by omega), hR2.1]
    refine ⟨vp_in_nI (by omega) (by decide), fun z => absurd z (nI_ge hk (by omega)), fun _ => ?_⟩
    rw [nI_add, nI_1, nI_1, nI_clamp (show 10 * L + k < 2 ^ 31 by omega), a1, a2, a3]
    refine ⟨vp_in_nI (by omega) (by decide), zcallV (y_comes (L := L + 1) (x := f k) (B := B) hT (by omega) g1 (by omega) (fun j hj => hb (j + 2) (by omega)) (by omega) (hb k hk)) ?_⟩
    rintro a _ _ ⟨rfl, rfl, d1, d2⟩
    refine ⟨hT, ih (by omega) a ?_ (g2.trans d2)⟩
    rw [show k + 1 - 2 = k - 2 + 1 by omega]
    refine d1.cg (fun j hj => ?_)
    have pe : pos (f k) (fun j => f (j + 2)) (k - 2) = k - 2 := ins_end (by
      by_cases e : k = 2
      · exact Or.inl (by omega)
      · right
        show ahead (f k) (f (k - 2 - 1 + 2)) = false
        have := hs (k - 1) (by omega)
        rw [show k - 1 + 1 = k by omega] at this
        rw [show k - 2 - 1 + 2 = k - 1 by omega]
        exact this)
    unfold ins
    rw [pe]
    rcases Nat.lt_trichotomy j (k - 2) with q | q | q
    · rw [put_lt q]
    · rw [q, put_eq, show k - 2 + 2 = k by omega]
    · omega
