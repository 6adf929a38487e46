/-! THE CLASS: rows of items. -/
def RI (w : zI) (o c : Nat) (f : Nat → It) : Prop := w o 0 = nI c ∧ ∀ j, j < c → w (o + 1) j = nI (f j).1 ∧ w (o + 2) j = nI (f j).2.1 ∧ w (o + 3) j = nI (f j).2.2
theorem RI.fr {w w' : zI} {o c : Nat} {f : Nat → It} (h : RI w o c f) (hf : ∀ t, t ≤ 3 → w' (o + t) = w (o + t)) : RI w' o c f := by
  have h0 : w' o = w o := hf 0 (by omega)
  refine ⟨by rw [h0]; exact h.1, fun j hj => ?_⟩
  rw [hf 1 (by omega), hf 2 (by omega), hf 3 (by omega)]
  exact h.2 j hj
theorem x_leastMember {d x : Nat} {iv : zI} {rv : zR} {lv : zJ} (hT : zTop rv) (hx : x < 1024) : Ci mX10_leastMember d [.int (nI x)] iv rv lv (zP (nI (2 ^ lw x)) iv rv lv) := by
  refine eX10_leastMember _ (bX10_leastMember_0 _ hT ?_)
  have := zlm_ok x hx
  unfold zlm at this
  refine ⟨fun q => zP.mk ?_, fun q => zP.mk ?_⟩
  · rw [if_neg q] at this
    exact this
  · rw [if_pos q] at this
    exact this
theorem p2_le {a b : Nat} (ha : a ≤ 10) (hb : b ≤ 10) : (nI (2 ^ b) ≤ nI (2 ^ a)) ↔ b ≤ a := by
  have h1 : 2 ^ a ≤ 2 ^ 10 := Nat.pow_le_pow_right (by omega) ha
  have h2 : 2 ^ b ≤ 2 ^ 10 := Nat.pow_le_pow_right (by omega) hb
  rw [nI_leI (by omega) (by omega)]
  exact Nat.pow_le_pow_iff_right (by omega)
theorem x_goesAhead {d o j : Nat} {x y : It} {iv : zI} {rv : zR} {lv : zJ} (hT : zTop rv) (ho : o ∈ zIts) (hj : j < 10) (h1 : iv (o + 1) j = nI y.1) (h2 : iv (o + 2) j = nI y.2.1) (h3 : iv (o + 3) j = nI y.2.2) (hy : y.1 < 2 ^ 31 ∧ y.2.1 < 1024 ∧ y.2.2 < 1024) (hx : x.1 < 2 ^ 31 ∧ x.2.1 < 1024 ∧ x.2.2 < 1024) :
    Ci mX3_goesAhead (d + 1) [.ref o, .int (nI x.1), .int (nI (2 ^ lw (x.2.1 ||| x.2.2))), .int (nI j)] iv rv lv (zP (bI (ahead x y)) iv rv lv) := by
  refine eX3_goesAhead o _ _ _ (bX3_goesAhead_0 o _ _ _ hT ho ?_)
  have sx := or_10 hx.2.1 hx.2.2
  have sy := or_10 hy.2.1 hy.2.2
  rw [nI_clamp (by omega), h1, h2, h3, nI_ltI hy.1 hx.1, nI_eq hx.1 hy.1, bI_or]
  refine ⟨vp_in_nI hj (by decide), fun q => zP.mk ?_, fun q => ⟨fun q2 => zP.mk ?_, fun q2 => zcall (x_leastMember hT sy) hT ?_⟩⟩
  · unfold ahead
    rw [decide_eq_true q]
    rfl
  · unfold ahead
    rw [decide_eq_false q, decide_eq_false q2]
    rfl
  · rw [p2_le (lw_le _ sx) (lw_le _ sy)]
    unfold ahead
    rw [decide_eq_false q, decide_eq_true q2]
    refine ⟨fun q3 => zP.mk ?_, fun q3 => zP.mk ?_⟩
    · rw [decide_eq_false (by omega)]
      rfl
    · rw [decide_eq_true (by omega)]
      rfl
theorem x_insert {d o c B : Nat} {f : Nat → It} {x : It} {iv : zI} {rv : zR} {lv : zJ} (hT : zTop rv) (ho : o ∈ zIts) (hR : RI iv o c f) (hc : c < 10) (hb : BI f c B) (hB : B < 2 ^ 31) (hx : x.1 ≤ B ∧ x.2.1 < 1024 ∧ x.2.2 < 1024) :
    Cv mX3_insert (d + 2) [.ref o, .int (nI x.1), .int (nI x.2.1), .int (nI x.2.2)] iv rv lv (fun a b c' => b = rv ∧ c' = lv ∧ RI a o (c + 1) (ins x f c) ∧ ∀ p, p < o ∨ o + 3 < p → a p = iv p) := by
  have hx1 : x.1 < 2 ^ 31 := by omega
  have sx := or_10 hx.2.1 hx.2.2
  refine eX3_insert o _ _ _ (bX3_insert_0 o _ _ _ hT ho ?_)
  rw [hR.1]
  refine ⟨fun _ => ?_, fun z => absurd (show nI c < nI 10 from nI_lt hc (by omega)) z⟩
  have wr : ∀ (a : Nat) (w : zI), a ≤ c → pos x f c = a → (∀ j, j < a → w (o + 1) j = nI (f j).1 ∧ w (o + 2) j = nI (f j).2.1 ∧ w (o + 3) j = nI (f j).2.2) → (∀ j, a < j → j ≤ c → w (o + 1) j = nI (f (j - 1)).1 ∧ w (o + 2) j = nI (f (j - 1)).2.1 ∧ w (o + 3) j = nI (f (j - 1)).2.2) → w o = iv o → (∀ p, p < o ∨ o + 3 < p → w p = iv p) → Zv mX3_insert (d + 2) 93 [some (.ref o), some (.int (nI x.1)), some (.int (nI x.2.1)), some (.int (nI x.2.2)), some (.int (nI a))] [] w rv lv (fun a b c' => b = rv ∧ c' = lv ∧ RI a o (c + 1) (ins x f c) ∧ ∀ p, p < o ∨ o + 3 < p → a p = iv p) := by
    intro a w ha hp g1 g2 g3 g4
    refine bX3_insert_93 o _ _ _ _ hT ho ?_
    rw [nI_clamp (by omega)]
    refine ⟨vp_in_nI (by omega) (by decide), fun w1 e1 w2 e2 w3 e3 w4 e4 => ⟨rfl, rfl, ⟨?_, fun j hj => ?_⟩, fun p hp => ?_⟩⟩
    · have : w3 o 0 = nI c := by rw [e3, zu_row (by omega), e2, zu_row (by omega), e1, zu_row (by omega), g3]; exact hR.1
      rw [e4, zu_eq, this, nI_1]
    · have v1 : w4 (o + 1) j = zu w (o + 1) a (nI x.1) (o + 1) j := by rw [e4, zu_row (by omega), e3, zu_row (by omega), e2, zu_row (by omega), e1]
      have v2 : w4 (o + 2) j = zu w (o + 2) a (nI x.2.1) (o + 2) j := by
        rw [e4, zu_row (by omega), e3, zu_row (by omega), e2]
        by_cases q : j = a
        · rw [q, zu_eq, zu_eq]
        · rw [zu_k q, zu_k q, e1, zu_row (by omega)]
      have v3 : w4 (o + 3) j = zu w (o + 3) a (nI x.2.2) (o + 3) j := by
        rw [e4, zu_row (by omega), e3]
        by_cases q : j = a
        · rw [q, zu_eq, zu_eq]
        · rw [zu_k q, zu_k q, e2, zu_row (by omega), e1, zu_row (by omega)]
      rw [v1, v2, v3]
      unfold ins
      rw [hp]
      rcases Nat.lt_trichotomy j a with q | q | q
      · rw [put_lt q, zu_k (by omega), zu_k (by omega), zu_k (by omega)]
        exact g1 j q
      · rw [q, put_eq, zu_eq, zu_eq, zu_eq]
        exact ⟨rfl, rfl, rfl⟩
      · rw [put_gt q, zu_k (by omega), zu_k (by omega), zu_k (by omega)]
        exact g2 j q (by omega)
    · rw [e4, zu_row (by omega), e3, zu_row (by omega), e2, zu_row (by omega), e1, zu_row (by omega)]
      exact g4 p hp
  have go : ∀ (a : Nat) (w : zI), a ≤ c → pos x f c = pos x f a → (∀ j, j < a → w (o + 1) j = nI (f j).1 ∧ w (o + 2) j = nI (f j).2.1 ∧ w (o + 3) j = nI (f j).2.2) → (∀ j, a < j → j ≤ c → w (o + 1) j = nI (f (j - 1)).1 ∧ w (o + 2) j = nI (f (j - 1)).2.1 ∧ w (o + 3) j = nI (f (j - 1)).2.2) → w o = iv o → (∀ p, p < o ∨ o + 3 < p → w p = iv p) → Zv mX3_insert (d + 2) 16 [some (.ref o), some (.int (nI x.1)), some (.int (nI x.2.1)), some (.int (nI x.2.2)), some (.int (nI a))] [] w rv lv (fun a b c' => b = rv ∧ c' = lv ∧ RI a o (c + 1) (ins x f c) ∧ ∀ p, p < o ∨ o + 3 < p → a p = iv p) := by
    intro a
    induction a with
    | zero =>
      intro w ha hp g1 g2 g3 g4
      exact bX3_insert_16 o _ _ _ _ hT ho ⟨fun _ => wr 0 w ha hp g1 g2 g3 g4, fun z => absurd (by decide) z⟩
    | succ a ih =>
      intro w ha hp g1 g2 g3 g4
      have fb := hb a (by omega)
      obtain ⟨k1, k2, k3⟩ := g1 a (by omega)
      refine bX3_insert_16 o _ _ _ _ hT ho ⟨fun z => absurd z (show ¬ nI (a + 1) ≤ nI 0 from nI_ge (by omega) (by omega)), fun _ => ?_⟩
      rw [bI_or]
      refine zcall (x_leastMember hT sx) hT ?_
      rw [nI_pred]
      refine zcall (x_goesAhead hT ho (by omega) k1 k2 k3 ⟨by omega, fb.2⟩ ⟨hx1, hx.2⟩) hT ?_
      rw [pos] at hp
      cases q : ahead x (f a) with
      | false =>
        rw [q, if_neg (by simp)] at hp
        exact ⟨fun _ => wr (a + 1) w ha hp g1 g2 g3 g4, fun z => absurd rfl z⟩
      | true =>
        rw [q, if_pos rfl] at hp
        refine ⟨fun z => absurd (show (1 : Int32) = 0 from z) (by decide), fun _ => ?_⟩
        rw [nI_clamp (show a < 2 ^ 31 by omega), nI_clamp (show a + 1 < 2 ^ 31 by omega), nI_dn, nI_pred]
        refine ⟨vp_in_nI (by omega) (by decide), vp_in_nI (by omega) (by decide), fun w1 e1 w2 e2 w3 e3 => ?_⟩
        have m2 : w1 (o + 2) a = nI (f a).2.1 := by rw [e1, zu_row (by omega)]; exact k2
        have m3 : w2 (o + 3) a = nI (f a).2.2 := by rw [e2, zu_row (by omega), e1, zu_row (by omega)]; exact k3
        rw [k1] at e1
        rw [m2] at e2
        rw [m3] at e3
        have v1 : ∀ j, w3 (o + 1) j = zu w (o + 1) (a + 1) (nI (f a).1) (o + 1) j := fun j => by rw [e3, zu_row (by omega), e2, zu_row (by omega), e1]
        have v2 : ∀ j, w3 (o + 2) j = zu w (o + 2) (a + 1) (nI (f a).2.1) (o + 2) j := fun j => by
          rw [e3, zu_row (by omega), e2]
          by_cases q : j = a + 1
          · rw [q, zu_eq, zu_eq]
          · rw [zu_k q, zu_k q, e1, zu_row (by omega)]
        have v3 : ∀ j, w3 (o + 3) j = zu w (o + 3) (a + 1) (nI (f a).2.2) (o + 3) j := fun j => by
          rw [e3]
          by_cases q : j = a + 1
          · rw [q, zu_eq, zu_eq]
          · rw [zu_k q, zu_k q, e2, zu_row (by omega), e1, zu_row (by omega)]
        refine ih w3 (by omega) hp (fun j hj => ?_) (fun j j1 j2 => ?_) (by rw [e3, zu_row (by omega), e2, zu_row (by omega), e1, zu_row (by omega)]; exact g3) (fun p hp => by rw [e3, zu_row (by omega), e2, zu_row (by omega), e1, zu_row (by omega)]; exact g4 p hp)
        · rw [v1, v2, v3, zu_k (by omega), zu_k (by omega), zu_k (by omega)]
          exact g1 j (by omega)
        · rw [v1, v2, v3]
          by_cases q : j = a + 1
          · rw [q, zu_eq, zu_eq, zu_eq, Nat.add_sub_cancel]
            exact ⟨rfl, rfl, rfl⟩
          · rw [zu_k q, zu_k q, zu_k q]
            exact g2 j (by omega) j2
  exact go c iv (Nat.le_refl _) rfl hR.2 (fun j j1 j2 => by omega) rfl (fun _ _ => rfl)
theorem x_take {d o : Nat} {s : Sn} {iv : zI} {rv : zR} {lv : zJ} (hT : zTop rv) (ho : o ∈ zIts) (cs : CS iv 8 s) (vs : VS s) :
    Cv mX3_takeNumbers (d + 3) [.ref o, .ref 8] iv rv lv (fun a b c' => b = rv ∧ c' = lv ∧ RI a o s.1 (tk s.2.2.1 s.1) ∧ ∀ p, p < o ∨ o + 3 < p → a p = iv p) := by
  have vn := vs.1
  have o8 : 12 < o := by
    have : ∀ q ∈ zIts, 12 < q := by decide
    exact this o ho
  refine eX3_takeNumbers o 8 (bX3_takeNumbers_0 o 8 hT ho (by decide) ?_)
  intro w0 e0
  have key := zfor (c := s.1) (P := fun i => ∀ w : zI, RI w o i (tk s.2.2.1 i) → (∀ p, p < o ∨ o + 3 < p → w p = iv p) → Zv mX3_takeNumbers (d + 3) 7 [some (.ref o), some (.ref 8), some (.int (nI i))] [] w rv lv (fun a b c' => b = rv ∧ c' = lv ∧ RI a o s.1 (tk s.2.2.1 s.1) ∧ ∀ p, p < o ∨ o + 3 < p → a p = iv p)) ?_ ?_
  · exact key 0 (by omega) w0 ⟨by rw [e0, zu_eq]; rfl, fun j hj => absurd hj (Nat.not_lt_zero _)⟩ (fun p hp => by rw [e0, zu_row (by omega)])
  · intro w g1 g2
    have c0 : w 8 0 = nI s.1 := by rw [g2 8 (by omega)]; exact cs.1
    exact bX3_takeNumbers_7 o 8 _ hT ho (by decide) ⟨fun _ => ⟨rfl, rfl, g1, g2⟩, fun z => absurd (by rw [c0]; exact nI_le (by omega) (by omega)) z⟩
  · intro i hi ih w g1 g2
    have c0 : w 8 0 = nI s.1 := by rw [g2 8 (by omega)]; exact cs.1
    have c9 : w (8 + 1) i = nI (s.2.2.1 i) := by rw [g2 (8 + 1) (by omega)]; exact cs.2.2.1 i hi
    refine bX3_takeNumbers_7 o 8 _ hT ho (by decide) ⟨fun z => ?_, fun _ => ?_⟩
    · rw [c0] at z
      exact absurd z (nI_ge hi (by omega))
    · rw [nI_clamp (show i < 2 ^ 31 by omega), c9, bI_1shl (by omega), nI_1]
      refine ⟨vp_in_nI (by omega) (by decide), zcallV (x_insert (x := (s.2.2.1 i, 2 ^ i, 0)) (B := 9999) hT ho g1 (by omega) (tk_b i (by omega) (fun j hj => (vs.2.2.1 j (by omega)).2)) (by omega) ⟨(vs.2.2.1 i hi).2, Nat.pow_lt_pow_right (by omega) (show i < 10 by omega), by show 0 < 1024; omega⟩) ?_⟩
      rintro a _ _ ⟨rfl, rfl, b1, b2⟩
      exact ⟨hT, ih a b1 (fun p hp => by rw [b2 p hp]; exact g2 p hp)⟩
theorem cpy2 {f : Nat → Int32} {m j : Nat} (hj : j < m) : va_cpy f f 2 0 m j = f (j + 2) := by
  simp only [va_cpy]
  rw [if_pos (by omega)]
  congr 1
  omega
theorem x_merge {d o c B : Nat} {f : Nat → It} {x : It} {s y0 y1 : Int32} {iv : zI} {rv : zR} {lv : zJ} (hT : zTop rv) (ho : o ∈ zIts) (hR : RI iv o c f) (hc2 : 2 ≤ c) (hc : c ≤ 10) (hb : BI f c B) (hB : B < 2 ^ 31) (hx : x.1 ≤ B ∧ x.2.1 < 1024 ∧ x.2.2 < 1024) (hy : y1 ||| y0 = nI x.2.2) :
    Zv mX3_joinFirstTwo (d + 3) 95 [some (.ref o), some (.int s), some (.int (nI x.1)), some (.int (nI x.2.1)), none] [.int y0, .int y1] iv rv lv (fun a b c' => b = rv ∧ c' = lv ∧ RI a o (c - 1) (ins x (fun j => f (j + 2)) (c - 2)) ∧ ∀ p, p < o ∨ o + 3 < p → a p = iv p) := by
  refine bX3_joinFirstTwo_95 o _ _ _ _ _ hT ho ?_
  rw [hR.1, z_2, pk_sub hc2, hy]
  intro w1 e1
  have c1 : w1 o 0 = nI (c - 2) := by rw [e1, zu_eq]
  rw [c1, nI_clamp (by omega)]
  refine ⟨nI_pos (by omega), by omega, by omega, fun w2 e2 => ?_⟩
  have c2 : w2 o 0 = nI (c - 2) := by rw [e2]; simp only [show ¬ o = o + 1 by omega, if_false]; exact c1
  rw [c2, nI_clamp (by omega)]
  refine ⟨nI_pos (by omega), by omega, by omega, fun w3 e3 => ?_⟩
  have c3 : w3 o 0 = nI (c - 2) := by rw [e3]; simp only [show ¬ o = o + 2 by omega, if_false]; exact c2
  rw [c3, nI_clamp (by omega)]
  refine ⟨nI_pos (by omega), by omega, by omega, fun w4 e4 => ?_⟩
  have r4 : ∀ p, p ≠ o + 1 → p ≠ o + 2 → p ≠ o + 3 → w4 p = w1 p := fun p p1 p2 p3 => by
    rw [e4]; simp only [p3, if_false]
    rw [e3]; simp only [p2, if_false]
    rw [e2]; simp only [p1, if_false]
  have v1 : w4 (o + 1) = va_cpy (iv (o + 1)) (iv (o + 1)) 2 0 (c - 2) := by
    rw [e4]; simp only [show ¬ o + 1 = o + 3 by omega, if_false]
    rw [e3]; simp only [show ¬ o + 1 = o + 2 by omega, if_false]
    rw [e2]; simp only [if_true]
    rw [e1, zu_row (by omega)]
  have v2 : w4 (o + 2) = va_cpy (iv (o + 2)) (iv (o + 2)) 2 0 (c - 2) := by
    rw [e4]; simp only [show ¬ o + 2 = o + 3 by omega, if_false]
    rw [e3]; simp only [if_true]
    rw [e2]; simp only [show ¬ o + 2 = o + 1 by omega, if_false]
    rw [e1, zu_row (by omega)]
  have v3 : w4 (o + 3) = va_cpy (iv (o + 3)) (iv (o + 3)) 2 0 (c - 2) := by
    rw [e4]; simp only [if_true]
    rw [e3]; simp only [show ¬ o + 3 = o + 2 by omega, if_false]
    rw [e2]; simp only [show ¬ o + 3 = o + 1 by omega, if_false]
    rw [e1, zu_row (by omega)]
  have hR2 : RI w4 o (c - 2) (fun j => f (j + 2)) := by
    refine ⟨by rw [r4 o (by omega) (by omega) (by omega)]; exact c1, fun j hj => ?_⟩
    rw [v1, v2, v3, cpy2 hj, cpy2 hj, cpy2 hj]
    exact hR.2 (j + 2) (by omega)
  refine zcallV (x_insert (f := fun j => f (j + 2)) (x := x) (B := B) hT ho hR2 (by omega) (fun j hj => hb (j + 2) (by omega)) hB hx) ?_
  rintro a _ _ ⟨rfl, rfl, b1, b2⟩
  rw [show c - 2 + 1 = c - 1 by omega] at b1
  exact ⟨hT, rfl, rfl, b1, fun p hp => by rw [b2 p hp, r4 p (by omega) (by omega) (by omega), e1, zu_row (by omega)]⟩
theorem x_diff2 {d o c B : Nat} {f : Nat → It} {y : Int32} {iv : zI} {rv : zR} {lv : zJ} (hT : zTop rv) (hy : y = 0) (ho : o ∈ zIts) (hR : RI iv o c f) (hc2 : 2 ≤ c) (hc : c ≤ 10) (hb : BI f c B) (hB : 2 * B < 2 ^ 31) (hs : srt f c) :
    Cv mX3_joinFirstTwo (d + 4) [.ref o, .int y] iv rv lv (fun a b c' => b = rv ∧ c' = lv ∧ RI a o (c - 1) (jn f c true) ∧ ∀ p, p < o ∨ o + 3 < p → a p = iv p) := by
  refine eX3_joinFirstTwo o _ (bX3_joinFirstTwo_0 o _ hT ho ?_)
  obtain ⟨a1, a2, a3⟩ := hR.2 0 (by omega)
  obtain ⟨b1, b2, b3⟩ := hR.2 1 (by omega)
  refine ⟨fun _ => ⟨fun _ => bX3_joinFirstTwo_42 o _ _ hT ho ⟨fun _ => bX3_joinFirstTwo_68 o _ _ _ _ hT ho ⟨fun _ => ?_, fun z => absurd hy z⟩, fun z => absurd hy z⟩, fun z => absurd hy z⟩, fun z => absurd (by rw [hR.1, z_2]; exact nI_le hc2 (by omega)) z⟩
  rw [a1, a2, a3, b1, b2, b3, pk_sub (srt_01 hs hc2), bI_or]
  exact x_merge (d := d + 1) (x := jd f true) (B := 2 * B) hT ho hR hc2 hc (BI_up hb (by omega)) hB (jd_b true hb hc2) (bI_or ..)
theorem x_add2 {d o c B : Nat} {f : Nat → It} {y : Int32} {iv : zI} {rv : zR} {lv : zJ} (hT : zTop rv) (hy : ¬ y = 0) (ho : o ∈ zIts) (hR : RI iv o c f) (hc2 : 2 ≤ c) (hc : c ≤ 10) (hb : BI f c B) (hB : 2 * B < 2 ^ 31) :
    Cv mX3_joinFirstTwo (d + 4) [.ref o, .int y] iv rv lv (fun a b c' => b = rv ∧ c' = lv ∧ RI a o (c - 1) (jn f c false) ∧ ∀ p, p < o ∨ o + 3 < p → a p = iv p) := by
  refine eX3_joinFirstTwo o _ (bX3_joinFirstTwo_0 o _ hT ho ?_)
  obtain ⟨a1, a2, a3⟩ := hR.2 0 (by omega)
  obtain ⟨b1, b2, b3⟩ := hR.2 1 (by omega)
  refine ⟨fun _ => ⟨fun z => absurd z hy, fun _ => bX3_joinFirstTwo_42 o _ _ hT ho ⟨fun z => absurd z hy, fun _ => bX3_joinFirstTwo_68 o _ _ _ _ hT ho ⟨fun z => absurd z hy, fun _ => ?_⟩⟩⟩, fun z => absurd (by rw [hR.1, z_2]; exact nI_le hc2 (by omega)) z⟩
  rw [a1, a2, a3, b1, b2, b3, nI_add, bI_or]
  exact x_merge (d := d + 1) (x := jd f false) (B := 2 * B) hT ho hR hc2 hc (BI_up hb (by omega)) hB (jd_b false hb hc2) (bI_or ..)
theorem x_run {d : Nat} {s : Sn} {iv : zI} {rv : zR} {lv : zJ} (hT : zTop rv) (cs : CS iv 8 s) (vs : VS s) :
    Cv mX0_run (d + 5) [.ref 79, .ref 8] iv rv lv (fun a b c' => b = rv ∧ c' = lv ∧ RI a 80 1 (df1 s.2.2.1 s.1 (s.1 - 1)) ∧ (∀ j, j < s.1 - 1 → a 84 j = nI (df1 s.2.2.1 s.1 j 0).1 ∧ a 85 j = nI (df1 s.2.2.1 s.1 j 1).1) ∧ ∀ p, p < 80 ∨ 85 < p → a p = iv p) := by
  have vn := vs.1
  have vv : ∀ i, i < s.1 → s.2.2.1 i ≤ 9999 := fun i hi => (vs.2.2.1 i hi).2
  refine eX0_run 8 (bX0_run_0 8 hT (by decide) (zcallV (x_take (o := 80) hT (by decide) cs vs) ?_))
  rintro w0 rv1 lv1 ⟨q1, q2, g1, g2⟩
  have q1 := q1.symm
  have q2 := q2.symm
  subst q1 q2
  refine ⟨hT, ?_⟩
  have key := zfor (c := s.1 - 1) (P := fun m => ∀ w : zI, RI w 80 (s.1 - m) (df1 s.2.2.1 s.1 m) → (∀ j, j < m → w 84 j = nI (df1 s.2.2.1 s.1 j 0).1 ∧ w 85 j = nI (df1 s.2.2.1 s.1 j 1).1) → (∀ p, p < 80 ∨ 85 < p → w p = iv p) → Zv mX0_run (d + 5) 10 [some (.ref 79), some (.ref 8), some (.int (nI m))] [] w rv lv (fun a b c' => b = rv ∧ c' = lv ∧ RI a 80 1 (df1 s.2.2.1 s.1 (s.1 - 1)) ∧ (∀ j, j < s.1 - 1 → a 84 j = nI (df1 s.2.2.1 s.1 j 0).1 ∧ a 85 j = nI (df1 s.2.2.1 s.1 j 1).1) ∧ ∀ p, p < 80 ∨ 85 < p → a p = iv p)) ?_ ?_
  · exact key 0 (by omega) w0 g1 (fun j hj => absurd hj (Nat.not_lt_zero _)) (fun p hp => g2 p (by omega))
  · intro w b1 b2 b3
    have c0 : w 8 0 = nI s.1 := by rw [b3 8 (by omega)]; exact cs.1
    rw [show s.1 - (s.1 - 1) = 1 by omega] at b1
    refine bX0_run_10 8 _ hT (by decide) ⟨fun _ => ⟨rfl, rfl, b1, b2, b3⟩, fun z => ?_⟩
    rw [c0, z_1, pk_sub (by omega)] at z
    exact absurd (nI_le (Nat.le_refl _) (by omega)) z
  · intro m hm ih w b1 b2 b3
    have c0 : w 8 0 = nI s.1 := by rw [b3 8 (by omega)]; exact cs.1
    refine bX0_run_10 8 _ hT (by decide) ⟨fun z => ?_, fun _ => ?_⟩
    · rw [c0, z_1, pk_sub (by omega)] at z
      exact absurd z (nI_ge hm (by omega))
    · rw [nI_clamp (show m < 2 ^ 31 by omega), nI_1]
      refine ⟨vp_in_nI (by omega) (by decide), fun w1 e1 w2 e2 => ?_⟩
      have a0 : w (80 + 1) 0 = nI (df1 s.2.2.1 s.1 m 0).1 := (b1.2 0 (by omega)).1
      have a1 : w1 (80 + 1) 1 = nI (df1 s.2.2.1 s.1 m 1).1 := by rw [e1, zu_row (by omega)]; exact (b1.2 1 (by omega)).1
      rw [a0] at e1
      rw [a1] at e2
      have rr : ∀ p, p ≠ 84 → p ≠ 85 → w2 p = w p := fun p p1 p2 => by rw [e2, zu_row p2, e1, zu_row p1]
      have pb : 9999 * 2 ^ m ≤ 9999 * 2 ^ 9 := Nat.mul_le_mul_left _ (Nat.pow_le_pow_right (by omega) (by omega))
      refine zcallV (x_diff2 (o := 80) (B := 9999 * 2 ^ m) hT rfl (by decide) (b1.fr (fun t ht => rr _ (by omega) (by omega))) (by omega) (by omega) (df1_b vn.2 vv m (by omega)) (by omega) (df1_s m (by omega))) ?_
      rintro a rv1 lv1 ⟨q1, q2, d1, d2⟩
      have q1 := q1.symm
      have q2 := q2.symm
      subst q1 q2
      rw [show s.1 - m - 1 = s.1 - (m + 1) by omega] at d1
      refine ⟨hT, ih a d1 (fun j hj => ?_) (fun p hp => by rw [d2 p (by omega), rr p (by omega) (by omega)]; exact b3 p hp)⟩
      rw [d2 84 (by omega), d2 85 (by omega), e2]
      by_cases c : j = m
      · rw [c, zu_eq, zu_row (by omega), e1, zu_eq]
        exact ⟨rfl, rfl⟩
      · refine ⟨?_, ?_⟩
        · rw [zu_row (by omega), e1, zu_k c]
          exact (b2 j (by omega)).1
        · rw [zu_k c, e1, zu_row (by omega)]
          exact (b2 j (by omega)).2
