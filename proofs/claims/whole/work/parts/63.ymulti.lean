/-! THE REFERENCE: several heaps at once. -/
def RQ (w : zI) (c : Nat) (g : Li) : Prop := w 174 43 = nI c ∧ ∀ j, j < c → ∀ p, p < 4 → w 192 (4 * j + p) = nI (g j p).1 ∧ w 193 (4 * j + p) = nI (g j p).2.1
def FP (iv a : zI) : Prop := (∀ p, p < 174 ∨ (174 < p ∧ p < 192) ∨ 195 < p → a p = iv p) ∧ ∀ b, b ≠ 43 → a 174 b = iv 174 b
theorem FP.refl {iv : zI} : FP iv iv := ⟨fun _ _ => rfl, fun _ _ => rfl⟩
theorem FP.trans {iv a b : zI} (h : FP iv a) (g : FP a b) : FP iv b := ⟨fun p hp => by rw [g.1 p hp]; exact h.1 p hp, fun q hq => by rw [g.2 q hq]; exact h.2 q hq⟩
theorem FP.fn {iv a : zI} (h : FP iv a) : FN iv a := ⟨fun p hp => h.1 p (by omega), fun b hb => h.2 b (by omega)⟩
theorem FP.of {iv a : zI} (h : ∀ p, p < 192 ∨ 195 < p → a p = iv p) : FP iv a := ⟨fun p hp => h p (by omega), fun b _ => by rw [h 174 (by omega)]⟩
theorem y_isBefore {d p q : Nat} {x y : It} {iv : zI} {rv : zR} {lv : zJ} (hT : zTop rv) (hp : p < 4) (hq : q < 4) (x1 : iv 194 p = nI x.1) (x2 : iv 195 p = nI x.2.1) (y1 : iv 194 q = nI y.1) (y2 : iv 195 q = nI y.2.1) (hx : x.1 < 2 ^ 31 ∧ x.2.1 < 1024 ∧ x.2.2 = 0) (hy : y.1 < 2 ^ 31 ∧ y.2.1 < 1024 ∧ y.2.2 = 0) :
    Ci mX11_isBefore (d + 2) [.ref 174, .int (nI p), .int (nI q)] iv rv lv (zP (bI (ahead x y)) iv rv lv) := by
  refine eX11_isBefore _ _ (bX11_isBefore_0 _ _ hT ?_)
  rw [nI_clamp (show p < 2 ^ 31 by omega), nI_clamp (show q < 2 ^ 31 by omega), x1, x2, y1, nI_eq hx.1 hy.1, nI_leI hx.1 hy.1]
  refine ⟨vp_in_nI hp (by decide), vp_in_nI hq (by decide), fun e => zcall (y_lowest hT hx.2.1) hT ?_, fun e => ⟨fun z => zP.mk ?_, fun z => zP.mk ?_⟩⟩
  · rw [y2]
    refine zcall (y_lowest hT hy.2.1) hT ?_
    have ox := (lo_ok _ hx.2.1).2.2
    have oy := (lo_ok _ hy.2.1).2.2
    rw [nI_leI (by omega) (by omega)]
    have ea : ahead x y = decide (lw x.2.1 < lw y.2.1) := by
      unfold ahead
      rw [decide_eq_false (by omega), decide_eq_true e, hx.2.2, hy.2.2, Nat.or_zero, Nat.or_zero]
      simp
    rw [ea]
    refine ⟨fun q3 => zP.mk ?_, fun q3 => zP.mk ?_⟩
    · rw [decide_eq_false (by omega)]
      rfl
    · rw [decide_eq_true (by omega)]
      rfl
  · unfold ahead
    rw [decide_eq_false (by omega), decide_eq_false e]
    rfl
  · unfold ahead
    rw [decide_eq_true (by omega)]
    rfl
theorem y_width {d j k c B : Nat} {g : Li} {iv : zI} {rv : zR} {lv : zJ} (hT : zTop rv) (hj : j < c) (hc : c ≤ 10) (hk1 : 2 ≤ k) (hk : k ≤ 4) (hR : ∀ p, p < 4 → iv 192 (4 * j + p) = nI (g j p).1 ∧ iv 193 (4 * j + p) = nI (g j p).2.1) (hg : IG k B (g j)) :
    Ci mX11_width d [.ref 174, .int (nI j), .int (nI k)] iv rv lv (zP (nI (ky k (g j)).1) iv rv lv) := by
  refine eX11_width _ _ (bX11_width_0 _ _ hT ?_)
  rw [z_4, pk_mul, nI_add, z_1, pk_sub (show 1 ≤ 4 * j + k by omega), nI_clamp (show 4 * j < 2 ^ 31 by omega), nI_clamp (show 4 * j + k - 1 < 2 ^ 31 by omega), show 4 * j + k - 1 = 4 * j + (k - 1) by omega, (hR (k - 1) (by omega)).1]
  have h0 := (hR 0 (by omega)).1
  rw [Nat.add_zero] at h0
  rw [h0, pk_sub (by rw [hg.2.1]; exact Nat.zero_le _)]
  exact ⟨vp_in_nI (by omega) (by decide), vp_in_nI (by omega) (by decide), zP.mk rfl⟩
theorem al_4 {k B : Nat} {f : Pa} (hk : k ≤ 4) (h : IG k B f) : al f 4 = al f k := by
  have : ∀ n, al f (k + n) = al f k := fun n => by
    induction n with
    | zero => rfl
    | succ n ih =>
      rw [← Nat.add_assoc, al, ih, h.2.2 (k + n) (by omega)]
      exact Nat.or_zero _
  have := this (4 - k)
  rw [show k + (4 - k) = 4 by omega] at this
  exact this
theorem y_setOf {d j k c B : Nat} {g : Li} {iv : zI} {rv : zR} {lv : zJ} (hT : zTop rv) (hj : j < c) (hc : c ≤ 10) (hk : k ≤ 4) (hR : ∀ p, p < 4 → iv 192 (4 * j + p) = nI (g j p).1 ∧ iv 193 (4 * j + p) = nI (g j p).2.1) (hg : IG k B (g j)) :
    Ci mX11_setOf d [.ref 174, .int (nI j)] iv rv lv (zP (nI (al (g j) k)) iv rv lv) := by
  refine eX11_setOf _ (bX11_setOf_0 _ hT ?_)
  have h0 := (hR 0 (by omega)).2
  rw [Nat.add_zero] at h0
  rw [z_4, pk_mul, nI_1, z_2, z_3, nI_add, nI_add, nI_clamp (show 4 * j < 2 ^ 31 by omega), nI_clamp (show 4 * j + 1 < 2 ^ 31 by omega), nI_clamp (show 4 * j + 2 < 2 ^ 31 by omega), nI_clamp (show 4 * j + 3 < 2 ^ 31 by omega), h0, (hR 1 (by omega)).2, (hR 2 (by omega)).2, (hR 3 (by omega)).2, bI_or, bI_or, bI_or]
  refine ⟨vp_in_nI (by omega) (by decide), vp_in_nI (by omega) (by decide), vp_in_nI (by omega) (by decide), vp_in_nI (by omega) (by decide), zP.mk ?_⟩
  rw [← al_4 hk hg]
  show _ = nI ((((0 ||| (g j 0).2.1) ||| (g j 1).2.1) ||| (g j 2).2.1) ||| (g j 3).2.1)
  rw [Nat.zero_or]
theorem y_places {d k c B : Nat} {f : Pa} {g : Li} {iv : zI} {rv : zR} {lv : zJ} (hT : zTop rv) (hk1 : 2 ≤ k) (hk : k ≤ 4) (hc : c < 10) (hB : B < 2 ^ 31) (hR : RQ iv c g) (hg : ∀ j, j < c → IG k B (g j)) (hF : RP iv 194 195 k f) (hf : ∀ p, p < k → (f p).1 ≤ B ∧ (f p).2.1 < 1024 ∧ (f p).2.2 = 0) :
    Cv mX11_places (d + 3) [.ref 174, .int (nI k)] iv rv lv (fun a b c' => b = rv ∧ c' = lv ∧ RQ a (c + 1) (insP k (mk2 k f) g c) ∧ FP iv a) := by
  refine eX11_places _ (bX11_places_0 _ hT ?_)
  have gX := mk2_IG (f := f) hk1 hf
  -- writing
  have wr : ∀ (P : Nat) (x2 x3 x4 : Int32) (w0 : zI), P ≤ c → pos (ky k (mk2 k f)) (kys k g) c = P → (∀ j, j < P → ∀ p, p < 4 → w0 192 (4 * j + p) = nI (g j p).1 ∧ w0 193 (4 * j + p) = nI (g j p).2.1) → (∀ j, P < j → j ≤ c → ∀ p, p < 4 → w0 192 (4 * j + p) = nI (g (j - 1) p).1 ∧ w0 193 (4 * j + p) = nI (g (j - 1) p).2.1) → RP w0 194 195 k (mk2 k f) → w0 174 43 = nI c → FP iv w0 → Zv mX11_places (d + 3) 288 [some (.ref 174), some (.int (nI k)), some (.int x2), some (.int x3), some (.int x4), some (.int (nI P)), some (.int (nI 0))] [] w0 rv lv (fun a b c' => b = rv ∧ c' = lv ∧ RQ a (c + 1) (insP k (mk2 k f) g c) ∧ FP iv a) := by
    intro P x2 x3 x4 w0 hP hpos g1 g2 g3 g4 g5
    have key := zfor (c := 4) (P := fun p => ∀ w : zI, (∀ q, q < p → w 192 (4 * P + q) = nI (mk2 k f q).1 ∧ w 193 (4 * P + q) = nI (mk2 k f q).2.1) → (∀ r, r < 4 * P ∨ 4 * P + 4 ≤ r → w 192 r = w0 192 r ∧ w 193 r = w0 193 r) → (∀ r, r ≠ 192 → r ≠ 193 → w r = w0 r) → Zv mX11_places (d + 3) 288 [some (.ref 174), some (.int (nI k)), some (.int x2), some (.int x3), some (.int x4), some (.int (nI P)), some (.int (nI p))] [] w rv lv (fun a b c' => b = rv ∧ c' = lv ∧ RQ a (c + 1) (insP k (mk2 k f) g c) ∧ FP iv a)) ?_ ?_
    · exact key 0 (by omega) w0 (fun q hq => absurd hq (Nat.not_lt_zero _)) (fun _ _ => ⟨rfl, rfl⟩) (fun _ _ _ => rfl)
    · intro w k1 k2 k3
      refine bX11_places_288 _ _ _ _ _ _ hT ⟨fun _ u eu => ⟨rfl, rfl, ⟨?_, fun j hj p hp => ?_⟩, ?_⟩, fun z => absurd (by decide) z⟩
      · rw [eu, zu_eq, k3 174 (by omega) (by omega), g4, nI_1]
      · rw [eu, zu_row (by omega), zu_row (by omega)]
        unfold insP
        rw [hpos]
        rcases Nat.lt_trichotomy j P with q | q | q
        · rw [putP_lt q, (k2 (4 * j + p) (by omega)).1, (k2 (4 * j + p) (by omega)).2]
          exact g1 j q p hp
        · rw [q, putP_eq]
          exact k1 p hp
        · rw [putP_gt q, (k2 (4 * j + p) (by omega)).1, (k2 (4 * j + p) (by omega)).2]
          exact g2 j q (by omega) p hp
      · refine g5.trans ⟨fun p hp => by rw [eu, zu_row (by omega)]; exact k3 p (by omega) (by omega), fun b hb => by rw [eu, zu_k hb, k3 174 (by omega) (by omega)]⟩
    · intro p hp ih w k1 k2 k3
      have st : ∀ y : Int32, y = nI (mk2 k f p).1 → Zv mX11_places (d + 3) 322 [some (.ref 174), some (.int (nI k)), some (.int x2), some (.int x3), some (.int x4), some (.int (nI P)), some (.int (nI p))] [.int y, .int (nI (4 * P + p)), .ref 192] w rv lv (fun a b c' => b = rv ∧ c' = lv ∧ RQ a (c + 1) (insP k (mk2 k f) g c) ∧ FP iv a) := by
        intro y ey
        refine bX11_places_322 _ _ _ _ _ _ _ _ 192 40 hT (by decide) (by decide) ?_
        rw [z_4, pk_mul, nI_add, nI_clamp (show 4 * P + p < 2 ^ 31 by omega), nI_clamp (show p < 2 ^ 31 by omega), nI_leI (by omega) (by omega), nI_1]
        refine ⟨vp_in_nI (by omega) (by decide), fun u1 e1 => ?_⟩
        have fin : ∀ u2 : zI, u2 = zu u1 193 (4 * P + p) (nI (mk2 k f p).2.1) → Zv mX11_places (d + 3) 288 [some (.ref 174), some (.int (nI k)), some (.int x2), some (.int x3), some (.int x4), some (.int (nI P)), some (.int (nI (p + 1)))] [] u2 rv lv (fun a b c' => b = rv ∧ c' = lv ∧ RQ a (c + 1) (insP k (mk2 k f) g c) ∧ FP iv a) := by
          intro u2 e2
          refine ih u2 (fun q hq => ?_) (fun r hr => ?_) (fun r r1 r2 => by rw [e2, zu_row r2, e1, zu_row r1]; exact k3 r r1 r2)
          · by_cases z : q = p
            · refine ⟨?_, ?_⟩
              · rw [e2, zu_row (by omega), e1, z, zu_eq]; exact ey
              · rw [e2, z, zu_eq]
            · refine ⟨?_, ?_⟩
              · rw [e2, zu_row (by omega), e1, zu_k (by omega)]; exact (k1 q (by omega)).1
              · rw [e2, zu_k (by omega), e1, zu_row (by omega)]; exact (k1 q (by omega)).2
          · refine ⟨?_, ?_⟩
            · rw [e2, zu_row (by omega), e1, zu_k (by omega)]; exact (k2 r hr).1
            · rw [e2, zu_k (by omega), e1, zu_row (by omega)]; exact (k2 r hr).2
        refine ⟨fun z => ⟨vp_in_nI (by omega) (by decide), fun u2 e2 => fin u2 ?_⟩, fun z => ⟨vp_in_nI (by omega) (by decide), vp_in_nI (by omega) (by decide), fun u2 e2 => fin u2 ?_⟩⟩
        · rw [e2, gX.2.2 p z]
          rfl
        · rw [e2, e1, zu_row (by omega), k3 195 (by omega) (by omega), (g3 p (by omega)).2]
      refine bX11_places_288 _ _ _ _ _ _ hT ⟨fun z => absurd z (show ¬ nI 4 ≤ nI p from nI_ge hp (by omega)), fun _ => ?_⟩
      rw [z_4, pk_mul, nI_add, nI_clamp (show p < 2 ^ 31 by omega), nI_leI (by omega) (by omega)]
      refine ⟨fun z => st 0 ?_, fun z => ⟨vp_in_nI (by omega) (by decide), st _ ?_⟩⟩
      · rw [gX.2.2 p z]
        rfl
      · rw [k3 194 (by omega) (by omega), (g3 p (by omega)).1]
  -- finding the place
  have aX := al_lt (f := mk2 k f) k (fun p hp => (gX.1 p hp).2.1)
  have wX : (ky k (mk2 k f)).1 = (mk2 k f 0).1 := by
    show (mk2 k f 0).1 - (mk2 k f (k - 1)).1 = _
    rw [gX.2.1]
    exact Nat.sub_zero _
  have bX := (gX.1 0 (by omega)).1
  have go : ∀ (a : Nat) (x2 : Int32) (w : zI), a ≤ c → pos (ky k (mk2 k f)) (kys k g) c = pos (ky k (mk2 k f)) (kys k g) a → (∀ j, j < a → ∀ p, p < 4 → w 192 (4 * j + p) = nI (g j p).1 ∧ w 193 (4 * j + p) = nI (g j p).2.1) → (∀ j, a < j → j ≤ c → ∀ p, p < 4 → w 192 (4 * j + p) = nI (g (j - 1) p).1 ∧ w 193 (4 * j + p) = nI (g (j - 1) p).2.1) → RP w 194 195 k (mk2 k f) → w 174 43 = nI c → FP iv w → Zv mX11_places (d + 3) 161 [some (.ref 174), some (.int (nI k)), some (.int x2), some (.int (nI (al (mk2 k f) k))), some (.int (nI (ky k (mk2 k f)).1)), some (.int (nI a)), none] [] w rv lv (fun a b c' => b = rv ∧ c' = lv ∧ RQ a (c + 1) (insP k (mk2 k f) g c) ∧ FP iv a) := by
    intro a
    induction a with
    | zero =>
      intro x2 w ha hp g1 g2 g3 g4 g5
      exact bX11_places_161 _ _ _ _ _ hT ⟨fun _ => wr 0 _ _ _ w (by omega) hp g1 g2 g3 g4 g5, fun z => absurd (by decide) z⟩
    | succ a ih =>
      intro x2 w ha hp g1 g2 g3 g4 g5
      have ga := hg a (by omega)
      have la := g1 a (by omega)
      have bA := (ga.1 0 (by omega)).1
      have wA : (ky k (g a)).1 ≤ B := by
        show (g a 0).1 - _ ≤ B
        omega
      have aA := al_lt (f := g a) k (fun p hp => (ga.1 p hp).2.1)
      rw [pos] at hp
      have shift : ahead (ky k (mk2 k f)) (ky k (g a)) = true → Zv mX11_places (d + 3) 215 [some (.ref 174), some (.int (nI k)), some (.int x2), some (.int (nI (al (mk2 k f) k))), some (.int (nI (ky k (mk2 k f)).1)), some (.int (nI (a + 1))), some (.int (nI 0))] [] w rv lv (fun a b c' => b = rv ∧ c' = lv ∧ RQ a (c + 1) (insP k (mk2 k f) g c) ∧ FP iv a) := by
        intro q
        have q : ahead (ky k (mk2 k f)) (kys k g a) = true := q
        rw [q, if_pos rfl] at hp
        have key := zfor (c := 4) (P := fun p => ∀ u : zI, (∀ q, q < p → u 192 (4 * (a + 1) + q) = nI (g a q).1 ∧ u 193 (4 * (a + 1) + q) = nI (g a q).2.1) → (∀ r, r < 4 * (a + 1) ∨ 4 * (a + 1) + 4 ≤ r → u 192 r = w 192 r ∧ u 193 r = w 193 r) → (∀ r, r ≠ 192 → r ≠ 193 → u r = w r) → Zv mX11_places (d + 3) 215 [some (.ref 174), some (.int (nI k)), some (.int x2), some (.int (nI (al (mk2 k f) k))), some (.int (nI (ky k (mk2 k f)).1)), some (.int (nI (a + 1))), some (.int (nI p))] [] u rv lv (fun a b c' => b = rv ∧ c' = lv ∧ RQ a (c + 1) (insP k (mk2 k f) g c) ∧ FP iv a)) ?_ ?_
        · exact key 0 (by omega) w (fun q hq => absurd hq (Nat.not_lt_zero _)) (fun _ _ => ⟨rfl, rfl⟩) (fun _ _ _ => rfl)
        · intro u u1 u2 u3
          refine bX11_places_215 _ _ _ _ _ _ hT ⟨fun _ => ?_, fun z => absurd (by decide) z⟩
          rw [nI_dn, nI_pred]
          refine ih x2 u (by omega) hp (fun j hj p hp => ?_) (fun j j1 j2 p hp => ?_) (g3.fr (u3 _ (by omega) (by omega)) (u3 _ (by omega) (by omega))) (by rw [u3 174 (by omega) (by omega)]; exact g4) (g5.trans (FP.of (fun p hp => u3 p (by omega) (by omega))))
          · rw [(u2 (4 * j + p) (by omega)).1, (u2 (4 * j + p) (by omega)).2]
            exact g1 j (by omega) p hp
          · by_cases z : j = a + 1
            · rw [z, Nat.add_sub_cancel]
              exact u1 p hp
            · rw [(u2 (4 * j + p) (by omega)).1, (u2 (4 * j + p) (by omega)).2]
              exact g2 j (by omega) j2 p hp
        · intro p hp ih2 u u1 u2 u3
          refine bX11_places_215 _ _ _ _ _ _ hT ⟨fun z => absurd z (show ¬ nI 4 ≤ nI p from nI_ge hp (by omega)), fun _ => ?_⟩
          rw [nI_pred, z_4, pk_mul, pk_mul, nI_add, nI_add, nI_clamp (show 4 * a + p < 2 ^ 31 by omega), nI_clamp (show 4 * (a + 1) + p < 2 ^ 31 by omega), nI_1]
          refine ⟨vp_in_nI (by omega) (by decide), vp_in_nI (by omega) (by decide), fun v1 e1 v2 e2 => ?_⟩
          rw [(u2 (4 * a + p) (by omega)).1, (la p hp).1] at e1
          rw [show v1 193 (4 * a + p) = nI (g a p).2.1 by rw [e1, zu_row (by omega), (u2 (4 * a + p) (by omega)).2]; exact (la p hp).2] at e2
          refine ih2 v2 (fun q hq => ?_) (fun r hr => ?_) (fun r r1 r2 => by rw [e2, zu_row r2, e1, zu_row r1]; exact u3 r r1 r2)
          · by_cases z : q = p
            · refine ⟨?_, ?_⟩
              · rw [e2, zu_row (by omega), e1, z, zu_eq]
              · rw [e2, z, zu_eq]
            · refine ⟨?_, ?_⟩
              · rw [e2, zu_row (by omega), e1, zu_k (by omega)]; exact (u1 q (by omega)).1
              · rw [e2, zu_k (by omega), e1, zu_row (by omega)]; exact (u1 q (by omega)).2
          · refine ⟨?_, ?_⟩
            · rw [e2, zu_row (by omega), e1, zu_k (by omega)]; exact (u2 r hr).1
            · rw [e2, zu_k (by omega), e1, zu_row (by omega)]; exact (u2 r hr).2
      have stay : ahead (ky k (mk2 k f)) (ky k (g a)) = false → Zv mX11_places (d + 3) 288 [some (.ref 174), some (.int (nI k)), some (.int x2), some (.int (nI (al (mk2 k f) k))), some (.int (nI (ky k (mk2 k f)).1)), some (.int (nI (a + 1))), some (.int (nI 0))] [] w rv lv (fun a b c' => b = rv ∧ c' = lv ∧ RQ a (c + 1) (insP k (mk2 k f) g c) ∧ FP iv a) := by
        intro q
        have q : ahead (ky k (mk2 k f)) (kys k g a) = false := q
        exact wr (a + 1) _ _ _ w ha (by rw [hp, q, if_neg (by simp)]) g1 g2 g3 g4 g5
      refine bX11_places_161 _ _ _ _ _ hT ⟨fun z => absurd z (show ¬ nI (a + 1) ≤ nI 0 from nI_ge (by omega) (by omega)), fun _ => ?_⟩
      rw [nI_pred]
      refine zcall (y_width (c := c) hT (by omega) (by omega) hk1 hk la ga) hT ?_
      rw [nI_ltI (by omega) (by omega)]
      refine ⟨fun q => shift ?_, fun q => zcall (y_width (c := c) hT (by omega) (by omega) hk1 hk la ga) hT ?_⟩
      · unfold ahead
        rw [decide_eq_true q]
        rfl
      · rw [nI_eq (by omega) (by omega)]
        refine ⟨fun q2 => stay ?_, fun q2 => zcall (y_lowest hT aX) hT (zcall (y_setOf (c := c) hT (by omega) (by omega) hk la ga) hT (zcall (y_lowest hT aA) hT ?_))⟩
        · unfold ahead
          rw [decide_eq_false q, decide_eq_false q2]
          rfl
        · have ox := (lo_ok _ aX).2.2
          have oy := (lo_ok _ aA).2.2
          rw [nI_leI (by omega) (by omega)]
          have ea : ahead (ky k (mk2 k f)) (ky k (g a)) = decide (lw (al (mk2 k f) k) < lw (al (g a) k)) := by
            unfold ahead
            rw [decide_eq_false q, decide_eq_true q2]
            show (false || (true && decide (lw (al (mk2 k f) k ||| 0) < lw (al (g a) k ||| 0)))) = _
            rw [Nat.or_zero, Nat.or_zero]
            simp
          refine ⟨fun q3 => stay ?_, fun q3 => shift ?_⟩
          · rw [ea, decide_eq_false (by omega)]
          · rw [ea, decide_eq_true (by omega)]
  -- taking off what all have
  have sub : ∀ (w0 : zI), RP w0 194 195 k (isr f k) → (∀ p, p ≠ 194 → p ≠ 195 → w0 p = iv p) → Zv mX11_places (d + 3) 114 [some (.ref 174), some (.int (nI k)), some (.int (nI (isr f k (k - 1)).1)), some (.int (nI 0)), some (.int (nI 0)), none, none] [] w0 rv lv (fun a b c' => b = rv ∧ c' = lv ∧ RQ a (c + 1) (insP k (mk2 k f) g c) ∧ FP iv a) := by
    intro w0 h1 h2
    have eM : ∀ p, p < k → mk2 k f p = ((isr f k p).1 - (isr f k (k - 1)).1, (isr f k p).2.1, 0) := fun p hp => if_pos hp
    have key := zfor (c := k) (P := fun p => ∀ w : zI, (∀ q, q < p → w 194 q = nI (mk2 k f q).1) → (∀ q, p ≤ q → q < k → w 194 q = nI (isr f k q).1) → (∀ r, r ≠ 194 → w r = w0 r) → Zv mX11_places (d + 3) 114 [some (.ref 174), some (.int (nI k)), some (.int (nI (isr f k (k - 1)).1)), some (.int (nI (al (mk2 k f) p))), some (.int (nI p)), none, none] [] w rv lv (fun a b c' => b = rv ∧ c' = lv ∧ RQ a (c + 1) (insP k (mk2 k f) g c) ∧ FP iv a)) ?_ ?_
    · exact key 0 (by omega) w0 (fun q hq => absurd hq (Nat.not_lt_zero _)) (fun q _ hq => (h1 q hq).1) (fun _ _ => rfl)
    · intro w k1 k2 k3
      refine bX11_places_114 _ _ _ _ hT ⟨fun _ => ?_, fun z => absurd (nI_le (by omega) (by omega)) z⟩
      have c43 : w 174 43 = nI c := by rw [k3 174 (by omega), h2 174 (by omega) (by omega)]; exact hR.1
      rw [c43, k1 0 (by omega), ← wX]
      refine go c _ w (Nat.le_refl _) rfl (fun j hj p hp => ?_) (fun j j1 j2 => by omega) (fun p hp => ⟨k1 p hp, ?_⟩) c43 (FP.of (fun p hp => by rw [k3 p (by omega)]; exact h2 p (by omega) (by omega)))
      · rw [k3 192 (by omega), k3 193 (by omega), h2 192 (by omega) (by omega), h2 193 (by omega) (by omega)]
        exact hR.2 j hj p hp
      · rw [k3 195 (by omega), eM p hp]
        exact (h1 p hp).2
    · intro p hp ih w k1 k2 k3
      refine bX11_places_114 _ _ _ _ hT ⟨fun z => absurd z (nI_ge hp (by omega)), fun _ => ?_⟩
      have le := srt_le (isr_s (f := f) k) (k - 1 - p) p (by omega)
      rw [show p + (k - 1 - p) = k - 1 by omega] at le
      rw [nI_clamp (show p < 2 ^ 31 by omega), k2 p (Nat.le_refl _) hp, pk_sub le, nI_1]
      refine ⟨vp_in_nI (by omega) (by decide), fun u eu => ?_⟩
      have c5 : u 195 p = nI (mk2 k f p).2.1 := by rw [eu, zu_row (by omega), k3 195 (by omega), (h1 p hp).2, eM p hp]
      rw [c5, bI_or]
      refine ih u (fun q hq => ?_) (fun q q1 q2 => by rw [eu, zu_k (by omega)]; exact k2 q (by omega) q2) (fun r hr => by rw [eu, zu_row hr]; exact k3 r hr)
      rw [eu]
      by_cases z : q = p
      · rw [z, zu_eq, eM p hp]
      · rw [zu_k z]
        exact k1 q (by omega)
  -- the parts in order
  have key := zfor (c := k) (P := fun m => 1 ≤ m → ∀ w : zI, RP w 194 195 k (isr f m) → (∀ p, p ≠ 194 → p ≠ 195 → w p = iv p) → Zv mX11_places (d + 3) 2 [some (.ref 174), some (.int (nI k)), some (.int (nI m)), none, none, none, none] [] w rv lv (fun a b c' => b = rv ∧ c' = lv ∧ RQ a (c + 1) (insP k (mk2 k f) g c) ∧ FP iv a)) ?_ ?_
  · exact key 1 (by omega) (Nat.le_refl _) iv (hF.cg (fun p _ => isr_id 1 (fun j hj => by omega) p)) (fun _ _ _ => rfl)
  · intro _ w h1 h2
    refine bX11_places_2 _ _ hT ⟨fun _ => ?_, fun z => absurd (nI_le (by omega) (by omega)) z⟩
    rw [z_1, pk_sub (by omega), nI_clamp (show k - 1 < 2 ^ 31 by omega), (h1 (k - 1) (by omega)).1]
    exact ⟨vp_in_nI (by omega) (by decide), sub w h1 h2⟩
  · intro m hm ih hm1 w h1 h2
    refine bX11_places_2 _ _ hT ⟨fun z => absurd z (nI_ge hm (by omega)), fun _ => ?_⟩
    have fm := hf m hm
    have hI : ∀ p, p < k → (isr f m p).1 ≤ B ∧ (isr f m p).2.1 < 1024 ∧ (isr f m p).2.2 = 0 := isr_all (P := fun x => x.1 ≤ B ∧ x.2.1 < 1024 ∧ x.2.2 = 0) hf m (by omega)
    have sw : ∀ (a : Nat) (u : zI), a ≤ m → pos (f m) (isr f m) m = pos (f m) (isr f m) a → (∀ j, j ≤ m → u 194 j = nI (put (isr f m) a (f m) j).1 ∧ u 195 j = nI (put (isr f m) a (f m) j).2.1) → (∀ j, m < j → j < k → u 194 j = nI (f j).1 ∧ u 195 j = nI (f j).2.1) → (∀ p, p ≠ 194 → p ≠ 195 → u p = iv p) → Zv mX11_places (d + 3) 9 [some (.ref 174), some (.int (nI k)), some (.int (nI m)), some (.int (nI a)), none, none, none] [] u rv lv (fun a b c' => b = rv ∧ c' = lv ∧ RQ a (c + 1) (insP k (mk2 k f) g c) ∧ FP iv a) := by
      intro a
      have done : ∀ (a : Nat) (u : zI), pos (f m) (isr f m) m = a → (∀ j, j ≤ m → u 194 j = nI (put (isr f m) a (f m) j).1 ∧ u 195 j = nI (put (isr f m) a (f m) j).2.1) → (∀ j, m < j → j < k → u 194 j = nI (f j).1 ∧ u 195 j = nI (f j).2.1) → (∀ p, p ≠ 194 → p ≠ 195 → u p = iv p) → Zv mX11_places (d + 3) 2 [some (.ref 174), some (.int (nI k)), some (.int (nI (m + 1))), none, none, none, none] [] u rv lv (fun a b c' => b = rv ∧ c' = lv ∧ RQ a (c + 1) (insP k (mk2 k f) g c) ∧ FP iv a) := by
        intro a u hp k1 k2 k3
        refine ih (by omega) u (fun j hj => ?_) k3
        by_cases q : j ≤ m
        · rw [isr_lo q]
          unfold ins
          rw [hp]
          exact k1 j q
        · rw [isr_hi (by omega)]
          exact k2 j (by omega) hj
      induction a with
      | zero =>
        intro u ha hp k1 k2 k3
        refine bX11_places_9 _ _ _ hT ⟨fun _ => ?_, fun z => absurd (by decide) z⟩
        rw [nI_1]
        exact done 0 u hp k1 k2 k3
      | succ a ih2 =>
        intro u ha hp k1 k2 k3
        have ia := hI a (by omega)
        have ca := k1 a (by omega)
        have cb := k1 (a + 1) (by omega)
        rw [put_lt (by omega)] at ca
        rw [put_eq] at cb
        refine bX11_places_9 _ _ _ hT ⟨fun z => absurd z (show ¬ nI (a + 1) ≤ nI 0 from nI_ge (by omega) (by omega)), fun _ => ?_⟩
        rw [nI_pred]
        refine zcall (y_isBefore (d := d) (x := f m) (y := isr f m a) hT (by omega) (by omega) cb.1 cb.2 ca.1 ca.2 ⟨by omega, fm.2⟩ ⟨by omega, ia.2⟩) hT ?_
        rw [pos] at hp
        cases q : ahead (f m) (isr f m a) with
        | false =>
          rw [q, if_neg (by simp)] at hp
          rw [nI_1]
          exact ⟨fun _ => done (a + 1) u hp k1 k2 k3, fun z => absurd rfl z⟩
        | true =>
          rw [q, if_pos rfl] at hp
          refine ⟨fun z => absurd (show (1 : Int32) = 0 from z) (by decide), fun _ => ?_⟩
          rw [nI_clamp (show a < 2 ^ 31 by omega), nI_clamp (show a + 1 < 2 ^ 31 by omega), nI_dn, nI_pred]
          refine ⟨vp_in_nI (by omega) (by decide), vp_in_nI (by omega) (by decide), fun u1 e1 u2 e2 u3 e3 u4 e4 => ?_⟩
          rw [ca.1] at e1
          rw [show u1 195 a = nI (isr f m a).2.1 by rw [e1, zu_row (by omega)]; exact ca.2] at e2
          rw [cb.1] at e3
          rw [cb.2] at e4
          have v1 : ∀ j, u4 194 j = zu (zu u 194 (a + 1) (nI (isr f m a).1)) 194 a (nI (f m).1) 194 j := fun j => by
            rw [e4, zu_row (by omega), e3]
            by_cases z : j = a
            · rw [z, zu_eq, zu_eq]
            · rw [zu_k z, zu_k z, e2, zu_row (by omega), e1]
          have v2 : ∀ j, u4 195 j = zu (zu u 195 (a + 1) (nI (isr f m a).2.1)) 195 a (nI (f m).2.1) 195 j := fun j => by
            rw [e4]
            by_cases z : j = a
            · rw [z, zu_eq, zu_eq]
            · rw [zu_k z, zu_k z, e3, zu_row (by omega), e2]
              by_cases y : j = a + 1
              · rw [y, zu_eq, zu_eq]
              · rw [zu_k y, zu_k y, e1, zu_row (by omega)]
          refine ih2 u4 (by omega) hp (fun j hj => ?_) (fun j j1 j2 => ?_) (fun p p1 p2 => by rw [e4, zu_row p2, e3, zu_row p1, e2, zu_row p2, e1, zu_row p1]; exact k3 p p1 p2)
          · rw [v1, v2]
            rcases Nat.lt_trichotomy j a with z | z | z
            · have := k1 j hj
              rw [put_lt (by omega)] at this
              rw [put_lt z, zu_k (by omega), zu_k (by omega), zu_k (by omega), zu_k (by omega)]
              exact this
            · rw [z, put_eq, zu_eq, zu_eq]
              exact ⟨rfl, rfl⟩
            · rw [put_gt z]
              by_cases y : j = a + 1
              · rw [y, Nat.add_sub_cancel, zu_k (by omega), zu_eq, zu_k (by omega), zu_eq]
                exact ⟨rfl, rfl⟩
              · have := k1 j hj
                rw [put_gt (by omega)] at this
                rw [zu_k (by omega), zu_k (by omega), zu_k (by omega), zu_k (by omega)]
                exact this
          · rw [v1, v2, zu_k (by omega), zu_k (by omega), zu_k (by omega), zu_k (by omega)]
            exact k2 j j1 j2
    refine sw m w (Nat.le_refl _) rfl (fun j hj => ?_) (fun j j1 j2 => ?_) h2
    · by_cases z : j = m
      · have := h1 m hm
        rw [isr_hi (Nat.le_refl _)] at this
        rw [z, put_eq]
        exact this
      · rw [put_lt (by omega)]
        exact h1 j (by omega)
    · have := h1 j j2
      rw [isr_hi (by omega)] at this
      exact this
