/-! THE CLASS: several heaps at once. -/
def RP (w : zI) (a b k : Nat) (f : Pa) : Prop := ∀ p, p < k → w a p = nI (f p).1 ∧ w b p = nI (f p).2.1
theorem RP.fr {w w' : zI} {a b k : Nat} {f : Pa} (h : RP w a b k f) (ha : w' a = w a) (hb : w' b = w b) : RP w' a b k f := fun p hp => by
  rw [ha, hb]
  exact h p hp
theorem RP.cg {w : zI} {a b k : Nat} {f g : Pa} (h : RP w a b k f) (e : ∀ p, p < k → g p = f p) : RP w a b k g := fun p hp => by
  rw [e p hp]
  exact h p hp
theorem mSh : ∀ i, i < 10 → zSH (132 + i) = (0, 4) ∧ zSH (143 + i) = (0, 4) := by decide +kernel
theorem x_orderParts {d i k : Nat} {f : Pa} {iv : zI} {rv : zR} {lv : zJ} (hT : zTop rv) (hi : i < 10) (hk : k ≤ 4) (hk1 : 1 ≤ k) (h4 : iv 130 4 = nI k) (hR : RP iv (132 + i) (143 + i) k f) (hf : ∀ p, p < k → (f p).1 < 2 ^ 31 ∧ (f p).2.1 < 1024 ∧ (f p).2.2 = 0) :
    Cv mX4_orderParts (d + 1) [.ref 130, .ref (132 + i), .ref (143 + i)] iv rv lv (fun a b c' => b = rv ∧ c' = lv ∧ RP a (132 + i) (143 + i) k (isr f k) ∧ ∀ p, p ≠ 132 + i → p ≠ 143 + i → a p = iv p) := by
  have sh := mSh i hi
  refine eX4_orderParts (132 + i) 4 (143 + i) 4 (bX4_orderParts_0 (132 + i) 4 (143 + i) 4 hT sh.1 (by omega) sh.2 (by omega) ?_)
  have key := zfor (c := k) (P := fun m => 1 ≤ m → ∀ w : zI, RP w (132 + i) (143 + i) k (isr f m) → (∀ p, p ≠ 132 + i → p ≠ 143 + i → w p = iv p) → Zv mX4_orderParts (d + 1) 2 [some (.ref 130), some (.ref (132 + i)), some (.ref (143 + i)), some (.int (nI m)), none, none, none] [] w rv lv (fun a b c' => b = rv ∧ c' = lv ∧ RP a (132 + i) (143 + i) k (isr f k) ∧ ∀ p, p ≠ 132 + i → p ≠ 143 + i → a p = iv p)) ?_ ?_
  · exact key 1 hk1 (Nat.le_refl _) iv (hR.cg (fun p _ => isr_id 1 (fun j hj => by omega) p)) (fun _ _ _ => rfl)
  · intro _ w g1 g2
    have c4 : w 130 4 = nI k := by rw [g2 130 (by omega) (by omega)]; exact h4
    exact bX4_orderParts_2 (132 + i) 4 (143 + i) 4 _ hT sh.1 (by omega) sh.2 (by omega) ⟨fun _ => ⟨rfl, rfl, g1, g2⟩, fun z => absurd (by rw [c4]; exact nI_le (by omega) (by omega)) z⟩
  · intro m hm ih hm1 w g1 g2
    have c4 : w 130 4 = nI k := by rw [g2 130 (by omega) (by omega)]; exact h4
    refine bX4_orderParts_2 (132 + i) 4 (143 + i) 4 _ hT sh.1 (by omega) sh.2 (by omega) ⟨fun z => absurd z (by rw [c4]; exact nI_ge hm (by omega)), fun _ => ⟨vp_in_nI (by omega) (by decide), vp_in_nI (by omega) (by decide), ?_⟩⟩
    have hx := g1 m hm
    rw [isr_hi (Nat.le_refl _)] at hx
    rw [nI_clamp (by omega), hx.1, hx.2]
    have fm := hf m hm
    have hF : ∀ p, p < k → (isr f m p).1 < 2 ^ 31 ∧ (isr f m p).2.1 < 1024 ∧ (isr f m p).2.2 = 0 := isr_all (P := fun x => x.1 < 2 ^ 31 ∧ x.2.1 < 1024 ∧ x.2.2 = 0) hf m (by omega)
    have wr : ∀ (a : Nat) (u : zI), a ≤ m → pos (f m) (isr f m) m = a → (∀ p, p < a → u (132 + i) p = nI (isr f m p).1 ∧ u (143 + i) p = nI (isr f m p).2.1) → (∀ p, a < p → p ≤ m → u (132 + i) p = nI (isr f m (p - 1)).1 ∧ u (143 + i) p = nI (isr f m (p - 1)).2.1) → (∀ p, m < p → p < k → u (132 + i) p = nI (f p).1 ∧ u (143 + i) p = nI (f p).2.1) → (∀ p, p ≠ 132 + i → p ≠ 143 + i → u p = iv p) → vp_in (nI a) 4 ∧ (∀ u1 : zI, u1 = zu u (132 + i) a (nI (f m).1) → vp_in (nI a) 4 ∧ (∀ u2 : zI, u2 = zu u1 (143 + i) a (nI (f m).2.1) → Zv mX4_orderParts (d + 1) 2 [some (.ref 130), some (.ref (132 + i)), some (.ref (143 + i)), some (.int (nI (m + 1))), none, none, none] [] u2 rv lv (fun a b c' => b = rv ∧ c' = lv ∧ RP a (132 + i) (143 + i) k (isr f k) ∧ ∀ p, p ≠ 132 + i → p ≠ 143 + i → a p = iv p))) := by
      intro a u ha hp k1 k2 k3 k4
      refine ⟨vp_in_nI (by omega) (by decide), fun u1 e1 => ⟨vp_in_nI (by omega) (by decide), fun u2 e2 => ih (by omega) u2 (fun p hp2 => ?_) (fun p p1 p2 => by rw [e2, zu_row p2, e1, zu_row p1]; exact k4 p p1 p2)⟩⟩
      have v1 : ∀ p, u2 (132 + i) p = zu u (132 + i) a (nI (f m).1) (132 + i) p := fun p => by rw [e2, zu_row (by omega), e1]
      have v2 : ∀ p, u2 (143 + i) p = zu u (143 + i) a (nI (f m).2.1) (143 + i) p := fun p => by
        rw [e2]
        by_cases q : p = a
        · rw [q, zu_eq, zu_eq]
        · rw [zu_k q, zu_k q, e1, zu_row (by omega)]
      rw [v1, v2]
      by_cases q : p ≤ m
      · rw [isr_lo q]
        unfold ins
        rw [hp]
        rcases Nat.lt_trichotomy p a with r | r | r
        · rw [put_lt r, zu_k (by omega), zu_k (by omega)]
          exact k1 p r
        · rw [r, put_eq, zu_eq, zu_eq]
          exact ⟨rfl, rfl⟩
        · rw [put_gt r, zu_k (by omega), zu_k (by omega)]
          exact k2 p r q
      · rw [isr_hi (by omega), zu_k (by omega), zu_k (by omega)]
        exact k3 p (by omega) hp2
    have go : ∀ (a : Nat) (u : zI), a ≤ m → pos (f m) (isr f m) m = pos (f m) (isr f m) a → (∀ p, p < a → u (132 + i) p = nI (isr f m p).1 ∧ u (143 + i) p = nI (isr f m p).2.1) → (∀ p, a < p → p ≤ m → u (132 + i) p = nI (isr f m (p - 1)).1 ∧ u (143 + i) p = nI (isr f m (p - 1)).2.1) → (∀ p, m < p → p < k → u (132 + i) p = nI (f p).1 ∧ u (143 + i) p = nI (f p).2.1) → (∀ p, p ≠ 132 + i → p ≠ 143 + i → u p = iv p) → Zv mX4_orderParts (d + 1) 23 [some (.ref 130), some (.ref (132 + i)), some (.ref (143 + i)), some (.int (nI m)), some (.int (nI (f m).1)), some (.int (nI (f m).2.1)), some (.int (nI a))] [] u rv lv (fun a b c' => b = rv ∧ c' = lv ∧ RP a (132 + i) (143 + i) k (isr f k) ∧ ∀ p, p ≠ 132 + i → p ≠ 143 + i → a p = iv p) := by
      intro a
      induction a with
      | zero =>
        intro u ha hp k1 k2 k3 k4
        refine bX4_orderParts_23 (132 + i) 4 (143 + i) 4 _ _ _ _ hT sh.1 (by omega) sh.2 (by omega) ⟨fun _ => ?_, fun z => absurd (by decide) z⟩
        rw [nI_1]
        exact wr 0 u ha hp k1 k2 k3 k4
      | succ a ih2 =>
        intro u ha hp k1 k2 k3 k4
        have fa := hF a (by omega)
        obtain ⟨c1, c2⟩ := k1 a (by omega)
        refine bX4_orderParts_23 (132 + i) 4 (143 + i) 4 _ _ _ _ hT sh.1 (by omega) sh.2 (by omega) ⟨fun z => absurd z (show ¬ nI (a + 1) ≤ nI 0 from nI_ge (by omega) (by omega)), fun _ => ?_⟩
        rw [nI_pred, nI_clamp (show a < 2 ^ 31 by omega), nI_clamp (show a + 1 < 2 ^ 31 by omega), c1, nI_ltI fa.1 fm.1, nI_eq fm.1 fa.1, nI_1]
        rw [pos] at hp
        have shift : ahead (f m) (isr f m a) = true → Zv mX4_orderParts (d + 1) 67 [some (.ref 130), some (.ref (132 + i)), some (.ref (143 + i)), some (.int (nI m)), some (.int (nI (f m).1)), some (.int (nI (f m).2.1)), some (.int (nI (a + 1)))] [] u rv lv (fun a b c' => b = rv ∧ c' = lv ∧ RP a (132 + i) (143 + i) k (isr f k) ∧ ∀ p, p ≠ 132 + i → p ≠ 143 + i → a p = iv p) := by
          intro q
          rw [q, if_pos rfl] at hp
          refine bX4_orderParts_67 (132 + i) 4 (143 + i) 4 _ _ _ _ hT sh.1 (by omega) sh.2 (by omega) ?_
          rw [nI_dn, nI_pred, nI_clamp (show a < 2 ^ 31 by omega), nI_clamp (show a + 1 < 2 ^ 31 by omega), c1]
          refine ⟨vp_in_nI (by omega) (by decide), vp_in_nI (by omega) (by decide), fun u1 e1 => ⟨vp_in_nI (by omega) (by decide), vp_in_nI (by omega) (by decide), fun u2 e2 => ?_⟩⟩
          have m2 : u1 (143 + i) a = nI (isr f m a).2.1 := by rw [e1, zu_row (by omega)]; exact c2
          rw [m2] at e2
          have v1 : ∀ p, u2 (132 + i) p = zu u (132 + i) (a + 1) (nI (isr f m a).1) (132 + i) p := fun p => by rw [e2, zu_row (by omega), e1]
          have v2 : ∀ p, u2 (143 + i) p = zu u (143 + i) (a + 1) (nI (isr f m a).2.1) (143 + i) p := fun p => by
            rw [e2]
            by_cases q : p = a + 1
            · rw [q, zu_eq, zu_eq]
            · rw [zu_k q, zu_k q, e1, zu_row (by omega)]
          refine ih2 u2 (by omega) hp (fun p hp => ?_) (fun p p1 p2 => ?_) (fun p p1 p2 => ?_) (fun p p1 p2 => by rw [e2, zu_row p2, e1, zu_row p1]; exact k4 p p1 p2)
          · rw [v1, v2, zu_k (by omega), zu_k (by omega)]
            exact k1 p (by omega)
          · rw [v1, v2]
            by_cases q : p = a + 1
            · rw [q, zu_eq, zu_eq, Nat.add_sub_cancel]
              exact ⟨rfl, rfl⟩
            · rw [zu_k q, zu_k q]
              exact k2 p (by omega) p2
          · rw [v1, v2, zu_k (by omega), zu_k (by omega)]
            exact k3 p p1 p2
        have stay : ahead (f m) (isr f m a) = false → _ := fun q => wr (a + 1) u ha (by rw [hp, q, if_neg (by simp)]) k1 k2 k3 k4
        refine ⟨vp_in_nI (by omega) (by decide), fun q => shift ?_, fun q => ⟨fun q2 => stay ?_, fun q2 => zcall (x_leastMember hT fm.2.1) hT ⟨vp_in_nI (by omega) (by decide), ?_⟩⟩⟩
        · unfold ahead
          rw [decide_eq_true q]
          rfl
        · unfold ahead
          rw [decide_eq_false q, decide_eq_false q2]
          rfl
        · rw [c2]
          refine zcall (x_leastMember hT fa.2.1) hT ?_
          rw [p2_le (lw_le _ fm.2.1) (lw_le _ fa.2.1)]
          have ea : ahead (f m) (isr f m a) = decide (lw (f m).2.1 < lw (isr f m a).2.1) := by
            unfold ahead
            rw [decide_eq_false q, decide_eq_true q2, fm.2.2, fa.2.2, Nat.or_zero, Nat.or_zero]
            simp
          refine ⟨fun q3 => stay ?_, fun q3 => shift ?_⟩
          · rw [ea, decide_eq_false (by omega)]
          · rw [ea, decide_eq_true (by omega)]
    refine go m w (Nat.le_refl _) rfl (fun p hp => g1 p (by omega)) (fun p p1 p2 => by omega) (fun p p1 p2 => ?_) g2
    have := g1 p p2
    rw [isr_hi (by omega)] at this
    exact this
theorem x_width {d i k B : Nat} {f : Pa} {iv : zI} {rv : zR} {lv : zJ} (hT : zTop rv) (hi : i < 10) (hk : k ≤ 4) (hk1 : 2 ≤ k) (h4 : iv 130 4 = nI k) (hR : RP iv (132 + i) (143 + i) k f) (hg : IG k B f) :
    Ci mX4_width d [.ref 130, .int (nI i)] iv rv lv (zP (nI (ky k f).1) iv rv lv) := by
  have sh := mSh i hi
  refine eX4_width _ (bX4_width_0 _ hT ?_)
  rw [nI_clamp (by omega), h4, z_1, pk_sub (by omega), nI_clamp (by omega)]
  refine ⟨vp_in_nI hi (by decide), 132 + i, hT.2.2.2.2.2.2.2.2.1 i hi, sh.1, by omega, 132 + i, hT.2.2.2.2.2.2.2.2.1 i hi, sh.1, by omega, vp_in_nI (by omega) (by decide), zP.mk ?_⟩
  rw [(hR 0 (by omega)).1, (hR (k - 1) (by omega)).1, pk_sub (by rw [hg.2.1]; exact Nat.zero_le _)]
  rfl
theorem x_allMembers {d i k : Nat} {f : Pa} {iv : zI} {rv : zR} {lv : zJ} (hT : zTop rv) (hi : i < 10) (hk : k ≤ 4) (h4 : iv 130 4 = nI k) (hR : RP iv (132 + i) (143 + i) k f) :
    Ci mX4_allMembers d [.ref 130, .int (nI i)] iv rv lv (zP (nI (al f k)) iv rv lv) := by
  have sh := mSh i hi
  refine eX4_allMembers _ (bX4_allMembers_0 _ hT ?_)
  have key := zfor (c := k) (P := fun p => Zi mX4_allMembers d 4 [some (.ref 130), some (.int (nI i)), some (.int (nI (al f p))), some (.int (nI p))] [] iv rv lv (zP (nI (al f k)) iv rv lv)) ?_ ?_
  · exact key 0 (by omega)
  · exact bX4_allMembers_4 _ _ _ hT ⟨fun _ => zP.mk rfl, fun z => absurd (by rw [h4]; exact nI_le (by omega) (by omega)) z⟩
  · intro p hp ih
    refine bX4_allMembers_4 _ _ _ hT ⟨fun z => absurd z (by rw [h4]; exact nI_ge hp (by omega)), fun _ => ?_⟩
    rw [nI_clamp (by omega), nI_clamp (by omega)]
    refine ⟨vp_in_nI hi (by decide), 143 + i, hT.2.2.2.2.2.2.2.2.2 i hi, sh.2, by omega, vp_in_nI (by omega) (by decide), ?_⟩
    rw [(hR p hp).2, bI_or, nI_1]
    exact ih
theorem x_itemGoesAhead {d i j k B : Nat} {f g : Pa} {iv : zI} {rv : zR} {lv : zJ} (hT : zTop rv) (hi : i < 10) (hj : j < 10) (hk : k ≤ 4) (hk1 : 2 ≤ k) (h4 : iv 130 4 = nI k) (hR : RP iv (132 + i) (143 + i) k f) (hR2 : RP iv (132 + j) (143 + j) k g) (hf : IG k B f) (hg : IG k B g) (hB : B < 2 ^ 31) :
    Ci mX4_itemGoesAhead (d + 1) [.ref 130, .int (nI i), .int (nI j)] iv rv lv (zP (bI (ahead (ky k f) (ky k g))) iv rv lv) := by
  have wf : (ky k f).1 < 2 ^ 31 := by
    have := (hf.1 0 (by omega)).1
    show (f 0).1 - _ < 2 ^ 31
    omega
  have wg : (ky k g).1 < 2 ^ 31 := by
    have := (hg.1 0 (by omega)).1
    show (g 0).1 - _ < 2 ^ 31
    omega
  have af := al_lt (f := f) k (fun p hp => (hf.1 p hp).2.1)
  have ag := al_lt (f := g) k (fun p hp => (hg.1 p hp).2.1)
  refine eX4_itemGoesAhead _ _ (bX4_itemGoesAhead_0 _ _ hT (zcall (x_width hT hi hk hk1 h4 hR hf) hT (zcall (x_width hT hj hk hk1 h4 hR2 hg) hT ?_)))
  rw [nI_ltI wg wf]
  refine ⟨fun q => zP.mk ?_, fun q => zcall (x_width hT hi hk hk1 h4 hR hf) hT (zcall (x_width hT hj hk hk1 h4 hR2 hg) hT ?_)⟩
  · unfold ahead
    rw [decide_eq_true q]
    rfl
  · rw [nI_eq wf wg]
    refine ⟨fun q2 => zP.mk ?_, fun q2 => zcall (x_allMembers hT hi hk h4 hR) hT (zcall (x_leastMember hT af) hT (zcall (x_allMembers hT hj hk h4 hR2) hT (zcall (x_leastMember hT ag) hT ?_)))⟩
    · unfold ahead
      rw [decide_eq_false q, decide_eq_false q2]
      rfl
    · rw [p2_le (lw_le _ af) (lw_le _ ag)]
      have ea : ahead (ky k f) (ky k g) = decide (lw (al f k) < lw (al g k)) := by
        unfold ahead
        rw [decide_eq_false q, decide_eq_true q2]
        show (false || (true && decide (lw (al f k ||| 0) < lw (al g k ||| 0)))) = _
        rw [Nat.or_zero, Nat.or_zero]
        simp
      rw [ea]
      refine ⟨fun q3 => zP.mk ?_, fun q3 => zP.mk ?_⟩
      · rw [decide_eq_false (by omega)]
        rfl
      · rw [decide_eq_true (by omega)]
        rfl
theorem x_firstBut {d n t k B : Nat} {ex : Int32} {ft : Pa} {iv : zI} {rv : zR} {lv : zJ} (hT : zTop rv) (hn : n ≤ 10) (hk : k ≤ 4) (hk1 : 2 ≤ k) (h3 : iv 130 3 = nI n) (h4 : iv 130 4 = nI k) (hB : B < 2 ^ 31) (ht : t < n) (t0 : iv 153 t = 0) (te : ¬ nI t = ex) (hft : RP iv (132 + t) (143 + t) k ft) (hit : IG k B ft)
    (hA : ∀ i, i < n → iv 153 i = 0 → ∃ f, RP iv (132 + i) (143 + i) k f ∧ IG k B f ∧ (i ≠ t → ¬ nI i = ex → ahead (ky k ft) (ky k f) = true)) :
    Ci mX4_firstItemBut (d + 2) [.ref 130, .int ex] iv rv lv (zP (nI t) iv rv lv) := by
  refine eX4_firstItemBut _ (bX4_firstItemBut_0 _ hT ?_)
  have key := zfor (c := n) (P := fun i => ∀ x2 : Int32, ((i ≤ t ∧ (x2 = -1 ∨ ∃ f, f < i ∧ iv 153 f = 0 ∧ ¬ nI f = ex ∧ x2 = nI f)) ∨ (t < i ∧ x2 = nI t)) → Zi mX4_firstItemBut (d + 2) 4 [some (.ref 130), some (.int ex), some (.int x2), some (.int (nI i))] [] iv rv lv (zP (nI t) iv rv lv)) ?_ ?_
  · exact key 0 (by omega) (-1) (Or.inl ⟨by omega, Or.inl rfl⟩)
  · intro x2 hx
    refine bX4_firstItemBut_4 _ _ _ hT ⟨fun _ => zP.mk ?_, fun z => absurd (by rw [h3]; exact nI_le (by omega) (by omega)) z⟩
    rcases hx with ⟨h, -⟩ | ⟨-, h⟩
    · omega
    · exact h
  · intro i hi ih x2 hx
    refine bX4_firstItemBut_4 _ _ _ hT ⟨fun z => absurd z (by rw [h3]; exact nI_ge hi (by omega)), fun _ => ?_⟩
    rw [nI_clamp (by omega), nI_1]
    refine ⟨vp_in_nI (by omega) (by decide), fun g => ?_, fun g => ⟨fun e => ?_, fun e => ?_⟩⟩
    · refine ih x2 ?_
      rcases hx with ⟨h, hh⟩ | ⟨h, hh⟩
      · have ne : i ≠ t := fun z => g (z ▸ t0)
        refine Or.inl ⟨by omega, hh.elim Or.inl (fun ⟨f, f1, f2⟩ => Or.inr ⟨f, by omega, f2⟩)⟩
      · exact Or.inr ⟨by omega, hh⟩
    · refine ih x2 ?_
      rcases hx with ⟨h, hh⟩ | ⟨h, hh⟩
      · have ne : i ≠ t := fun z => te (z ▸ e)
        refine Or.inl ⟨by omega, hh.elim Or.inl (fun ⟨f, f1, f2⟩ => Or.inr ⟨f, by omega, f2⟩)⟩
      · exact Or.inr ⟨by omega, hh⟩
    · have take : i ≤ t → Zi mX4_firstItemBut (d + 2) 4 [some (.ref 130), some (.int ex), some (.int (nI i)), some (.int (nI (i + 1)))] [] iv rv lv (zP (nI t) iv rv lv) := by
        intro h
        refine ih (nI i) ?_
        by_cases q : i = t
        · exact Or.inr ⟨by omega, by rw [q]⟩
        · exact Or.inl ⟨by omega, Or.inr ⟨i, by omega, g, e, rfl⟩⟩
      obtain ⟨fi, r1, r2, r3⟩ := hA i hi g
      refine ⟨fun q => ?_, fun q => ?_⟩
      · rcases hx with ⟨h, hh⟩ | ⟨h, hh⟩
        · exact take h
        · rw [hh] at q
          exact absurd q.symm (nI_m1 (by omega))
      · rcases hx with ⟨h, hh⟩ | ⟨h, hh⟩
        · rcases hh with hh | ⟨f, f1, f2, f3, rfl⟩
          · exact absurd hh q
          · obtain ⟨ff, s1, s2, s3⟩ := hA f (by omega) f2
            by_cases q2 : i = t
            · refine zcall (x_itemGoesAhead hT (by omega) (by omega) hk hk1 h4 (by rw [q2]; exact hft) s1 hit s2 hB) hT ⟨fun z => ?_, fun _ => take h⟩
              rw [s3 (by omega) f3] at z
              exact absurd (show (1 : Int32) = 0 from z) (by decide)
            · exact zcall (x_itemGoesAhead hT (by omega) (by omega) hk hk1 h4 r1 s1 r2 s2 hB) hT ⟨fun _ => ih _ (Or.inl ⟨by omega, Or.inr ⟨f, by omega, f2, f3, rfl⟩⟩), fun _ => take h⟩
        · rw [hh]
          refine zcall (x_itemGoesAhead hT (by omega) (by omega) hk hk1 h4 r1 hft r2 hit hB) hT ⟨fun _ => ih _ (Or.inr ⟨by omega, rfl⟩), fun z => ?_⟩
          have := ahead_as (r3 (by omega) e)
          rw [this] at z
          exact absurd rfl z
