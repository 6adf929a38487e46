/-! THE CLASS: the search. -/
theorem nI_ss {a b c : Nat} : nI a - nI b - nI c = nI a - nI (b + c) := by
  simp only [J_n, J_sub]
  congr 1
  omega
theorem x_flo {d o c : Nat} {f : Nat → It} {iv : zI} {rv : zR} {lv : zJ} (hT : zTop rv) (ho : o ∈ zIts) (hR : RI iv o (c + 1) f) (hc : c + 1 ≤ 10) : Ci mX3_firstLessOthers d [.ref o] iv rv lv (zP (nI (f 0).1 - nI (oth f c)) iv rv lv) := by
  refine eX3_firstLessOthers o (bX3_firstLessOthers_0 o hT ho ?_)
  rw [(hR.2 0 (by omega)).1]
  have key := zfor (c := c) (P := fun k => Zi mX3_firstLessOthers d 9 [some (.ref o), some (.int (nI (f 0).1 - nI (oth f k))), some (.int (nI (k + 1)))] [] iv rv lv (zP (nI (f 0).1 - nI (oth f c)) iv rv lv)) ?_ ?_
  · have := key 0 (by omega)
    rw [show nI (f 0).1 - nI (oth f 0) = nI (f 0).1 from nI_ab (show (f 0).1 = (f 0).1 + 0 by omega)] at this
    exact this
  · refine bX3_firstLessOthers_9 o _ _ hT ho ⟨fun _ => zP.mk rfl, fun z => absurd (by rw [hR.1]; exact nI_le (by omega) (by omega)) z⟩
  · intro k hk ih
    refine bX3_firstLessOthers_9 o _ _ hT ho ⟨fun z => ?_, fun _ => ?_⟩
    · rw [hR.1] at z
      exact absurd z (nI_ge (by omega) (by omega))
    · rw [nI_clamp (by omega), (hR.2 (k + 1) (by omega)).1, nI_ss, nI_1]
      exact ⟨vp_in_nI (by omega) (by decide), ih⟩
theorem x_lside {d o c : Nat} {f : Nat → It} {iv : zI} {rv : zR} {lv : zJ} (hT : zTop rv) (ho : o ∈ zIts) (hR : RI iv o (c + 1) f) (hc : c + 1 ≤ 10) : Ci mX3_leafFirstSide d [.ref o] iv rv lv (zP (nI (sd f c)) iv rv lv) := by
  refine eX3_leafFirstSide o (bX3_leafFirstSide_0 o hT ho ?_)
  rw [(hR.2 0 (by omega)).2.1]
  have key := zfor (c := c) (P := fun k => Zi mX3_leafFirstSide d 9 [some (.ref o), some (.int (nI (sd f k))), some (.int (nI (k + 1)))] [] iv rv lv (zP (nI (sd f c)) iv rv lv)) ?_ ?_
  · exact key 0 (by omega)
  · refine bX3_leafFirstSide_9 o _ _ hT ho ⟨fun _ => zP.mk rfl, fun z => absurd (by rw [hR.1]; exact nI_le (by omega) (by omega)) z⟩
  · intro k hk ih
    refine bX3_leafFirstSide_9 o _ _ hT ho ⟨fun z => ?_, fun _ => ?_⟩
    · rw [hR.1] at z
      exact absurd z (nI_ge (by omega) (by omega))
    · rw [nI_clamp (by omega), (hR.2 (k + 1) (by omega)).2.2, bI_or, nI_1]
      exact ⟨vp_in_nI (by omega) (by decide), ih⟩
def SC (w : zI) (tp : Nat) (st : SS) : Prop := (w 86 1 = nI (sVis st) ∧ w 86 2 = nI (sLea st) ∧ w 86 3 = nI (sFin st) ∧ w 86 4 = bI (sPrf st) ∧ w 86 9 = nI tp) ∧ (0 < sFin st → w 86 0 = nI (sLst st) ∧ w 86 5 = nI (sSid st)) ∧ ∀ j, j < sFin st → w 87 j = nI (sFo st j) ∧ w 88 j = nI (sFa st j)
theorem x_takeLeaf {d o c v tp : Nat} {f : Nat → It} {st : SS} {iv : zI} {rv : zR} {lv : zJ} (hT : zTop rv) (ho : o ∈ zIts) (hR : RI iv o (c + 1) f) (hc : c + 1 ≤ 10) (ht : tp < 2) (hv : v % 2 = tp) (hv2 : v < 2 ^ 31) (hS : SC iv tp st) (hI : SI tp st) (hp : sPrf st = false) (hl : sLea st < 512) (hls : 0 < sFin st → sLst st < 2 ^ 31) :
    Cv mX7_takeLeaf (d + 1) [.ref 86, .ref o, .int (nI v)] iv rv lv (fun a b c' => b = rv ∧ c' = lv ∧ SC a tp (lf tp st v (sd f c)) ∧ a 86 10 = iv 86 10 ∧ ∀ p, p ≠ 86 → p ≠ 87 → p ≠ 88 → a p = iv p) := by
  obtain ⟨⟨s1, s2, s3, s4, s5⟩, s6, s7⟩ := hS
  have hI2 := lf_SI (side := sd f c) ht hI hp hv
  obtain ⟨i1, i2, i3⟩ := hI
  have o86 : 88 < o ∨ o = 80 := by
    have : ∀ q ∈ zIts, 88 < q ∨ q = 80 := by decide
    exact this o ho
  refine eX7_takeLeaf o _ (bX7_takeLeaf_0 o _ hT ho ?_)
  intro w1 e1
  rw [s2, nI_1] at e1
  have k1 : ∀ b, b ≠ 2 → w1 86 b = iv 86 b := fun b hb => by rw [e1, zu_k hb]
  have r1 : ∀ p, p ≠ 86 → w1 p = iv p := fun p hp => by rw [e1, zu_row hp]
  have l1 : w1 86 2 = nI (sLea st + 1) := by rw [e1, zu_eq]
  have better : (sFin st = 0 ∨ v < sLst st) → Zv mX7_takeLeaf (d + 1) 26 [some (.ref 86), some (.ref o), some (.int (nI v))] [] w1 rv lv (fun a b c' => b = rv ∧ c' = lv ∧ SC a tp (lf tp st v (sd f c)) ∧ a 86 10 = iv 86 10 ∧ ∀ p, p ≠ 86 → p ≠ 87 → p ≠ 88 → a p = iv p) := by
    intro q
    refine bX7_takeLeaf_26 o _ hT ho ?_
    rw [k1 3 (by decide), s3]
    refine ⟨fun _ w2 e2 => ?_, fun z => absurd (show nI (sFin st) < nI 512 from nI_lt (by omega) (by omega)) z⟩
    have f2 : w2 86 3 = nI (sFin st) := by rw [e2, zu_k (by decide), k1 3 (by decide)]; exact s3
    rw [f2, nI_clamp (by omega)]
    refine ⟨vp_in_nI (by omega) (by decide), fun w3 e3 => ?_⟩
    have f3 : w3 86 3 = nI (sFin st) := by rw [e3, zu_row (by omega)]; exact f2
    have v3 : w3 86 1 = nI (sVis st) := by rw [e3, zu_row (by omega), e2, zu_k (by decide), k1 1 (by decide)]; exact s1
    rw [f3, v3, nI_clamp (by omega)]
    refine ⟨vp_in_nI (by omega) (by decide), fun w4 e4 w5 e5 => ?_⟩
    have f4 : w4 86 3 = nI (sFin st) := by rw [e4, zu_row (by omega)]; exact f3
    rw [f4, nI_1] at e5
    have r5 : ∀ p, p ≠ 86 → p ≠ 87 → p ≠ 88 → w5 p = iv p := fun p p1 p2 p3 => by rw [e5, zu_row p1, e4, zu_row p3, e3, zu_row p2, e2, zu_row p1, r1 p p1]
    refine zcall (x_lside hT ho (hR.fr (fun t ht => r5 _ (by omega) (by omega) (by omega))) hc) hT ?_
    intro w6 e6
    have t6 : w6 86 9 = nI tp := by rw [e6, zu_k (by decide), e5, zu_k (by decide), e4, zu_row (by omega), e3, zu_row (by omega), e2, zu_k (by decide), k1 9 (by decide)]; exact s5
    have fin : ∀ w7 : zI, w7 = zu w6 86 4 (bI (v == tp)) → (rv = rv ∧ lv = lv ∧ SC w7 tp (lf tp st v (sd f c)) ∧ w7 86 10 = iv 86 10 ∧ ∀ p, p ≠ 86 → p ≠ 87 → p ≠ 88 → w7 p = iv p) := by
      intro w7 e7
      have kk : ∀ b, b ≠ 0 → b ≠ 2 → b ≠ 3 → b ≠ 4 → b ≠ 5 → w7 86 b = iv 86 b := fun b b0 b2 b3 b4 b5 => by rw [e7, zu_k b4, e6, zu_k b5, e5, zu_k b3, e4, zu_row (by omega), e3, zu_row (by omega), e2, zu_k b0, k1 b b2]
      refine ⟨rfl, rfl, ?_, kk 10 (by decide) (by decide) (by decide) (by decide) (by decide), fun p p1 p2 p3 => by rw [e7, zu_row p1, e6, zu_row p1]; exact r5 p p1 p2 p3⟩
      unfold lf
      rw [if_pos q]
      refine ⟨⟨?_, ?_, ?_, ?_, ?_⟩, fun _ => ⟨?_, ?_⟩, fun j hj => ⟨?_, ?_⟩⟩
      · rw [kk 1 (by decide) (by decide) (by decide) (by decide) (by decide)]; exact s1
      · rw [e7, zu_k (by decide), e6, zu_k (by decide), e5, zu_k (by decide), e4, zu_row (by omega), e3, zu_row (by omega), e2, zu_k (by decide)]; exact l1
      · rw [e7, zu_k (by decide), e6, zu_k (by decide), e5, zu_eq]
      · rw [e7, zu_eq]
      · rw [kk 9 (by decide) (by decide) (by decide) (by decide) (by decide)]; exact s5
      · rw [e7, zu_k (by decide), e6, zu_k (by decide), e5, zu_k (by decide), e4, zu_row (by omega), e3, zu_row (by omega), e2, zu_eq]
      · rw [e7, zu_k (by decide), e6, zu_eq]
      · have hj : j < sFin st + 1 := hj
        show w7 87 j = nI (up (sFo st) (sFin st) v j)
        rw [e7, zu_row (by omega), e6, zu_row (by omega), e5, zu_row (by omega), e4, zu_row (by omega), e3]
        by_cases z : j = sFin st
        · rw [z, zu_eq, up_eq]
        · rw [zu_k z, up_ne z, e2, zu_row (by omega), r1 87 (by omega)]; exact (s7 j (by omega)).1
      · have hj : j < sFin st + 1 := hj
        show w7 88 j = nI (up (sFa st) (sFin st) (sVis st) j)
        rw [e7, zu_row (by omega), e6, zu_row (by omega), e5, zu_row (by omega), e4]
        by_cases z : j = sFin st
        · rw [z, zu_eq, up_eq]
        · rw [zu_k z, up_ne z, e3, zu_row (by omega), e2, zu_row (by omega), r1 88 (by omega)]; exact (s7 j (by omega)).2
    rw [t6, nI_eq hv2 (by omega)]
    refine ⟨fun z w7 e7 => fin w7 (by rw [e7, beq_eq_false_iff_ne.mpr z]; rfl), fun z w7 e7 => fin w7 (by rw [e7, beq_iff_eq.mpr z]; rfl)⟩
  rw [l1, show (1 : Int32) = nI 1 from rfl, nI_leI (by omega) (by omega)]
  refine ⟨fun z => better (Or.inl (by omega)), fun z => ?_⟩
  have fp : 0 < sFin st := by
    rcases Nat.eq_zero_or_pos (sFin st) with q | q
    · have := (i2 q).1
      omega
    · exact q
  rw [k1 0 (by decide), (s6 fp).1, nI_leI (hls fp) hv2]
  refine ⟨fun q => ?_, fun q => better (Or.inr (by omega))⟩
  have nq : ¬ (sFin st = 0 ∨ v < sLst st) := by omega
  have pe : (v == tp) = false := by
    unfold lf at hI2
    rw [if_neg nq] at hI2
    have h1 := (hI2.2.2 fp).2
    have h2 := (i3 fp).2
    rw [hp] at h2
    have h1 : (v == tp) = (sLst st == tp) := h1
    rw [h1, ← h2]
  unfold lf
  rw [if_neg nq, pe]
  refine ⟨rfl, rfl, ⟨⟨?_, l1, ?_, ?_, ?_⟩, fun _ => ?_, fun j hj => ?_⟩, k1 10 (by decide), fun p p1 _ _ => r1 p p1⟩
  · rw [k1 1 (by decide)]; exact s1
  · rw [k1 3 (by decide)]; exact s3
  · rw [k1 4 (by decide), s4, hp]
  · rw [k1 9 (by decide)]; exact s5
  · rw [k1 0 (by decide), k1 5 (by decide)]; exact s6 fp
  · rw [r1 87 (by omega), r1 88 (by omega)]; exact s7 j hj
theorem x_copyRow {d o r c : Nat} {f : Nat → It} {iv : zI} {rv : zR} {lv : zJ} (hT : zTop rv) (ho : o ∈ zIts) (hr : r ∈ zIts) (hne : o + 3 < r ∨ r + 3 < o) (hR : RI iv r c f) (hc : c ≤ 10) : Cv mX3_copyFrom (d + 1) [.ref o, .ref r] iv rv lv (fun a b c' => b = rv ∧ c' = lv ∧ RI a o c f ∧ ∀ p, p < o ∨ o + 3 < p → a p = iv p) := by
  refine eX3_copyFrom o r (bX3_copyFrom_0 o r hT ho hr ?_)
  intro w1 e1 w2 e2 w3 e3 w4 e4
  have r4 : ∀ p, p ≠ o → p ≠ o + 1 → p ≠ o + 2 → p ≠ o + 3 → w4 p = iv p := fun p p0 p1 p2 p3 => by
    rw [e4]; simp only [p3, if_false]
    rw [e3]; simp only [p2, if_false]
    rw [e2]; simp only [p1, if_false]
    rw [e1, zu_row p0]
  have cp : ∀ (g h : Nat → Int32) (j : Nat), j < c → va_cpy g h 0 0 10 j = g j := fun g h j hj => by
    simp only [va_cpy]
    rw [if_pos (by omega)]
    congr 1
    omega
  refine ⟨rfl, rfl, ⟨?_, fun j hj => ?_⟩, fun p hp => r4 p (by omega) (by omega) (by omega) (by omega)⟩
  · rw [e4]; simp only [show ¬ o = o + 3 by omega, if_false]
    rw [e3]; simp only [show ¬ o = o + 2 by omega, if_false]
    rw [e2]; simp only [show ¬ o = o + 1 by omega, if_false]
    rw [e1, zu_eq]; exact hR.1
  · have v1 : w4 (o + 1) j = iv (r + 1) j := by
      rw [e4]; simp only [show ¬ o + 1 = o + 3 by omega, if_false]
      rw [e3]; simp only [show ¬ o + 1 = o + 2 by omega, if_false]
      rw [e2]; simp only [if_true]
      rw [cp _ _ j hj, e1, zu_row (by omega)]
    have v2 : w4 (o + 2) j = iv (r + 2) j := by
      rw [e4]; simp only [show ¬ o + 2 = o + 3 by omega, if_false]
      rw [e3]; simp only [if_true]
      rw [cp _ _ j hj, e2]; simp only [show ¬ r + 2 = o + 1 by omega, if_false]
      rw [e1, zu_row (by omega)]
    have v3 : w4 (o + 3) j = iv (r + 3) j := by
      rw [e4]; simp only [if_true]
      rw [cp _ _ j hj, e3]; simp only [show ¬ r + 3 = o + 2 by omega, if_false]
      rw [e2]; simp only [show ¬ r + 3 = o + 1 by omega, if_false]
      rw [e1, zu_row (by omega)]
    rw [v1, v2, v3]
    exact hR.2 j hj
theorem itM : ∀ j, j < 10 → 90 + 4 * j ∈ zIts := by decide
def LB (st : SS) : Prop := 0 < sFin st → sLst st < 2 ^ 31
theorem lf_LB {tp : Nat} {st : SS} {v side : Nat} (h : LB st) (hv : v < 2 ^ 31) : LB (lf tp st v side) := by
  unfold lf
  split
  · exact fun _ => hv
  · exact h
theorem sv_LB {tp : Nat} : ∀ (c : Nat) (f : Nat → It) (st : SS) (B : Nat), 1 ≤ c → BI f c B → B * 2 ^ (c - 1) < 2 ^ 31 → LB st → LB (sv tp c f st)
  | 0, _, _, _, h0, _, _, _ => absurd h0 (by omega)
  | c + 1, f, st, B, _, hb, hB, h => by
    rw [sv]
    cases hp : sPrf st with
    | true =>
      rw [if_pos rfl]
      exact h
    | false =>
      rw [if_neg (by simp)]
      by_cases q : c = 0 ∨ oth f c ≤ (f 0).1
      · rw [if_pos q]
        refine lf_LB h ?_
        have := (hb 0 (by omega)).1
        have p1 : 0 < 2 ^ c := Nat.two_pow_pos c
        rw [Nat.add_sub_cancel] at hB
        have : B ≤ B * 2 ^ c := Nat.le_mul_of_pos_right _ p1
        omega
      · rw [if_neg q]
        have hc : 2 ≤ c + 1 := by omega
        have b1 := jn_b true hb hc
        have b2 := jn_b false hb hc
        rw [Nat.add_sub_cancel] at b1 b2
        have e : 2 * B * 2 ^ (c - 1) = B * 2 ^ (c + 1 - 1) := by
          obtain ⟨m, rfl⟩ : ∃ m, c = m + 1 := ⟨c - 1, by omega⟩
          rw [Nat.add_sub_cancel, Nat.add_sub_cancel, Nat.pow_succ, Nat.mul_comm 2 B, Nat.mul_assoc, Nat.mul_comm 2]
        exact sv_LB c _ _ _ (by omega) b2 (by rw [e]; exact hB) (sv_LB c _ _ _ (by omega) b1 (by rw [e]; exact hB) h)
/-- what a visit leaves as it was: rows of lesser depth and all that is no search's -/
def FD (dep : Nat) (iv a : zI) : Prop := a 86 10 = iv 86 10 ∧ ∀ p, p < 86 ∨ p = 89 ∨ (90 ≤ p ∧ p < 90 + 4 * dep) ∨ 129 < p → a p = iv p
theorem x_visit {tp : Nat} {rv : zR} {lv : zJ} (hT : zTop rv) (ht : tp < 2) : ∀ (c : Nat) (d dep B : Nat) (f : Nat → It) (st : SS) (w : zI), dep + (c + 1) ≤ 10 → RI w (90 + 4 * dep) (c + 1) f → srt f (c + 1) → BI f (c + 1) B → B * 2 ^ c ≤ 9999 * 512 → vsum f (c + 1) % 2 = tp → SI tp st → SC w tp st → LB st → sPrf st = false → sLea st + 2 ^ c ≤ 512 →
    Cv mX7_visit (d + 2 * c + 8) [.ref 86, .int (nI dep)] w rv lv (fun a b c' => b = rv ∧ c' = lv ∧ SC a tp (sv tp (c + 1) f st) ∧ FD (dep + 1) w a) := by
  intro c
  induction c with
  | zero =>
    intro d dep B f st w hd hR hs hb hB hm hI hS hL hp hl
    have b0 := hb 0 (by omega)
    refine eX7_visit _ (bX7_visit_0 _ hT ?_)
    rw [nI_clamp (by omega)]
    refine ⟨vp_in_nI (by omega) (by decide), _, hT.2.2.2.2.2.2.1 dep (by omega), itM dep (by omega), fun w1 e1 => ?_⟩
    rw [hS.1.1, nI_1] at e1
    have hR1 : RI w1 (90 + 4 * dep) 1 f := hR.fr (fun t ht => by rw [e1, zu_row (by omega)])
    have hS1 : SC w1 tp (vs1 st) := by
      obtain ⟨⟨s1, s2, s3, s4, s5⟩, s6, s7⟩ := hS
      refine ⟨⟨by rw [e1, zu_eq]; rfl, by rw [e1, zu_k (by decide)]; exact s2, by rw [e1, zu_k (by decide)]; exact s3, by rw [e1, zu_k (by decide)]; exact s4, by rw [e1, zu_k (by decide)]; exact s5⟩, fun z => by rw [e1, zu_k (by decide), zu_k (by decide)]; exact s6 z, fun j hj => by rw [e1, zu_row (by omega), zu_row (by omega)]; exact s7 j hj⟩
    refine zcall (x_flo hT (itM dep (by omega)) hR1 (by omega)) hT ?_
    have ev : nI (f 0).1 - nI (oth f 0) = nI ((f 0).1 - oth f 0) := pk_sub (Nat.zero_le _)
    rw [hR1.1, ev]
    refine ⟨fun _ => zcallV (x_takeLeaf (f := f) (c := 0) (st := vs1 st) hT (itM dep (by omega)) hR1 (by omega) ht ?_ ?_ hS1 (vs1_SI hI) hp (by show sLea st < 512; omega) hL) ?_, fun z => absurd rfl z⟩
    · rw [vsum_o] at hm
      have : oth f 0 = 0 := rfl
      omega
    · omega
    · rintro a _ _ ⟨rfl, rfl, g1, g2, g3⟩
      refine ⟨hT, rfl, rfl, ?_, by rw [g2, e1, zu_k (by decide)], fun p hp => by rw [g3 p (by omega) (by omega) (by omega), e1, zu_row (by omega)]⟩
      rw [sv, hp, if_neg (by simp), if_pos (Or.inl rfl)]
      exact g1
  | succ c ih =>
    intro d dep B f st w hd hR hs hb hB hm hI hS hL hp hl
    have b0 := hb 0 (by omega)
    have p1 : 2 ^ (c + 1) = 2 * 2 ^ c := by rw [Nat.pow_succ]; omega
    have p0 : 0 < 2 ^ c := Nat.two_pow_pos c
    have eB : 2 * B * 2 ^ c = B * 2 ^ (c + 1) := by rw [p1, Nat.mul_comm 2 B, Nat.mul_assoc]
    have bB : B ≤ B * 2 ^ (c + 1) := Nat.le_mul_of_pos_right _ (Nat.two_pow_pos _)
    have ob := oth_b (f := f) (c := c + 1) hb (c + 1) (Nat.le_refl _)
    have ob2 : oth f (c + 1) < 2 ^ 30 := by
      have : B * (c + 1) ≤ B * 2 ^ (c + 1) := Nat.mul_le_mul_left _ (Nat.le_of_lt Nat.lt_two_pow_self)
      omega
    rw [show d + 2 * (c + 1) + 8 = (d + 2 * c + 8 + 1) + 1 by omega]
    refine eX7_visit _ (bX7_visit_0 _ hT ?_)
    rw [nI_clamp (by omega)]
    refine ⟨vp_in_nI (by omega) (by decide), _, hT.2.2.2.2.2.2.1 dep (by omega), itM dep (by omega), fun w1 e1 => ?_⟩
    rw [hS.1.1, nI_1] at e1
    have hR1 : RI w1 (90 + 4 * dep) (c + 1 + 1) f := hR.fr (fun t ht => by rw [e1, zu_row (by omega)])
    have hS1 : SC w1 tp (vs1 st) := by
      obtain ⟨⟨s1, s2, s3, s4, s5⟩, s6, s7⟩ := hS
      refine ⟨⟨by rw [e1, zu_eq]; rfl, by rw [e1, zu_k (by decide)]; exact s2, by rw [e1, zu_k (by decide)]; exact s3, by rw [e1, zu_k (by decide)]; exact s4, by rw [e1, zu_k (by decide)]; exact s5⟩, fun z => by rw [e1, zu_k (by decide), zu_k (by decide)]; exact s6 z, fun j hj => by rw [e1, zu_row (by omega), zu_row (by omega)]; exact s7 j hj⟩
    have f1 : FD (dep + 1) w w1 := ⟨by rw [e1, zu_k (by decide)], fun p hp => by rw [e1, zu_row (by omega)]⟩
    have jneg : (nI (f 0).1 - nI (oth f (c + 1)) < 0) ↔ (f 0).1 < oth f (c + 1) := by
      rw [show (0 : Int32) = J 0 from rfl, J_n, J_n, J_sub, J_lt (by omega) (by omega) (by omega) (by omega)]
      omega
    refine zcall (x_flo hT (itM dep (by omega)) hR1 (by omega)) hT ?_
    rw [hR1.1, jneg]
    refine ⟨fun z => absurd z (show ¬ nI (c + 1 + 1) = nI 1 from fun q => by rw [nI_eq (by omega) (by omega)] at q; omega), fun _ => ⟨fun q => ?_, fun q => ?_⟩⟩
    · have nq : ¬ (c + 1 = 0 ∨ oth f (c + 1) ≤ (f 0).1) := by omega
      -- one visit below
      have below : ∀ (df : Bool) (st1 : SS) (u : zI), SI tp st1 → SC u tp st1 → LB st1 → sPrf st1 = false → sLea st1 + 2 ^ c ≤ 512 → RI u (90 + 4 * dep) (c + 1 + 1) f → Cv mX7_visitBelow (d + 2 * c + 8 + 1) [.ref 86, .int (nI dep), .int (bI (!df))] u rv lv (fun a b c' => b = rv ∧ c' = lv ∧ SC a tp (sv tp (c + 1) (jn f (c + 1 + 1) df) st1) ∧ FD (dep + 1) u a) := by
        intro df st1 u hI hS hL hp hl hR
        refine eX7_visitBelow _ _ (bX7_visitBelow_0 _ _ hT ?_)
        rw [nI_1]
        refine ⟨fun _ => ?_, fun z => absurd (show nI (dep + 1) < nI 10 from nI_lt (by omega) (by omega)) z⟩
        rw [nI_clamp (show dep + 1 < 2 ^ 31 by omega), nI_clamp (show dep < 2 ^ 31 by omega)]
        have a1 := hT.2.2.2.2.2.2.1 (dep + 1) (by omega)
        have a2 := itM (dep + 1) (by omega)
        have a3 := hT.2.2.2.2.2.2.1 dep (by omega)
        have a4 := itM dep (by omega)
        refine ⟨vp_in_nI (by omega) (by decide), 90 + 4 * (dep + 1), a1, a2, ?_⟩
        refine ⟨vp_in_nI (by omega) (by decide), 90 + 4 * dep, a3, a4, ?_⟩
        refine (zcallV (x_copyRow hT (itM (dep + 1) (by omega)) (itM dep (by omega)) (by omega) hR (by omega)) ?_)
        rintro u1 rv1 lv1 ⟨q1, q2, g1, g2⟩
        have q1 := q1.symm
        have q2 := q2.symm
        subst q1 q2
        have cont : ∀ (u2 : zI), RI u2 (90 + 4 * (dep + 1)) (c + 1 + 1 - 1) (jn f (c + 1 + 1) df) → (∀ p, p < 90 + 4 * (dep + 1) ∨ 90 + 4 * (dep + 1) + 3 < p → u2 p = u1 p) → ∃ Q17 : zI → zR → zJ → Prop, Cv mX7_visit (d + 2 * c + 8) [.ref 86, .int (nI (dep + 1))] u2 rv lv Q17 ∧ ∀ (a : zI) (b : zR) (c' : zJ), Q17 a b c' → zTop b ∧ (b = rv ∧ c' = lv ∧ SC a tp (sv tp (c + 1) (jn f (c + 1 + 1) df) st1) ∧ FD (dep + 1) u a) := by
          intro u2 k1 k2
          have es := jn_s df hs (by omega)
          have eb := jn_b df hb (by omega)
          have ep := jn_par df hs (by omega)
          rw [Nat.add_sub_cancel] at es eb ep k1
          have fr : ∀ p, p < 90 + 4 * (dep + 1) ∨ 90 + 4 * (dep + 1) + 3 < p → u2 p = u p := fun p hp => by rw [k2 p hp, g2 p hp]
          have hS2 : SC u2 tp st1 := by
            unfold SC
            rw [fr 86 (by omega), fr 87 (by omega), fr 88 (by omega)]
            exact hS
          refine zcallV (ih d (dep + 1) (2 * B) _ st1 u2 (by omega) k1 es eb (by rw [eB]; exact hB) (by rw [ep]; exact hm) hI hS2 hL hp hl) ?_
          rintro a _ _ ⟨rfl, rfl, t1, t2, t3⟩
          exact ⟨hT, rfl, rfl, t1, by rw [t2, fr 86 (by omega)], fun p hp => by rw [t3 p (by omega), fr p (by omega)]⟩
        refine ⟨hT, ?_⟩
        cases df with
        | true =>
          refine zcallV (x_diff2 (d := d + 2 * c + 4) (B := B) hT rfl (itM (dep + 1) (by omega)) g1 (by omega) (by omega) hb (by omega) hs) ?_
          rintro u2 rv1 lv1 ⟨q1, q2, k1, k2⟩
          have q1 := q1.symm
          have q2 := q2.symm
          subst q1 q2
          exact ⟨hT, cont u2 k1 k2⟩
        | false =>
          refine zcallV (x_add2 (d := d + 2 * c + 4) (B := B) hT (show ¬ (1 : Int32) = 0 by decide) (itM (dep + 1) (by omega)) g1 (by omega) (by omega) hb (by omega)) ?_
          rintro u2 rv1 lv1 ⟨q1, q2, k1, k2⟩
          have q1 := q1.symm
          have q2 := q2.symm
          subst q1 q2
          exact ⟨hT, cont u2 k1 k2⟩
      refine zcallV (below true (vs1 st) w1 (vs1_SI hI) hS1 hL hp (by show sLea st + 2 ^ c ≤ 512; omega) hR1) ?_
      rintro w2 rv1 lv1 ⟨q1, q2, k1, k2⟩
      have q1 := q1.symm
      have q2 := q2.symm
      subst q1 q2
      have es := jn_s true hs (by omega)
      have eb := jn_b true hb (by omega)
      have ep := jn_par true hs (by omega)
      rw [Nat.add_sub_cancel] at es eb ep
      have hI2 := sv_SI ht (c + 1) _ (vs1 st) es (by rw [ep]; exact hm) (vs1_SI hI)
      have hL2 := sv_LB (tp := tp) (c + 1) (jn f (c + 1 + 1) true) (vs1 st) (2 * B) (by omega) eb (by rw [Nat.add_sub_cancel, eB]; omega) hL
      have hl2 := (sv_lea (tp := tp) c (jn f (c + 1 + 1) true) (vs1 st)).1
      have hl2 : _ ≤ sLea st + 2 ^ c := hl2
      refine ⟨hT, ?_⟩
      have esv : sv tp (c + 1 + 1) f st = sv tp (c + 1) (jn f (c + 1 + 1) false) (sv tp (c + 1) (jn f (c + 1 + 1) true) (vs1 st)) := by
        rw [sv, hp, if_neg (by simp), if_neg nq]
      rw [esv, k1.1.2.2.2.1]
      cases hq : sPrf (sv tp (c + 1) (jn f (c + 1 + 1) true) (vs1 st)) with
      | true =>
        refine ⟨fun _ => ⟨rfl, rfl, ?_, by rw [k2.1]; exact f1.1, fun p hp => by rw [k2.2 p hp]; exact f1.2 p hp⟩, fun z => absurd (show (1 : Int32) = 0 from z) (by decide)⟩
        rw [sv, hq, if_pos rfl]
        exact k1
      | false =>
        refine ⟨fun z => absurd rfl z, fun _ => ?_⟩
        refine zcallV (below false _ w2 hI2 k1 hL2 hq (by omega) (hR1.fr (fun t ht => k2.2 _ (by omega)))) ?_
        rintro w3 rv1 lv1 ⟨q1, q2, m1, m2⟩
        have q1 := q1.symm
        have q2 := q2.symm
        subst q1 q2
        exact ⟨hT, rfl, rfl, m1, by rw [m2.1, k2.1]; exact f1.1, fun p hp => by rw [m2.2 p hp, k2.2 p hp]; exact f1.2 p hp⟩
    · have yq : c + 1 = 0 ∨ oth f (c + 1) ≤ (f 0).1 := by omega
      have q2 : oth f (c + 1) ≤ (f 0).1 := by omega
      rw [pk_sub q2]
      refine zcallV (x_takeLeaf (f := f) (c := c + 1) (st := vs1 st) hT (itM dep (by omega)) hR1 (by omega) ht ?_ ?_ hS1 (vs1_SI hI) hp (by show sLea st < 512; omega) hL) ?_
      · rw [vsum_o] at hm
        omega
      · omega
      · rintro a _ _ ⟨rfl, rfl, g1, g2, g3⟩
        refine ⟨hT, rfl, rfl, ?_, by rw [g2]; exact f1.1, fun p hp => by rw [g3 p (by omega) (by omega) (by omega)]; exact f1.2 p hp⟩
        rw [sv, hp, if_neg (by simp), if_pos yq]
        exact g1
