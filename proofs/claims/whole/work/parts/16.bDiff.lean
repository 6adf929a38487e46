/-! BLOCKS of X0, by program. -/
theorem eX0_run {d : Nat} (x1 : Nat) {iv : zI} {rv : zR} {lv : zJ} {Q : zI → zR → zJ → Prop} (h : Zv mX0_run (d + 1) 0 [some (.ref 79), some (.ref x1), none] [] iv rv lv Q) : Cv mX0_run (d + 1) [.ref 79, .ref x1] iv rv lv Q := Cv.of (by decide +kernel) (by simp [Value.category]) (Nat.le_of_ble_eq_true rfl) rfl h
set_option maxRecDepth 4000 in
theorem bX0_run_0 {d : Nat} (x1 : Nat) {iv : zI} {rv : zR} {lv : zJ} {Q : zI → zR → zJ → Prop} (hT : zTop rv) (m_x1 : x1 ∈ zSts)
    (h : ∃ Q1 : zI → zR → zJ → Prop, Cv mX3_takeNumbers d [.ref 80, .ref x1] iv rv lv Q1 ∧ ∀ (iv2 : zI) (rv3 : zR) (lv4 : zJ), Q1 iv2 rv3 lv4 → zTop rv3 ∧ (Zv mX0_run (d + 1) 10 [some (.ref 79), some (.ref x1), some (.int (0 : Int32))] [] iv2 rv3 lv4 Q)) :
    Zv mX0_run (d + 1) 0 [some (.ref 79), some (.ref x1), none] [] iv rv lv Q := by
  unfold Zv
  refine Z_aload_n (a := 0) (q := 1) (by decide +kernel) rfl rfl ?_
  refine g0_0 (idx := 12) (q := 4) (by decide +kernel) fX0_12 rfl (by decide) (t0_0 hT) rfl ?_
  refine Z_aload_n (a := 1) (q := 5) (by decide +kernel) rfl rfl ?_
  obtain ⟨Q1, hm, h⟩ := h
  refine Z_callVv (M2 := mX3_takeNumbers) (idx := 25) (d2 := d) (ci := 3) (As := [.ref _]) (q := 8) (by decide +kernel) kX3_takeNumbers lX0_25 rfl (hS3_0 (by decide : 80 ∈ zIts)) (hL3_0 (by decide : 80 ∈ zIts)) rfl rfl (by decide +kernel) (Nat.le_of_ble_eq_true rfl) (Nat.le_refl _) hm rfl (fun iv2 rv3 lv4 hq => ?_)
  obtain ⟨hT5, h⟩ := h iv2 rv3 lv4 hq
  refine Z_iconst (a := 0) (v := 0) (q := 9) (by decide +kernel) (by decide +kernel) rfl ?_
  refine Z_istore_n (a := 2) (loc2 := [_, _, _]) (q := 10) (by decide +kernel) (by decide +kernel) rfl rfl rfl ?_
  exact h
set_option maxRecDepth 4000 in
theorem bX0_run_10 {d : Nat} (x1 : Nat) (x2 : Int32) {iv : zI} {rv : zR} {lv : zJ} {Q : zI → zR → zJ → Prop} (hT : zTop rv) (m_x1 : x1 ∈ zSts)
    (h : (((iv x1 0) - (1 : Int32)) ≤ x2 → Q iv rv lv) ∧ (¬ ((iv x1 0) - (1 : Int32)) ≤ x2 → vp_in x2 10 ∧ (∀ iv2 : zI, iv2 = zu iv 84 x2.toNatClampNeg (iv (80 + 1) 0) → ∀ iv3 : zI, iv3 = zu iv2 85 x2.toNatClampNeg (iv2 (80 + 1) 1) → ∃ Q4 : zI → zR → zJ → Prop, Cv mX3_joinFirstTwo d [.ref 80, .int (0 : Int32)] iv3 rv lv Q4 ∧ ∀ (iv5 : zI) (rv6 : zR) (lv7 : zJ), Q4 iv5 rv6 lv7 → zTop rv6 ∧ (Zv mX0_run (d + 1) 10 [some (.ref 79), some (.ref x1), some (.int (x2 + 1))] [] iv5 rv6 lv7 Q)))) :
    Zv mX0_run (d + 1) 10 [some (.ref 79), some (.ref x1), some (.int x2)] [] iv rv lv Q := by
  unfold Zv
  refine Z_iload_n (a := 2) (q := 11) (by decide +kernel) rfl rfl ?_
  refine Z_aload_n (a := 1) (q := 12) (by decide +kernel) rfl rfl ?_
  refine g9_0 (idx := 29) (q := 15) (by decide +kernel) fX0_29 (hS9_0 m_x1) (hL9_0 m_x1) rfl ?_
  refine Z_iconst (a := 1) (v := 1) (q := 16) (by decide +kernel) (by decide +kernel) rfl ?_
  refine Z_isub (q := 17) (by decide +kernel) rfl ?_
  refine Z_icmp_ge (t := 64) (off := 47) (q := 20) (by decide +kernel) (by decide) rfl (fun hc => ?_) (fun hc => ?_)
  · replace h := h.1 hc
    exact Z_vret (by decide +kernel) rfl rfl ⟨rfl, h⟩
  · replace h := h.2 hc
    refine Z_aload_n (a := 0) (q := 21) (by decide +kernel) rfl rfl ?_
    refine g0_1 (idx := 18) (q := 24) (by decide +kernel) fX0_18 rfl (by decide) (t0_1 hT) rfl ?_
    refine Z_iload_n (a := 2) (q := 25) (by decide +kernel) rfl rfl ?_
    refine Z_aload_n (a := 0) (q := 26) (by decide +kernel) rfl rfl ?_
    refine g0_0 (idx := 12) (q := 29) (by decide +kernel) fX0_12 rfl (by decide) (t0_0 hT) rfl ?_
    refine g3_1 (idx := 35) (q := 32) (by decide +kernel) fX0_35 (hS3_0 (by decide : 80 ∈ zIts)) (hL3_0 (by decide : 80 ∈ zIts)) (t3_1 hT (by decide : 80 ∈ zIts)) rfl ?_
    refine Z_iconst (a := 0) (v := 0) (q := 33) (by decide +kernel) (by decide +kernel) rfl ?_
    refine Z_iald (len := 10) (q := 34) (by decide +kernel) (hS3_1 (by decide : 80 ∈ zIts)) (hL3_1 (by decide : 80 ∈ zIts)) (by unfold vp_in; decide) rfl ?_
    obtain ⟨hin1, h⟩ := h
    refine Z_iast (len := 10) (q := 35) (by decide +kernel) rfl (by decide) hin1 rfl ?_
    replace h := h _ rfl
    refine Z_aload_n (a := 0) (q := 36) (by decide +kernel) rfl rfl ?_
    refine g0_2 (idx := 22) (q := 39) (by decide +kernel) fX0_22 rfl (by decide) (t0_2 hT) rfl ?_
    refine Z_iload_n (a := 2) (q := 40) (by decide +kernel) rfl rfl ?_
    refine Z_aload_n (a := 0) (q := 41) (by decide +kernel) rfl rfl ?_
    refine g0_0 (idx := 12) (q := 44) (by decide +kernel) fX0_12 rfl (by decide) (t0_0 hT) rfl ?_
    refine g3_1 (idx := 35) (q := 47) (by decide +kernel) fX0_35 (hS3_0 (by decide : 80 ∈ zIts)) (hL3_0 (by decide : 80 ∈ zIts)) (t3_1 hT (by decide : 80 ∈ zIts)) rfl ?_
    refine Z_iconst (a := 1) (v := 1) (q := 48) (by decide +kernel) (by decide +kernel) rfl ?_
    refine Z_iald (len := 10) (q := 49) (by decide +kernel) (hS3_1 (by decide : 80 ∈ zIts)) (hL3_1 (by decide : 80 ∈ zIts)) (by unfold vp_in; decide) rfl ?_
    refine Z_iast (len := 10) (q := 50) (by decide +kernel) rfl (by decide) hin1 rfl ?_
    replace h := h _ rfl
    refine Z_aload_n (a := 0) (q := 51) (by decide +kernel) rfl rfl ?_
    refine g0_0 (idx := 12) (q := 54) (by decide +kernel) fX0_12 rfl (by decide) (t0_0 hT) rfl ?_
    refine Z_iconst (a := 0) (v := 0) (q := 55) (by decide +kernel) (by decide +kernel) rfl ?_
    obtain ⟨Q4, hm, h⟩ := h
    refine Z_callVv (M2 := mX3_joinFirstTwo) (idx := 38) (d2 := d) (ci := 3) (As := [.int _]) (q := 58) (by decide +kernel) kX3_joinFirstTwo lX0_38 rfl (hS3_0 (by decide : 80 ∈ zIts)) (hL3_0 (by decide : 80 ∈ zIts)) rfl rfl (by decide +kernel) (Nat.le_of_ble_eq_true rfl) (Nat.le_refl _) hm rfl (fun iv5 rv6 lv7 hq => ?_)
    obtain ⟨hT8, h⟩ := h iv5 rv6 lv7 hq
    refine Z_iinc (a := 2) (b := 1) (v := _ + 1) (loc2 := [_, _, _]) (q := 61) (by decide +kernel) rfl (zinc _) (by decide +kernel) rfl rfl rfl ?_
    refine Z_goto (q := 10) (off := -51) (by decide +kernel) (by decide) ?_
    exact h
