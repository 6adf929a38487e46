/-! BLOCKS of X5, by program. -/
theorem eX5_findLeast {d : Nat} (x0 : Nat) (x1 : Nat) (x2 : Int32) {iv : zI} {rv : zR} {lv : zJ} {Q : Int32 → zI → zR → zJ → Prop} (h : Zi mX5_findLeast (d + 1) 0 [some (.ref x0), some (.ref x1), some (.int x2)] [] iv rv lv Q) : Ci mX5_findLeast (d + 1) [.ref x0, .ref x1, .int x2] iv rv lv Q := Ci.of (by decide +kernel) (by simp [Value.category]) (Nat.le_of_ble_eq_true rfl) rfl h
set_option maxRecDepth 4000 in
theorem bX5_findLeast_0 {d : Nat} (x0 : Nat) (x1 : Nat) (x2 : Int32) {iv : zI} {rv : zR} {lv : zJ} {Q : Int32 → zI → zR → zJ → Prop} (hT : zTop rv) (m_x0 : x0 ∈ zPts) (m_x1 : x1 ∈ zSts)
    (h : ((iv x0 12) = x2 → ((iv x0 1) ≤ 0 → Q (0 : Int32) iv rv lv) ∧ (¬ (iv x0 1) ≤ 0 → Q (1 : Int32) iv rv lv)) ∧ (¬ (iv x0 12) = x2 → ∀ iv1 : zI, iv1 = zu iv x0 12 x2 → ∀ iv2 : zI, iv2 = zu iv1 x0 0 (1000000 : Int32) → ∀ iv3 : zI, iv3 = zu iv2 x0 1 (0 : Int32) → ∀ iv4 : zI, iv4 = zu iv3 x0 2 (1000000 : Int32) → ∃ Q5 : zI → zR → zJ → Prop, Cv mX5_begin d [.ref x0, .ref x1, .int (0 : Int32)] iv4 rv lv Q5 ∧ ∀ (iv6 : zI) (rv7 : zR) (lv8 : zJ), Q5 iv6 rv7 lv8 → zTop rv7 ∧ (((iv6 x0 1) ≤ 0 → Q (0 : Int32) iv6 rv7 lv8) ∧ (¬ (iv6 x0 1) ≤ 0 → Q (1 : Int32) iv6 rv7 lv8)))) :
    Zi mX5_findLeast (d + 1) 0 [some (.ref x0), some (.ref x1), some (.int x2)] [] iv rv lv Q := by
  unfold Zi
  refine Z_aload_n (a := 0) (q := 1) (by decide +kernel) rfl rfl ?_
  refine g5_12 (idx := 48) (q := 4) (by decide +kernel) fX5_48 (hS5_0 m_x0) (hL5_0 m_x0) rfl ?_
  refine Z_iload_n (a := 2) (q := 5) (by decide +kernel) rfl rfl ?_
  refine Z_icmp_eq (t := 36) (off := 31) (q := 8) (by decide +kernel) (by decide) rfl (fun hc => ?_) (fun hc => ?_)
  · replace h := h.1 hc
    refine Z_aload_n (a := 0) (q := 37) (by decide +kernel) rfl rfl ?_
    refine g5_1 (idx := 16) (q := 40) (by decide +kernel) fX5_16 (hS5_0 m_x0) (hL5_0 m_x0) rfl ?_
    refine Z_if_le (t := 47) (off := 7) (q := 43) (by decide +kernel) (by decide) rfl (fun hc => ?_) (fun hc => ?_)
    · replace h := h.1 hc
      refine Z_iconst (a := 0) (v := 0) (q := 48) (by decide +kernel) (by decide +kernel) rfl ?_
      exact Z_iret (ty := .boolean) (by decide +kernel) rfl rfl rfl ⟨_, rfl, h⟩
    · replace h := h.2 hc
      refine Z_iconst (a := 1) (v := 1) (q := 44) (by decide +kernel) (by decide +kernel) rfl ?_
      refine Z_goto (q := 48) (off := 4) (by decide +kernel) (by decide) ?_
      exact Z_iret (ty := .boolean) (by decide +kernel) rfl rfl rfl ⟨_, rfl, h⟩
  · replace h := h.2 hc
    refine Z_aload_n (a := 0) (q := 9) (by decide +kernel) rfl rfl ?_
    refine Z_iload_n (a := 2) (q := 10) (by decide +kernel) rfl rfl ?_
    refine p5_12 (idx := 48) (q := 13) (by decide +kernel) fX5_48 (hS5_0 m_x0) (hL5_0 m_x0) rfl ?_
    replace h := h _ rfl
    refine Z_aload_n (a := 0) (q := 14) (by decide +kernel) rfl rfl ?_
    refine Z_ldc (a := 11) (v := 1000000) (q := 16) (by decide +kernel) cX5_11 rfl ?_
    refine p5_0 (idx := 12) (q := 19) (by decide +kernel) fX5_12 (hS5_0 m_x0) (hL5_0 m_x0) rfl ?_
    replace h := h _ rfl
    refine Z_aload_n (a := 0) (q := 20) (by decide +kernel) rfl rfl ?_
    refine Z_iconst (a := 0) (v := 0) (q := 21) (by decide +kernel) (by decide +kernel) rfl ?_
    refine p5_1 (idx := 16) (q := 24) (by decide +kernel) fX5_16 (hS5_0 m_x0) (hL5_0 m_x0) rfl ?_
    replace h := h _ rfl
    refine Z_aload_n (a := 0) (q := 25) (by decide +kernel) rfl rfl ?_
    refine Z_ldc (a := 11) (v := 1000000) (q := 27) (by decide +kernel) cX5_11 rfl ?_
    refine p5_2 (idx := 19) (q := 30) (by decide +kernel) fX5_19 (hS5_0 m_x0) (hL5_0 m_x0) rfl ?_
    replace h := h _ rfl
    refine Z_aload_n (a := 0) (q := 31) (by decide +kernel) rfl rfl ?_
    refine Z_aload_n (a := 1) (q := 32) (by decide +kernel) rfl rfl ?_
    refine Z_iconst (a := 0) (v := 0) (q := 33) (by decide +kernel) (by decide +kernel) rfl ?_
    obtain ⟨Q5, hm, h⟩ := h
    refine Z_callVv (M2 := mX5_begin) (idx := 54) (d2 := d) (ci := 5) (As := [.ref _, .int _]) (q := 36) (by decide +kernel) kX5_begin lX5_54 rfl (hS5_0 m_x0) (hL5_0 m_x0) rfl rfl (by decide +kernel) (Nat.le_of_ble_eq_true rfl) (Nat.le_refl _) hm rfl (fun iv6 rv7 lv8 hq => ?_)
    obtain ⟨hT9, h⟩ := h iv6 rv7 lv8 hq
    refine Z_aload_n (a := 0) (q := 37) (by decide +kernel) rfl rfl ?_
    refine g5_1 (idx := 16) (q := 40) (by decide +kernel) fX5_16 (hS5_0 m_x0) (hL5_0 m_x0) rfl ?_
    refine Z_if_le (t := 47) (off := 7) (q := 43) (by decide +kernel) (by decide) rfl (fun hc => ?_) (fun hc => ?_)
    · replace h := h.1 hc
      refine Z_iconst (a := 0) (v := 0) (q := 48) (by decide +kernel) (by decide +kernel) rfl ?_
      exact Z_iret (ty := .boolean) (by decide +kernel) rfl rfl rfl ⟨_, rfl, h⟩
    · replace h := h.2 hc
      refine Z_iconst (a := 1) (v := 1) (q := 44) (by decide +kernel) (by decide +kernel) rfl ?_
      refine Z_goto (q := 48) (off := 4) (by decide +kernel) (by decide) ?_
      exact Z_iret (ty := .boolean) (by decide +kernel) rfl rfl rfl ⟨_, rfl, h⟩
theorem eX5_countAllowed {d : Nat} (x0 : Nat) (x1 : Nat) {iv : zI} {rv : zR} {lv : zJ} {Q : Int32 → zI → zR → zJ → Prop} (h : Zi mX5_countAllowed (d + 1) 0 [some (.ref x0), some (.ref x1)] [] iv rv lv Q) : Ci mX5_countAllowed (d + 1) [.ref x0, .ref x1] iv rv lv Q := Ci.of (by decide +kernel) (by simp [Value.category]) (Nat.le_of_ble_eq_true rfl) rfl h
set_option maxRecDepth 4000 in
theorem bX5_countAllowed_0 {d : Nat} (x0 : Nat) (x1 : Nat) {iv : zI} {rv : zR} {lv : zJ} {Q : Int32 → zI → zR → zJ → Prop} (hT : zTop rv) (m_x0 : x0 ∈ zPts) (m_x1 : x1 ∈ zSts)
    (h : ∀ iv1 : zI, iv1 = zu iv x0 11 (0 : Int32) → ∃ Q2 : zI → zR → zJ → Prop, Cv mX5_begin d [.ref x0, .ref x1, .int (1 : Int32)] iv1 rv lv Q2 ∧ ∀ (iv3 : zI) (rv4 : zR) (lv5 : zJ), Q2 iv3 rv4 lv5 → zTop rv4 ∧ (Q (iv3 x0 11) iv3 rv4 lv5)) :
    Zi mX5_countAllowed (d + 1) 0 [some (.ref x0), some (.ref x1)] [] iv rv lv Q := by
  unfold Zi
  refine Z_aload_n (a := 0) (q := 1) (by decide +kernel) rfl rfl ?_
  refine Z_iconst (a := 0) (v := 0) (q := 2) (by decide +kernel) (by decide +kernel) rfl ?_
  refine p5_11 (idx := 45) (q := 5) (by decide +kernel) fX5_45 (hS5_0 m_x0) (hL5_0 m_x0) rfl ?_
  replace h := h _ rfl
  refine Z_aload_n (a := 0) (q := 6) (by decide +kernel) rfl rfl ?_
  refine Z_aload_n (a := 1) (q := 7) (by decide +kernel) rfl rfl ?_
  refine Z_iconst (a := 1) (v := 1) (q := 8) (by decide +kernel) (by decide +kernel) rfl ?_
  obtain ⟨Q2, hm, h⟩ := h
  refine Z_callVv (M2 := mX5_begin) (idx := 54) (d2 := d) (ci := 5) (As := [.ref _, .int _]) (q := 11) (by decide +kernel) kX5_begin lX5_54 rfl (hS5_0 m_x0) (hL5_0 m_x0) rfl rfl (by decide +kernel) (Nat.le_of_ble_eq_true rfl) (Nat.le_refl _) hm rfl (fun iv3 rv4 lv5 hq => ?_)
  obtain ⟨hT6, h⟩ := h iv3 rv4 lv5 hq
  refine Z_aload_n (a := 0) (q := 12) (by decide +kernel) rfl rfl ?_
  refine g5_11 (idx := 45) (q := 15) (by decide +kernel) fX5_45 (hS5_0 m_x0) (hL5_0 m_x0) rfl ?_
  exact Z_iret (ty := .int) (by decide +kernel) rfl rfl rfl ⟨_, rfl, h⟩
theorem eX5_begin {d : Nat} (x0 : Nat) (x1 : Nat) (x2 : Int32) {iv : zI} {rv : zR} {lv : zJ} {Q : zI → zR → zJ → Prop} (h : Zv mX5_begin (d + 1) 0 [some (.ref x0), some (.ref x1), some (.int x2), none] [] iv rv lv Q) : Cv mX5_begin (d + 1) [.ref x0, .ref x1, .int x2] iv rv lv Q := Cv.of (by decide +kernel) (by simp [Value.category]) (Nat.le_of_ble_eq_true rfl) rfl h
set_option maxRecDepth 4000 in
theorem bX5_begin_0 {d : Nat} (x0 : Nat) (x1 : Nat) (x2 : Int32) {iv : zI} {rv : zR} {lv : zJ} {Q : zI → zR → zJ → Prop} (hT : zTop rv) (m_x0 : x0 ∈ zPts) (m_x1 : x1 ∈ zSts)
    (h : (x2 = 0 ∨ x2 = 1) ∧ (∀ iv1 : zI, iv1 = zu iv x0 10 x2 → ∃ Q2 : Int32 → zI → zR → zJ → Prop, Ci mX9_total d [.ref x1] iv1 rv lv Q2 ∧ ∀ (v7 : Int32) (iv3 : zI) (rv4 : zR) (lv5 : zJ), Q2 v7 iv3 rv4 lv5 → zTop rv4 ∧ (∀ iv8 : zI, iv8 = zu iv3 x0 9 v7 → ∀ iv9 : zI, iv9 = zu iv8 x0 8 (0 : Int32) → Zv mX5_begin (d + 1) 20 [some (.ref x0), some (.ref x1), some (.int x2), some (.int (0 : Int32))] [] iv9 rv4 lv5 Q))) :
    Zv mX5_begin (d + 1) 0 [some (.ref x0), some (.ref x1), some (.int x2), none] [] iv rv lv Q := by
  unfold Zv
  refine Z_aload_n (a := 0) (q := 1) (by decide +kernel) rfl rfl ?_
  refine Z_iload_n (a := 2) (q := 2) (by decide +kernel) rfl rfl ?_
  obtain ⟨hbx, h⟩ := h
  refine p5_10 (idx := 41) (q := 5) (by decide +kernel) fX5_41 (hS5_0 m_x0) (hL5_0 m_x0) hbx rfl ?_
  replace h := h _ rfl
  refine Z_aload_n (a := 0) (q := 6) (by decide +kernel) rfl rfl ?_
  refine Z_aload_n (a := 1) (q := 7) (by decide +kernel) rfl rfl ?_
  obtain ⟨Q2, hm, h⟩ := h
  refine Z_callVi (M2 := mX9_total) (idx := 58) (d2 := d) (ci := 9) (As := []) (q := 10) (by decide +kernel) kX9_total lX5_58 rfl (hS9_0 m_x1) (hL9_0 m_x1) rfl rfl (by decide +kernel) (Nat.le_of_ble_eq_true rfl) (Nat.le_refl _) hm rfl (fun v7 iv3 rv4 lv5 hq => ?_)
  obtain ⟨hT6, h⟩ := h v7 iv3 rv4 lv5 hq
  refine p5_9 (idx := 38) (q := 13) (by decide +kernel) fX5_38 (hS5_0 m_x0) (hL5_0 m_x0) rfl ?_
  replace h := h _ rfl
  refine Z_aload_n (a := 0) (q := 14) (by decide +kernel) rfl rfl ?_
  refine Z_iconst (a := 0) (v := 0) (q := 15) (by decide +kernel) (by decide +kernel) rfl ?_
  refine p5_8 (idx := 35) (q := 18) (by decide +kernel) fX5_35 (hS5_0 m_x0) (hL5_0 m_x0) rfl ?_
  replace h := h _ rfl
  refine Z_iconst (a := 0) (v := 0) (q := 19) (by decide +kernel) (by decide +kernel) rfl ?_
  refine Z_istore_n (a := 3) (loc2 := [_, _, _, _]) (q := 20) (by decide +kernel) (by decide +kernel) rfl rfl rfl ?_
  exact h
set_option maxRecDepth 4000 in
theorem bX5_begin_20 {d : Nat} (x0 : Nat) (x1 : Nat) (x2 : Int32) (x3 : Int32) {iv : zI} {rv : zR} {lv : zJ} {Q : zI → zR → zJ → Prop} (hT : zTop rv) (m_x0 : x0 ∈ zPts) (m_x1 : x1 ∈ zSts)
    (h : ((iv x1 0) ≤ x3 → Zv mX5_begin (d + 1) 64 [some (.ref x0), some (.ref x1), some (.int x2), some (.int (0 : Int32))] [] iv rv lv Q) ∧ (¬ (iv x1 0) ≤ x3 → vp_in x3 10 ∧ (((iv (x1 + 2) x3.toNatClampNeg) = (-2 : Int32) → Zv mX5_begin (d + 1) 20 [some (.ref x0), some (.ref x1), some (.int x2), some (.int (x3 + 1))] [] iv rv lv Q) ∧ (¬ (iv (x1 + 2) x3.toNatClampNeg) = (-2 : Int32) → ∀ iv2 : zI, iv2 = zu iv x0 8 ((iv x0 8) ||| ((1 : Int32) <<< ((iv (x1 + 2) x3.toNatClampNeg) &&& 31))) → Zv mX5_begin (d + 1) 20 [some (.ref x0), some (.ref x1), some (.int x2), some (.int (x3 + 1))] [] iv2 rv lv Q)))) :
    Zv mX5_begin (d + 1) 20 [some (.ref x0), some (.ref x1), some (.int x2), some (.int x3)] [] iv rv lv Q := by
  unfold Zv
  refine Z_iload_n (a := 3) (q := 21) (by decide +kernel) rfl rfl ?_
  refine Z_aload_n (a := 1) (q := 22) (by decide +kernel) rfl rfl ?_
  refine g9_0 (idx := 63) (q := 25) (by decide +kernel) fX5_63 (hS9_0 m_x1) (hL9_0 m_x1) rfl ?_
  refine Z_icmp_ge (t := 62) (off := 37) (q := 28) (by decide +kernel) (by decide) rfl (fun hc => ?_) (fun hc => ?_)
  · replace h := h.1 hc
    refine Z_iconst (a := 0) (v := 0) (q := 63) (by decide +kernel) (by decide +kernel) rfl ?_
    refine Z_istore_n (a := 3) (loc2 := [_, _, _, _]) (q := 64) (by decide +kernel) (by decide +kernel) rfl rfl rfl ?_
    exact h
  · replace h := h.2 hc
    refine Z_aload_n (a := 1) (q := 29) (by decide +kernel) rfl rfl ?_
    refine g9_3 (idx := 66) (q := 32) (by decide +kernel) fX5_66 (hS9_0 m_x1) (hL9_0 m_x1) (t9_3 hT m_x1) rfl ?_
    refine Z_iload_n (a := 3) (q := 33) (by decide +kernel) rfl rfl ?_
    obtain ⟨hin1, h⟩ := h
    refine Z_iald (len := 10) (q := 34) (by decide +kernel) (hS9_2 m_x1) (hL9_2 m_x1) hin1 rfl ?_
    refine Z_bipush (a := -2) (v := -2) (q := 36) (by decide +kernel) (by decide +kernel) rfl ?_
    refine Z_icmp_eq (t := 56) (off := 20) (q := 39) (by decide +kernel) (by decide) rfl (fun hc => ?_) (fun hc => ?_)
    · replace h := h.1 hc
      refine Z_iinc (a := 3) (b := 1) (v := _ + 1) (loc2 := [_, _, _, _]) (q := 59) (by decide +kernel) rfl (zinc _) (by decide +kernel) rfl rfl rfl ?_
      refine Z_goto (q := 20) (off := -39) (by decide +kernel) (by decide) ?_
      exact h
    · replace h := h.2 hc
      refine Z_aload_n (a := 0) (q := 40) (by decide +kernel) rfl rfl ?_
      refine Z_dup (q := 41) (by decide +kernel) rfl rfl ?_
      refine g5_8 (idx := 35) (q := 44) (by decide +kernel) fX5_35 (hS5_0 m_x0) (hL5_0 m_x0) rfl ?_
      refine Z_iconst (a := 1) (v := 1) (q := 45) (by decide +kernel) (by decide +kernel) rfl ?_
      refine Z_aload_n (a := 1) (q := 46) (by decide +kernel) rfl rfl ?_
      refine g9_3 (idx := 66) (q := 49) (by decide +kernel) fX5_66 (hS9_0 m_x1) (hL9_0 m_x1) (t9_3 hT m_x1) rfl ?_
      refine Z_iload_n (a := 3) (q := 50) (by decide +kernel) rfl rfl ?_
      refine Z_iald (len := 10) (q := 51) (by decide +kernel) (hS9_2 m_x1) (hL9_2 m_x1) hin1 rfl ?_
      refine Z_ishl (q := 52) (by decide +kernel) rfl ?_
      refine Z_ior (q := 53) (by decide +kernel) rfl ?_
      refine p5_8 (idx := 35) (q := 56) (by decide +kernel) fX5_35 (hS5_0 m_x0) (hL5_0 m_x0) rfl ?_
      replace h := h _ rfl
      refine Z_iinc (a := 3) (b := 1) (v := _ + 1) (loc2 := [_, _, _, _]) (q := 59) (by decide +kernel) rfl (zinc _) (by decide +kernel) rfl rfl rfl ?_
      refine Z_goto (q := 20) (off := -39) (by decide +kernel) (by decide) ?_
      exact h
set_option maxRecDepth 4000 in
theorem bX5_begin_64 {d : Nat} (x0 : Nat) (x1 : Nat) (x2 : Int32) (x3 : Int32) {iv : zI} {rv : zR} {lv : zJ} {Q : zI → zR → zJ → Prop} (hT : zTop rv) (m_x0 : x0 ∈ zPts) (m_x1 : x1 ∈ zSts)
    (h : ((4 : Int32) ≤ x3 → (¬ ((iv x0 8) >>> ((iv x0 4) &&& 31)) = 0 → Q iv rv lv) ∧ (((iv x0 8) >>> ((iv x0 4) &&& 31)) = 0 → ∃ Q1 : zI → zR → zJ → Prop, Cv mX5_place d [.ref x0, .ref x1, .int (0 : Int32), .int (1 : Int32), .int (iv x0 9)] iv rv lv Q1 ∧ ∀ (iv2 : zI) (rv3 : zR) (lv4 : zJ), Q1 iv2 rv3 lv4 → zTop rv3 ∧ (Q iv2 rv3 lv4))) ∧ (¬ (4 : Int32) ≤ x3 → vp_in x3 4 ∧ (∀ iv8 : zI, iv8 = zu iv (x0 + 3) x3.toNatClampNeg (0 : Int32) → ∀ iv9 : zI, iv9 = zu iv8 (x0 + 4) x3.toNatClampNeg (0 : Int32) → Zv mX5_begin (d + 1) 64 [some (.ref x0), some (.ref x1), some (.int x2), some (.int (x3 + 1))] [] iv9 rv lv Q))) :
    Zv mX5_begin (d + 1) 64 [some (.ref x0), some (.ref x1), some (.int x2), some (.int x3)] [] iv rv lv Q := by
  unfold Zv
  refine Z_iload_n (a := 3) (q := 65) (by decide +kernel) rfl rfl ?_
  refine Z_iconst (a := 4) (v := 4) (q := 66) (by decide +kernel) (by decide +kernel) rfl ?_
  refine Z_icmp_ge (t := 89) (off := 23) (q := 69) (by decide +kernel) (by decide) rfl (fun hc => ?_) (fun hc => ?_)
  · replace h := h.1 hc
    refine Z_aload_n (a := 0) (q := 90) (by decide +kernel) rfl rfl ?_
    refine g5_8 (idx := 35) (q := 93) (by decide +kernel) fX5_35 (hS5_0 m_x0) (hL5_0 m_x0) rfl ?_
    refine Z_aload_n (a := 0) (q := 94) (by decide +kernel) rfl rfl ?_
    refine g5_4 (idx := 51) (q := 97) (by decide +kernel) fX5_51 (hS5_0 m_x0) (hL5_0 m_x0) rfl ?_
    refine Z_ishr (q := 98) (by decide +kernel) rfl ?_
    refine Z_if_ne (t := 112) (off := 14) (q := 101) (by decide +kernel) (by decide) rfl (fun hc => ?_) (fun hc => ?_)
    · replace h := h.1 hc
      exact Z_vret (by decide +kernel) rfl rfl ⟨rfl, h⟩
    · replace h := h.2 hc
      refine Z_aload_n (a := 0) (q := 102) (by decide +kernel) rfl rfl ?_
      refine Z_aload_n (a := 1) (q := 103) (by decide +kernel) rfl rfl ?_
      refine Z_iconst (a := 0) (v := 0) (q := 104) (by decide +kernel) (by decide +kernel) rfl ?_
      refine Z_iconst (a := 1) (v := 1) (q := 105) (by decide +kernel) (by decide +kernel) rfl ?_
      refine Z_aload_n (a := 0) (q := 106) (by decide +kernel) rfl rfl ?_
      refine g5_9 (idx := 38) (q := 109) (by decide +kernel) fX5_38 (hS5_0 m_x0) (hL5_0 m_x0) rfl ?_
      obtain ⟨Q1, hm, h⟩ := h
      refine Z_callVv (M2 := mX5_place) (idx := 69) (d2 := d) (ci := 5) (As := [.ref _, .int _, .int _, .int _]) (q := 112) (by decide +kernel) kX5_place lX5_69 rfl (hS5_0 m_x0) (hL5_0 m_x0) rfl rfl (by decide +kernel) (Nat.le_of_ble_eq_true rfl) (Nat.le_refl _) hm rfl (fun iv2 rv3 lv4 hq => ?_)
      obtain ⟨hT5, h⟩ := h iv2 rv3 lv4 hq
      exact Z_vret (by decide +kernel) rfl rfl ⟨rfl, h⟩
  · replace h := h.2 hc
    refine Z_aload_n (a := 0) (q := 70) (by decide +kernel) rfl rfl ?_
    refine g5_6 (idx := 29) (q := 73) (by decide +kernel) fX5_29 (hS5_0 m_x0) (hL5_0 m_x0) (t5_6 hT m_x0) rfl ?_
    refine Z_iload_n (a := 3) (q := 74) (by decide +kernel) rfl rfl ?_
    refine Z_iconst (a := 0) (v := 0) (q := 75) (by decide +kernel) (by decide +kernel) rfl ?_
    obtain ⟨hin7, h⟩ := h
    refine Z_iast (len := 4) (q := 76) (by decide +kernel) (hS5_3 m_x0) (hL5_3 m_x0) hin7 rfl ?_
    replace h := h _ rfl
    refine Z_aload_n (a := 0) (q := 77) (by decide +kernel) rfl rfl ?_
    refine g5_7 (idx := 32) (q := 80) (by decide +kernel) fX5_32 (hS5_0 m_x0) (hL5_0 m_x0) (t5_7 hT m_x0) rfl ?_
    refine Z_iload_n (a := 3) (q := 81) (by decide +kernel) rfl rfl ?_
    refine Z_iconst (a := 0) (v := 0) (q := 82) (by decide +kernel) (by decide +kernel) rfl ?_
    refine Z_iast (len := 4) (q := 83) (by decide +kernel) (hS5_4 m_x0) (hL5_4 m_x0) hin7 rfl ?_
    replace h := h _ rfl
    refine Z_iinc (a := 3) (b := 1) (v := _ + 1) (loc2 := [_, _, _, _]) (q := 86) (by decide +kernel) rfl (zinc _) (by decide +kernel) rfl rfl rfl ?_
    refine Z_goto (q := 64) (off := -22) (by decide +kernel) (by decide) ?_
    exact h
theorem eX5_place {d : Nat} (x0 : Nat) (x1 : Nat) (x2 : Int32) (x3 : Int32) (x4 : Int32) {iv : zI} {rv : zR} {lv : zJ} {Q : zI → zR → zJ → Prop} (h : Zv mX5_place (d + 1) 0 [some (.ref x0), some (.ref x1), some (.int x2), some (.int x3), some (.int x4)] [] iv rv lv Q) : Cv mX5_place (d + 1) [.ref x0, .ref x1, .int x2, .int x3, .int x4] iv rv lv Q := Cv.of (by decide +kernel) (by simp [Value.category]) (Nat.le_of_ble_eq_true rfl) rfl h
set_option maxRecDepth 4000 in
theorem bX5_place_0 {d : Nat} (x0 : Nat) (x1 : Nat) (x2 : Int32) (x3 : Int32) (x4 : Int32) {iv : zI} {rv : zR} {lv : zJ} {Q : zI → zR → zJ → Prop} (hT : zTop rv) (m_x0 : x0 ∈ zPts) (m_x1 : x1 ∈ zSts)
    (h : (x2 < (iv x1 0) → ((iv x0 10) = 0 → Zv mX5_place (d + 1) 44 [some (.ref x0), some (.ref x1), some (.int x2), some (.int x3), some (.int x4)] [] iv rv lv Q) ∧ (¬ (iv x0 10) = 0 → vp_in x2 10 ∧ ((¬ (iv (x1 + 3) x2.toNatClampNeg) = 0 → Zv mX5_place (d + 1) 44 [some (.ref x0), some (.ref x1), some (.int x2), some (.int x3), some (.int x4)] [] iv rv lv Q) ∧ ((iv (x1 + 3) x2.toNatClampNeg) = 0 → ∃ Q2 : zI → zR → zJ → Prop, Cv mX5_placeAnywhere d [.ref x0, .ref x1, .int x2, .int x3, .int x4] iv rv lv Q2 ∧ ∀ (iv3 : zI) (rv4 : zR) (lv5 : zJ), Q2 iv3 rv4 lv5 → zTop rv4 ∧ (Q iv3 rv4 lv5))))) ∧ (¬ x2 < (iv x1 0) → ∃ Q8 : zI → zR → zJ → Prop, Cv mX5_takeRow d [.ref x0, .int x3] iv rv lv Q8 ∧ ∀ (iv9 : zI) (rv10 : zR) (lv11 : zJ), Q8 iv9 rv10 lv11 → zTop rv10 ∧ (Q iv9 rv10 lv11))) :
    Zv mX5_place (d + 1) 0 [some (.ref x0), some (.ref x1), some (.int x2), some (.int x3), some (.int x4)] [] iv rv lv Q := by
  unfold Zv
  refine Z_iload_n (a := 2) (q := 1) (by decide +kernel) rfl rfl ?_
  refine Z_aload_n (a := 1) (q := 2) (by decide +kernel) rfl rfl ?_
  refine g9_0 (idx := 63) (q := 5) (by decide +kernel) fX5_63 (hS9_0 m_x1) (hL9_0 m_x1) rfl ?_
  refine Z_icmp_lt (t := 16) (off := 11) (q := 8) (by decide +kernel) (by decide) rfl (fun hc => ?_) (fun hc => ?_)
  · replace h := h.1 hc
    refine Z_aload_n (a := 0) (q := 17) (by decide +kernel) rfl rfl ?_
    refine g5_10 (idx := 41) (q := 20) (by decide +kernel) fX5_41 (hS5_0 m_x0) (hL5_0 m_x0) rfl ?_
    refine Z_if_eq (t := 44) (off := 24) (q := 23) (by decide +kernel) (by decide) rfl (fun hc => ?_) (fun hc => ?_)
    · replace h := h.1 hc
      exact h
    · replace h := h.2 hc
      refine Z_aload_n (a := 1) (q := 24) (by decide +kernel) rfl rfl ?_
      refine g9_4 (idx := 77) (q := 27) (by decide +kernel) fX5_77 (hS9_0 m_x1) (hL9_0 m_x1) (t9_4 hT m_x1) rfl ?_
      refine Z_iload_n (a := 2) (q := 28) (by decide +kernel) rfl rfl ?_
      obtain ⟨hin1, h⟩ := h
      refine Z_iald (len := 10) (q := 29) (by decide +kernel) (hS9_3 m_x1) (hL9_3 m_x1) hin1 rfl ?_
      refine Z_if_ne (t := 44) (off := 15) (q := 32) (by decide +kernel) (by decide) rfl (fun hc => ?_) (fun hc => ?_)
      · replace h := h.1 hc
        exact h
      · replace h := h.2 hc
        refine Z_aload_n (a := 0) (q := 33) (by decide +kernel) rfl rfl ?_
        refine Z_aload_n (a := 1) (q := 34) (by decide +kernel) rfl rfl ?_
        refine Z_iload_n (a := 2) (q := 35) (by decide +kernel) rfl rfl ?_
        refine Z_iload_n (a := 3) (q := 36) (by decide +kernel) rfl rfl ?_
        refine Z_iload (a := 4) (q := 38) (by decide +kernel) rfl rfl ?_
        obtain ⟨Q2, hm, h⟩ := h
        refine Z_callVv (M2 := mX5_placeAnywhere) (idx := 80) (d2 := d) (ci := 5) (As := [.ref _, .int _, .int _, .int _]) (q := 41) (by decide +kernel) kX5_placeAnywhere lX5_80 rfl (hS5_0 m_x0) (hL5_0 m_x0) rfl rfl (by decide +kernel) (Nat.le_of_ble_eq_true rfl) (Nat.le_refl _) hm rfl (fun iv3 rv4 lv5 hq => ?_)
        obtain ⟨hT6, h⟩ := h iv3 rv4 lv5 hq
        refine Z_goto (q := 69) (off := 28) (by decide +kernel) (by decide) ?_
        exact Z_vret (by decide +kernel) rfl rfl ⟨rfl, h⟩
  · replace h := h.2 hc
    refine Z_aload_n (a := 0) (q := 9) (by decide +kernel) rfl rfl ?_
    refine Z_iload_n (a := 3) (q := 10) (by decide +kernel) rfl rfl ?_
    obtain ⟨Q8, hm, h⟩ := h
    refine Z_callVv (M2 := mX5_takeRow) (idx := 73) (d2 := d) (ci := 5) (As := [.int _]) (q := 13) (by decide +kernel) kX5_takeRow lX5_73 rfl (hS5_0 m_x0) (hL5_0 m_x0) rfl rfl (by decide +kernel) (Nat.le_of_ble_eq_true rfl) (Nat.le_refl _) hm rfl (fun iv9 rv10 lv11 hq => ?_)
    obtain ⟨hT12, h⟩ := h iv9 rv10 lv11 hq
    refine Z_goto (q := 69) (off := 56) (by decide +kernel) (by decide) ?_
    exact Z_vret (by decide +kernel) rfl rfl ⟨rfl, h⟩
set_option maxRecDepth 4000 in
theorem bX5_place_44 {d : Nat} (x0 : Nat) (x1 : Nat) (x2 : Int32) (x3 : Int32) (x4 : Int32) {iv : zI} {rv : zR} {lv : zJ} {Q : zI → zR → zJ → Prop} (hT : zTop rv) (m_x0 : x0 ∈ zPts) (m_x1 : x1 ∈ zSts)
    (h : (¬ (iv x0 10) = 0 → ∃ Q1 : zI → zR → zJ → Prop, Cv mX5_placeInEach d [.ref x0, .ref x1, .int x2, .int x3, .int x4] iv rv lv Q1 ∧ ∀ (iv2 : zI) (rv3 : zR) (lv4 : zJ), Q1 iv2 rv3 lv4 → zTop rv3 ∧ (Q iv2 rv3 lv4)) ∧ ((iv x0 10) = 0 → ∃ Q7 : Int32 → zI → zR → zJ → Prop, Ci mX5_hopeful d [.ref x0, .int x4] iv rv lv Q7 ∧ ∀ (v12 : Int32) (iv8 : zI) (rv9 : zR) (lv10 : zJ), Q7 v12 iv8 rv9 lv10 → zTop rv9 ∧ ((v12 = 0 → Q iv8 rv9 lv10) ∧ (¬ v12 = 0 → ∃ Q13 : zI → zR → zJ → Prop, Cv mX5_placeInEach d [.ref x0, .ref x1, .int x2, .int x3, .int x4] iv8 rv9 lv10 Q13 ∧ ∀ (iv14 : zI) (rv15 : zR) (lv16 : zJ), Q13 iv14 rv15 lv16 → zTop rv15 ∧ (Q iv14 rv15 lv16))))) :
    Zv mX5_place (d + 1) 44 [some (.ref x0), some (.ref x1), some (.int x2), some (.int x3), some (.int x4)] [] iv rv lv Q := by
  unfold Zv
  refine Z_aload_n (a := 0) (q := 45) (by decide +kernel) rfl rfl ?_
  refine g5_10 (idx := 41) (q := 48) (by decide +kernel) fX5_41 (hS5_0 m_x0) (hL5_0 m_x0) rfl ?_
  refine Z_if_ne (t := 60) (off := 12) (q := 51) (by decide +kernel) (by decide) rfl (fun hc => ?_) (fun hc => ?_)
  · replace h := h.1 hc
    refine Z_aload_n (a := 0) (q := 61) (by decide +kernel) rfl rfl ?_
    refine Z_aload_n (a := 1) (q := 62) (by decide +kernel) rfl rfl ?_
    refine Z_iload_n (a := 2) (q := 63) (by decide +kernel) rfl rfl ?_
    refine Z_iload_n (a := 3) (q := 64) (by decide +kernel) rfl rfl ?_
    refine Z_iload (a := 4) (q := 66) (by decide +kernel) rfl rfl ?_
    obtain ⟨Q1, hm, h⟩ := h
    refine Z_callVv (M2 := mX5_placeInEach) (idx := 87) (d2 := d) (ci := 5) (As := [.ref _, .int _, .int _, .int _]) (q := 69) (by decide +kernel) kX5_placeInEach lX5_87 rfl (hS5_0 m_x0) (hL5_0 m_x0) rfl rfl (by decide +kernel) (Nat.le_of_ble_eq_true rfl) (Nat.le_refl _) hm rfl (fun iv2 rv3 lv4 hq => ?_)
    obtain ⟨hT5, h⟩ := h iv2 rv3 lv4 hq
    exact Z_vret (by decide +kernel) rfl rfl ⟨rfl, h⟩
  · replace h := h.2 hc
    refine Z_aload_n (a := 0) (q := 52) (by decide +kernel) rfl rfl ?_
    refine Z_iload (a := 4) (q := 54) (by decide +kernel) rfl rfl ?_
    obtain ⟨Q7, hm, h⟩ := h
    refine Z_callVi (M2 := mX5_hopeful) (idx := 83) (d2 := d) (ci := 5) (As := [.int _]) (q := 57) (by decide +kernel) kX5_hopeful lX5_83 rfl (hS5_0 m_x0) (hL5_0 m_x0) rfl rfl (by decide +kernel) (Nat.le_of_ble_eq_true rfl) (Nat.le_refl _) hm rfl (fun v12 iv8 rv9 lv10 hq => ?_)
    obtain ⟨hT11, h⟩ := h v12 iv8 rv9 lv10 hq
    refine Z_if_eq (t := 69) (off := 12) (q := 60) (by decide +kernel) (by decide) rfl (fun hc => ?_) (fun hc => ?_)
    · replace h := h.1 hc
      exact Z_vret (by decide +kernel) rfl rfl ⟨rfl, h⟩
    · replace h := h.2 hc
      refine Z_aload_n (a := 0) (q := 61) (by decide +kernel) rfl rfl ?_
      refine Z_aload_n (a := 1) (q := 62) (by decide +kernel) rfl rfl ?_
      refine Z_iload_n (a := 2) (q := 63) (by decide +kernel) rfl rfl ?_
      refine Z_iload_n (a := 3) (q := 64) (by decide +kernel) rfl rfl ?_
      refine Z_iload (a := 4) (q := 66) (by decide +kernel) rfl rfl ?_
      obtain ⟨Q13, hm, h⟩ := h
      refine Z_callVv (M2 := mX5_placeInEach) (idx := 87) (d2 := d) (ci := 5) (As := [.ref _, .int _, .int _, .int _]) (q := 69) (by decide +kernel) kX5_placeInEach lX5_87 rfl (hS5_0 m_x0) (hL5_0 m_x0) rfl rfl (by decide +kernel) (Nat.le_of_ble_eq_true rfl) (Nat.le_refl _) hm rfl (fun iv14 rv15 lv16 hq => ?_)
      obtain ⟨hT17, h⟩ := h iv14 rv15 lv16 hq
      exact Z_vret (by decide +kernel) rfl rfl ⟨rfl, h⟩
theorem eX5_placeAnywhere {d : Nat} (x0 : Nat) (x1 : Nat) (x2 : Int32) (x3 : Int32) (x4 : Int32) {iv : zI} {rv : zR} {lv : zJ} {Q : zI → zR → zJ → Prop} (h : Zv mX5_placeAnywhere (d + 1) 0 [some (.ref x0), some (.ref x1), some (.int x2), some (.int x3), some (.int x4), none] [] iv rv lv Q) : Cv mX5_placeAnywhere (d + 1) [.ref x0, .ref x1, .int x2, .int x3, .int x4] iv rv lv Q := Cv.of (by decide +kernel) (by simp [Value.category]) (Nat.le_of_ble_eq_true rfl) rfl h
set_option maxRecDepth 4000 in
theorem bX5_placeAnywhere_0 {d : Nat} (x0 : Nat) (x1 : Nat) (x2 : Int32) (x3 : Int32) (x4 : Int32) {iv : zI} {rv : zR} {lv : zJ} {Q : zI → zR → zJ → Prop} (hT : zTop rv) (m_x0 : x0 ∈ zPts) (m_x1 : x1 ∈ zSts)
    (h : vp_in x2 10 ∧ ((¬ (iv (x1 + 2) x2.toNatClampNeg) = (-2 : Int32) → Zv mX5_placeAnywhere (d + 1) 19 [some (.ref x0), some (.ref x1), some (.int x2), some (.int x3), some (.int x4), none] [.int (1 : Int32)] iv rv lv Q) ∧ ((iv (x1 + 2) x2.toNatClampNeg) = (-2 : Int32) → Zv mX5_placeAnywhere (d + 1) 19 [some (.ref x0), some (.ref x1), some (.int x2), some (.int x3), some (.int x4), none] [.int (iv x0 4)] iv rv lv Q))) :
    Zv mX5_placeAnywhere (d + 1) 0 [some (.ref x0), some (.ref x1), some (.int x2), some (.int x3), some (.int x4), none] [] iv rv lv Q := by
  unfold Zv
  refine Z_aload_n (a := 1) (q := 1) (by decide +kernel) rfl rfl ?_
  refine g9_3 (idx := 66) (q := 4) (by decide +kernel) fX5_66 (hS9_0 m_x1) (hL9_0 m_x1) (t9_3 hT m_x1) rfl ?_
  refine Z_iload_n (a := 2) (q := 5) (by decide +kernel) rfl rfl ?_
  obtain ⟨hin1, h⟩ := h
  refine Z_iald (len := 10) (q := 6) (by decide +kernel) (hS9_2 m_x1) (hL9_2 m_x1) hin1 rfl ?_
  refine Z_bipush (a := -2) (v := -2) (q := 8) (by decide +kernel) (by decide +kernel) rfl ?_
  refine Z_icmp_ne (t := 18) (off := 10) (q := 11) (by decide +kernel) (by decide) rfl (fun hc => ?_) (fun hc => ?_)
  · replace h := h.1 hc
    refine Z_iconst (a := 1) (v := 1) (q := 19) (by decide +kernel) (by decide +kernel) rfl ?_
    exact h
  · replace h := h.2 hc
    refine Z_aload_n (a := 0) (q := 12) (by decide +kernel) rfl rfl ?_
    refine g5_4 (idx := 51) (q := 15) (by decide +kernel) fX5_51 (hS5_0 m_x0) (hL5_0 m_x0) rfl ?_
    refine Z_goto (q := 19) (off := 4) (by decide +kernel) (by decide) ?_
    exact h
set_option maxRecDepth 4000 in
theorem bX5_placeAnywhere_19 {d : Nat} (x0 : Nat) (x1 : Nat) (x2 : Int32) (x3 : Int32) (x4 : Int32) (y0 : Int32) {iv : zI} {rv : zR} {lv : zJ} {Q : zI → zR → zJ → Prop} (hT : zTop rv) (m_x0 : x0 ∈ zPts) (m_x1 : x1 ∈ zSts)
    (h : vp_in x2 10 ∧ (∃ Q2 : zI → zR → zJ → Prop, Cv mX5_place d [.ref x0, .ref x1, .int (x2 + (1 : Int32)), .int (x3 * y0), .int (x4 - (iv (x1 + 1) x2.toNatClampNeg))] iv rv lv Q2 ∧ ∀ (iv3 : zI) (rv4 : zR) (lv5 : zJ), Q2 iv3 rv4 lv5 → zTop rv4 ∧ (Q iv3 rv4 lv5))) :
    Zv mX5_placeAnywhere (d + 1) 19 [some (.ref x0), some (.ref x1), some (.int x2), some (.int x3), some (.int x4), none] [.int y0] iv rv lv Q := by
  unfold Zv
  refine Z_istore (a := 5) (loc2 := [_, _, _, _, _, _]) (q := 21) (by decide +kernel) (by decide +kernel) rfl rfl rfl ?_
  refine Z_aload_n (a := 0) (q := 22) (by decide +kernel) rfl rfl ?_
  refine Z_aload_n (a := 1) (q := 23) (by decide +kernel) rfl rfl ?_
  refine Z_iload_n (a := 2) (q := 24) (by decide +kernel) rfl rfl ?_
  refine Z_iconst (a := 1) (v := 1) (q := 25) (by decide +kernel) (by decide +kernel) rfl ?_
  refine Z_iadd (q := 26) (by decide +kernel) rfl ?_
  refine Z_iload_n (a := 3) (q := 27) (by decide +kernel) rfl rfl ?_
  refine Z_iload (a := 5) (q := 29) (by decide +kernel) rfl rfl ?_
  refine Z_imul (q := 30) (by decide +kernel) rfl ?_
  refine Z_iload (a := 4) (q := 32) (by decide +kernel) rfl rfl ?_
  refine Z_aload_n (a := 1) (q := 33) (by decide +kernel) rfl rfl ?_
  refine g9_2 (idx := 90) (q := 36) (by decide +kernel) fX5_90 (hS9_0 m_x1) (hL9_0 m_x1) (t9_2 hT m_x1) rfl ?_
  refine Z_iload_n (a := 2) (q := 37) (by decide +kernel) rfl rfl ?_
  obtain ⟨hin1, h⟩ := h
  refine Z_iald (len := 10) (q := 38) (by decide +kernel) (hS9_1 m_x1) (hL9_1 m_x1) hin1 rfl ?_
  refine Z_isub (q := 39) (by decide +kernel) rfl ?_
  obtain ⟨Q2, hm, h⟩ := h
  refine Z_callVv (M2 := mX5_place) (idx := 69) (d2 := d) (ci := 5) (As := [.ref _, .int _, .int _, .int _]) (q := 42) (by decide +kernel) kX5_place lX5_69 rfl (hS5_0 m_x0) (hL5_0 m_x0) rfl rfl (by decide +kernel) (Nat.le_of_ble_eq_true rfl) (Nat.le_refl _) hm rfl (fun iv3 rv4 lv5 hq => ?_)
  obtain ⟨hT6, h⟩ := h iv3 rv4 lv5 hq
  exact Z_vret (by decide +kernel) rfl rfl ⟨rfl, h⟩
theorem eX5_placeInEach {d : Nat} (x0 : Nat) (x1 : Nat) (x2 : Int32) (x3 : Int32) (x4 : Int32) {iv : zI} {rv : zR} {lv : zJ} {Q : zI → zR → zJ → Prop} (h : Zv mX5_placeInEach (d + 1) 0 [some (.ref x0), some (.ref x1), some (.int x2), some (.int x3), some (.int x4), none, none, none, none, none] [] iv rv lv Q) : Cv mX5_placeInEach (d + 1) [.ref x0, .ref x1, .int x2, .int x3, .int x4] iv rv lv Q := Cv.of (by decide +kernel) (by simp [Value.category]) (Nat.le_of_ble_eq_true rfl) rfl h
set_option maxRecDepth 4000 in
theorem bX5_placeInEach_0 {d : Nat} (x0 : Nat) (x1 : Nat) (x2 : Int32) (x3 : Int32) (x4 : Int32) {iv : zI} {rv : zR} {lv : zJ} {Q : zI → zR → zJ → Prop} (hT : zTop rv) (m_x0 : x0 ∈ zPts) (m_x1 : x1 ∈ zSts)
    (h : vp_in x2 10 ∧ (Zv mX5_placeInEach (d + 1) 14 [some (.ref x0), some (.ref x1), some (.int x2), some (.int x3), some (.int x4), some (.int (iv (x1 + 1) x2.toNatClampNeg)), some (.int (0 : Int32)), some (.int (0 : Int32)), none, none] [] iv rv lv Q)) :
    Zv mX5_placeInEach (d + 1) 0 [some (.ref x0), some (.ref x1), some (.int x2), some (.int x3), some (.int x4), none, none, none, none, none] [] iv rv lv Q := by
  unfold Zv
  refine Z_aload_n (a := 1) (q := 1) (by decide +kernel) rfl rfl ?_
  refine g9_2 (idx := 90) (q := 4) (by decide +kernel) fX5_90 (hS9_0 m_x1) (hL9_0 m_x1) (t9_2 hT m_x1) rfl ?_
  refine Z_iload_n (a := 2) (q := 5) (by decide +kernel) rfl rfl ?_
  obtain ⟨hin1, h⟩ := h
  refine Z_iald (len := 10) (q := 6) (by decide +kernel) (hS9_1 m_x1) (hL9_1 m_x1) hin1 rfl ?_
  refine Z_istore (a := 5) (loc2 := [_, _, _, _, _, _, _, _, _, _]) (q := 8) (by decide +kernel) (by decide +kernel) rfl rfl rfl ?_
  refine Z_iconst (a := 0) (v := 0) (q := 9) (by decide +kernel) (by decide +kernel) rfl ?_
  refine Z_istore (a := 6) (loc2 := [_, _, _, _, _, _, _, _, _, _]) (q := 11) (by decide +kernel) (by decide +kernel) rfl rfl rfl ?_
  refine Z_iconst (a := 0) (v := 0) (q := 12) (by decide +kernel) (by decide +kernel) rfl ?_
  refine Z_istore (a := 7) (loc2 := [_, _, _, _, _, _, _, _, _, _]) (q := 14) (by decide +kernel) (by decide +kernel) rfl rfl rfl ?_
  exact h
set_option maxRecDepth 4000 in
theorem bX5_placeInEach_14 {d : Nat} (x0 : Nat) (x1 : Nat) (x2 : Int32) (x3 : Int32) (x4 : Int32) (x5 : Int32) (x6 : Int32) (x7 : Int32) {iv : zI} {rv : zR} {lv : zJ} {Q : zI → zR → zJ → Prop} (hT : zTop rv) (m_x0 : x0 ∈ zPts) (m_x1 : x1 ∈ zSts)
    (h : ((iv x0 4) ≤ x7 → Q iv rv lv) ∧ (¬ (iv x0 4) ≤ x7 → ∃ Q1 : Int32 → zI → zR → zJ → Prop, Ci mX5_isNameless d [.ref x0, .int x7] iv rv lv Q1 ∧ ∀ (v6 : Int32) (iv2 : zI) (rv3 : zR) (lv4 : zJ), Q1 v6 iv2 rv3 lv4 → zTop rv3 ∧ (∃ Q7 : Int32 → zI → zR → zJ → Prop, Ci mX5_mayLie d [.ref x0, .ref x1, .int x2, .int x7] iv2 rv3 lv4 Q7 ∧ ∀ (v12 : Int32) (iv8 : zI) (rv9 : zR) (lv10 : zJ), Q7 v12 iv8 rv9 lv10 → zTop rv9 ∧ ((v12 = 0 → Zv mX5_placeInEach (d + 1) 14 [some (.ref x0), some (.ref x1), some (.int x2), some (.int x3), some (.int x4), some (.int x5), some (.int x6), some (.int (x7 + 1)), none, none] [] iv8 rv9 lv10 Q) ∧ (¬ v12 = 0 → (v6 = 0 → Zv mX5_placeInEach (d + 1) 52 [some (.ref x0), some (.ref x1), some (.int x2), some (.int x3), some (.int x4), some (.int x5), some (.int x6), some (.int x7), some (.int v6), none] [] iv8 rv9 lv10 Q) ∧ (¬ v6 = 0 → (¬ x6 = 0 → Zv mX5_placeInEach (d + 1) 14 [some (.ref x0), some (.ref x1), some (.int x2), some (.int x3), some (.int x4), some (.int x5), some (.int x6), some (.int (x7 + 1)), none, none] [] iv8 rv9 lv10 Q) ∧ (x6 = 0 → Zv mX5_placeInEach (d + 1) 52 [some (.ref x0), some (.ref x1), some (.int x2), some (.int x3), some (.int x4), some (.int x5), some (.int x6), some (.int x7), some (.int v6), none] [] iv8 rv9 lv10 Q))))))) :
    Zv mX5_placeInEach (d + 1) 14 [some (.ref x0), some (.ref x1), some (.int x2), some (.int x3), some (.int x4), some (.int x5), some (.int x6), some (.int x7), none, none] [] iv rv lv Q := by
  unfold Zv
  refine Z_iload (a := 7) (q := 16) (by decide +kernel) rfl rfl ?_
  refine Z_aload_n (a := 0) (q := 17) (by decide +kernel) rfl rfl ?_
  refine g5_4 (idx := 51) (q := 20) (by decide +kernel) fX5_51 (hS5_0 m_x0) (hL5_0 m_x0) rfl ?_
  refine Z_icmp_ge (t := 165) (off := 145) (q := 23) (by decide +kernel) (by decide) rfl (fun hc => ?_) (fun hc => ?_)
  · replace h := h.1 hc
    exact Z_vret (by decide +kernel) rfl rfl ⟨rfl, h⟩
  · replace h := h.2 hc
    refine Z_aload_n (a := 0) (q := 24) (by decide +kernel) rfl rfl ?_
    refine Z_iload (a := 7) (q := 26) (by decide +kernel) rfl rfl ?_
    obtain ⟨Q1, hm, h⟩ := h
    refine Z_callVi (M2 := mX5_isNameless) (idx := 93) (d2 := d) (ci := 5) (As := [.int _]) (q := 29) (by decide +kernel) kX5_isNameless lX5_93 rfl (hS5_0 m_x0) (hL5_0 m_x0) rfl rfl (by decide +kernel) (Nat.le_of_ble_eq_true rfl) (Nat.le_refl _) hm rfl (fun v6 iv2 rv3 lv4 hq => ?_)
    obtain ⟨hT5, h⟩ := h v6 iv2 rv3 lv4 hq
    refine Z_istore (a := 8) (loc2 := [_, _, _, _, _, _, _, _, _, _]) (q := 31) (by decide +kernel) (by decide +kernel) rfl rfl rfl ?_
    refine Z_aload_n (a := 0) (q := 32) (by decide +kernel) rfl rfl ?_
    refine Z_aload_n (a := 1) (q := 33) (by decide +kernel) rfl rfl ?_
    refine Z_iload_n (a := 2) (q := 34) (by decide +kernel) rfl rfl ?_
    refine Z_iload (a := 7) (q := 36) (by decide +kernel) rfl rfl ?_
    obtain ⟨Q7, hm, h⟩ := h
    refine Z_callVi (M2 := mX5_mayLie) (idx := 96) (d2 := d) (ci := 5) (As := [.ref _, .int _, .int _]) (q := 39) (by decide +kernel) kX5_mayLie lX5_96 rfl (hS5_0 m_x0) (hL5_0 m_x0) rfl rfl (by decide +kernel) (Nat.le_of_ble_eq_true rfl) (Nat.le_refl _) hm rfl (fun v12 iv8 rv9 lv10 hq => ?_)
    obtain ⟨hT11, h⟩ := h v12 iv8 rv9 lv10 hq
    refine Z_if_eq (t := 159) (off := 120) (q := 42) (by decide +kernel) (by decide) rfl (fun hc => ?_) (fun hc => ?_)
    · replace h := h.1 hc
      refine Z_iinc (a := 7) (b := 1) (v := _ + 1) (loc2 := [_, _, _, _, _, _, _, _, _, _]) (q := 162) (by decide +kernel) rfl (zinc _) (by decide +kernel) rfl rfl rfl ?_
      refine Z_goto (q := 14) (off := -148) (by decide +kernel) (by decide) ?_
      exact Z_forget h (And.intro rfl (And.intro rfl (And.intro rfl (And.intro rfl (And.intro rfl (And.intro rfl (And.intro rfl (And.intro rfl trivial))))))))
    · replace h := h.2 hc
      refine Z_iload (a := 8) (q := 44) (by decide +kernel) rfl rfl ?_
      refine Z_if_eq (t := 52) (off := 8) (q := 47) (by decide +kernel) (by decide) rfl (fun hc => ?_) (fun hc => ?_)
      · replace h := h.1 hc
        exact h
      · replace h := h.2 hc
        refine Z_iload (a := 6) (q := 49) (by decide +kernel) rfl rfl ?_
        refine Z_if_ne (t := 159) (off := 110) (q := 52) (by decide +kernel) (by decide) rfl (fun hc => ?_) (fun hc => ?_)
        · replace h := h.1 hc
          refine Z_iinc (a := 7) (b := 1) (v := _ + 1) (loc2 := [_, _, _, _, _, _, _, _, _, _]) (q := 162) (by decide +kernel) rfl (zinc _) (by decide +kernel) rfl rfl rfl ?_
          refine Z_goto (q := 14) (off := -148) (by decide +kernel) (by decide) ?_
          exact Z_forget h (And.intro rfl (And.intro rfl (And.intro rfl (And.intro rfl (And.intro rfl (And.intro rfl (And.intro rfl (And.intro rfl trivial))))))))
        · replace h := h.2 hc
          exact h
set_option maxRecDepth 4000 in
theorem bX5_placeInEach_52 {d : Nat} (x0 : Nat) (x1 : Nat) (x2 : Int32) (x3 : Int32) (x4 : Int32) (x5 : Int32) (x6 : Int32) (x7 : Int32) (x8 : Int32) {iv : zI} {rv : zR} {lv : zJ} {Q : zI → zR → zJ → Prop} (hT : zTop rv) (m_x0 : x0 ∈ zPts) (m_x1 : x1 ∈ zSts)
    (h : (x8 = 0 → (¬ x6 = 0 → Zv mX5_placeInEach (d + 1) 82 [some (.ref x0), some (.ref x1), some (.int x2), some (.int x3), some (.int x4), some (.int x5), some (.int x6), some (.int x7), some (.int x8), some (.int (1 : Int32))] [.int (1 : Int32)] iv rv lv Q) ∧ (x6 = 0 → (x8 = 0 → Zv mX5_placeInEach (d + 1) 82 [some (.ref x0), some (.ref x1), some (.int x2), some (.int x3), some (.int x4), some (.int x5), some (.int x6), some (.int x7), some (.int x8), some (.int (1 : Int32))] [.int (0 : Int32)] iv rv lv Q) ∧ (¬ x8 = 0 → Zv mX5_placeInEach (d + 1) 82 [some (.ref x0), some (.ref x1), some (.int x2), some (.int x3), some (.int x4), some (.int x5), some (.int x6), some (.int x7), some (.int x8), some (.int (1 : Int32))] [.int (1 : Int32)] iv rv lv Q))) ∧ (¬ x8 = 0 → ∃ Q1 : Int32 → zI → zR → zJ → Prop, Ci mX5_namelessHeaps d [.ref x0] iv rv lv Q1 ∧ ∀ (v6 : Int32) (iv2 : zI) (rv3 : zR) (lv4 : zJ), Q1 v6 iv2 rv3 lv4 → zTop rv3 ∧ ((¬ x6 = 0 → Zv mX5_placeInEach (d + 1) 82 [some (.ref x0), some (.ref x1), some (.int x2), some (.int x3), some (.int x4), some (.int x5), some (.int x6), some (.int x7), some (.int x8), some (.int v6)] [.int (1 : Int32)] iv2 rv3 lv4 Q) ∧ (x6 = 0 → (x8 = 0 → Zv mX5_placeInEach (d + 1) 82 [some (.ref x0), some (.ref x1), some (.int x2), some (.int x3), some (.int x4), some (.int x5), some (.int x6), some (.int x7), some (.int x8), some (.int v6)] [.int (0 : Int32)] iv2 rv3 lv4 Q) ∧ (¬ x8 = 0 → Zv mX5_placeInEach (d + 1) 82 [some (.ref x0), some (.ref x1), some (.int x2), some (.int x3), some (.int x4), some (.int x5), some (.int x6), some (.int x7), some (.int x8), some (.int v6)] [.int (1 : Int32)] iv2 rv3 lv4 Q))))) :
    Zv mX5_placeInEach (d + 1) 52 [some (.ref x0), some (.ref x1), some (.int x2), some (.int x3), some (.int x4), some (.int x5), some (.int x6), some (.int x7), some (.int x8), none] [] iv rv lv Q := by
  unfold Zv
  refine Z_iload (a := 8) (q := 54) (by decide +kernel) rfl rfl ?_
  refine Z_if_eq (t := 64) (off := 10) (q := 57) (by decide +kernel) (by decide) rfl (fun hc => ?_) (fun hc => ?_)
  · replace h := h.1 hc
    refine Z_iconst (a := 1) (v := 1) (q := 65) (by decide +kernel) (by decide +kernel) rfl ?_
    refine Z_istore (a := 9) (loc2 := [_, _, _, _, _, _, _, _, _, _]) (q := 67) (by decide +kernel) (by decide +kernel) rfl rfl rfl ?_
    refine Z_iload (a := 6) (q := 69) (by decide +kernel) rfl rfl ?_
    refine Z_if_ne (t := 77) (off := 8) (q := 72) (by decide +kernel) (by decide) rfl (fun hc => ?_) (fun hc => ?_)
    · replace h := h.1 hc
      refine Z_iconst (a := 1) (v := 1) (q := 78) (by decide +kernel) (by decide +kernel) rfl ?_
      refine Z_goto (q := 82) (off := 4) (by decide +kernel) (by decide) ?_
      exact h
    · replace h := h.2 hc
      refine Z_iload (a := 8) (q := 74) (by decide +kernel) rfl rfl ?_
      refine Z_if_eq (t := 81) (off := 7) (q := 77) (by decide +kernel) (by decide) rfl (fun hc => ?_) (fun hc => ?_)
      · replace h := h.1 hc
        refine Z_iconst (a := 0) (v := 0) (q := 82) (by decide +kernel) (by decide +kernel) rfl ?_
        exact h
      · replace h := h.2 hc
        refine Z_iconst (a := 1) (v := 1) (q := 78) (by decide +kernel) (by decide +kernel) rfl ?_
        refine Z_goto (q := 82) (off := 4) (by decide +kernel) (by decide) ?_
        exact h
  · replace h := h.2 hc
    refine Z_aload_n (a := 0) (q := 58) (by decide +kernel) rfl rfl ?_
    obtain ⟨Q1, hm, h⟩ := h
    refine Z_callVi (M2 := mX5_namelessHeaps) (idx := 100) (d2 := d) (ci := 5) (As := []) (q := 61) (by decide +kernel) kX5_namelessHeaps lX5_100 rfl (hS5_0 m_x0) (hL5_0 m_x0) rfl rfl (by decide +kernel) (Nat.le_of_ble_eq_true rfl) (Nat.le_refl _) hm rfl (fun v6 iv2 rv3 lv4 hq => ?_)
    obtain ⟨hT5, h⟩ := h v6 iv2 rv3 lv4 hq
    refine Z_goto (q := 65) (off := 4) (by decide +kernel) (by decide) ?_
    refine Z_istore (a := 9) (loc2 := [_, _, _, _, _, _, _, _, _, _]) (q := 67) (by decide +kernel) (by decide +kernel) rfl rfl rfl ?_
    refine Z_iload (a := 6) (q := 69) (by decide +kernel) rfl rfl ?_
    refine Z_if_ne (t := 77) (off := 8) (q := 72) (by decide +kernel) (by decide) rfl (fun hc => ?_) (fun hc => ?_)
    · replace h := h.1 hc
      refine Z_iconst (a := 1) (v := 1) (q := 78) (by decide +kernel) (by decide +kernel) rfl ?_
      refine Z_goto (q := 82) (off := 4) (by decide +kernel) (by decide) ?_
      exact h
    · replace h := h.2 hc
      refine Z_iload (a := 8) (q := 74) (by decide +kernel) rfl rfl ?_
      refine Z_if_eq (t := 81) (off := 7) (q := 77) (by decide +kernel) (by decide) rfl (fun hc => ?_) (fun hc => ?_)
      · replace h := h.1 hc
        refine Z_iconst (a := 0) (v := 0) (q := 82) (by decide +kernel) (by decide +kernel) rfl ?_
        exact h
      · replace h := h.2 hc
        refine Z_iconst (a := 1) (v := 1) (q := 78) (by decide +kernel) (by decide +kernel) rfl ?_
        refine Z_goto (q := 82) (off := 4) (by decide +kernel) (by decide) ?_
        exact h
set_option maxRecDepth 4000 in
theorem bX5_placeInEach_82 {d : Nat} (x0 : Nat) (x1 : Nat) (x2 : Int32) (x3 : Int32) (x4 : Int32) (x5 : Int32) (x6 : Int32) (x7 : Int32) (x8 : Int32) (x9 : Int32) (y0 : Int32) {iv : zI} {rv : zR} {lv : zJ} {Q : zI → zR → zJ → Prop} (hT : zTop rv) (m_x0 : x0 ∈ zPts) (m_x1 : x1 ∈ zSts)
    (h : vp_in x2 10 ∧ (∀ iv2 : zI, iv2 = zu iv (x0 + 2) x2.toNatClampNeg x7 → vp_in x7 4 ∧ (∀ iv4 : zI, iv4 = zu iv2 (x0 + 3) x7.toNatClampNeg ((iv2 (x0 + 3) x7.toNatClampNeg) + x5) → ∀ iv5 : zI, iv5 = zu iv4 (x0 + 4) x7.toNatClampNeg ((iv4 (x0 + 4) x7.toNatClampNeg) ||| ((1 : Int32) <<< (x2 &&& 31))) → ∃ Q6 : zI → zR → zJ → Prop, Cv mX5_place d [.ref x0, .ref x1, .int (x2 + (1 : Int32)), .int (x3 * x9), .int (x4 - x5)] iv5 rv lv Q6 ∧ ∀ (iv7 : zI) (rv8 : zR) (lv9 : zJ), Q6 iv7 rv8 lv9 → zTop rv8 ∧ (∀ iv12 : zI, iv12 = zu iv7 (x0 + 4) x7.toNatClampNeg ((iv7 (x0 + 4) x7.toNatClampNeg) ^^^ ((1 : Int32) <<< (x2 &&& 31))) → ∀ iv13 : zI, iv13 = zu iv12 (x0 + 3) x7.toNatClampNeg ((iv12 (x0 + 3) x7.toNatClampNeg) - x5) → Zv mX5_placeInEach (d + 1) 14 [some (.ref x0), some (.ref x1), some (.int x2), some (.int x3), some (.int x4), some (.int x5), some (.int y0), some (.int (x7 + 1)), none, none] [] iv13 rv8 lv9 Q)))) :
    Zv mX5_placeInEach (d + 1) 82 [some (.ref x0), some (.ref x1), some (.int x2), some (.int x3), some (.int x4), some (.int x5), some (.int x6), some (.int x7), some (.int x8), some (.int x9)] [.int y0] iv rv lv Q := by
  unfold Zv
  refine Z_istore (a := 6) (loc2 := [_, _, _, _, _, _, _, _, _, _]) (q := 84) (by decide +kernel) (by decide +kernel) rfl rfl rfl ?_
  refine Z_aload_n (a := 0) (q := 85) (by decide +kernel) rfl rfl ?_
  refine g5_5 (idx := 26) (q := 88) (by decide +kernel) fX5_26 (hS5_0 m_x0) (hL5_0 m_x0) (t5_5 hT m_x0) rfl ?_
  refine Z_iload_n (a := 2) (q := 89) (by decide +kernel) rfl rfl ?_
  refine Z_iload (a := 7) (q := 91) (by decide +kernel) rfl rfl ?_
  obtain ⟨hin1, h⟩ := h
  refine Z_iast (len := 10) (q := 92) (by decide +kernel) (hS5_2 m_x0) (hL5_2 m_x0) hin1 rfl ?_
  replace h := h _ rfl
  refine Z_aload_n (a := 0) (q := 93) (by decide +kernel) rfl rfl ?_
  refine g5_6 (idx := 29) (q := 96) (by decide +kernel) fX5_29 (hS5_0 m_x0) (hL5_0 m_x0) (t5_6 hT m_x0) rfl ?_
  refine Z_iload (a := 7) (q := 98) (by decide +kernel) rfl rfl ?_
  refine Z_dup2 (q := 99) (by decide +kernel) rfl rfl rfl ?_
  obtain ⟨hin3, h⟩ := h
  refine Z_iald (len := 4) (q := 100) (by decide +kernel) (hS5_3 m_x0) (hL5_3 m_x0) hin3 rfl ?_
  refine Z_iload (a := 5) (q := 102) (by decide +kernel) rfl rfl ?_
  refine Z_iadd (q := 103) (by decide +kernel) rfl ?_
  refine Z_iast (len := 4) (q := 104) (by decide +kernel) (hS5_3 m_x0) (hL5_3 m_x0) hin3 rfl ?_
  replace h := h _ rfl
  refine Z_aload_n (a := 0) (q := 105) (by decide +kernel) rfl rfl ?_
  refine g5_7 (idx := 32) (q := 108) (by decide +kernel) fX5_32 (hS5_0 m_x0) (hL5_0 m_x0) (t5_7 hT m_x0) rfl ?_
  refine Z_iload (a := 7) (q := 110) (by decide +kernel) rfl rfl ?_
  refine Z_dup2 (q := 111) (by decide +kernel) rfl rfl rfl ?_
  refine Z_iald (len := 4) (q := 112) (by decide +kernel) (hS5_4 m_x0) (hL5_4 m_x0) hin3 rfl ?_
  refine Z_iconst (a := 1) (v := 1) (q := 113) (by decide +kernel) (by decide +kernel) rfl ?_
  refine Z_iload_n (a := 2) (q := 114) (by decide +kernel) rfl rfl ?_
  refine Z_ishl (q := 115) (by decide +kernel) rfl ?_
  refine Z_ior (q := 116) (by decide +kernel) rfl ?_
  refine Z_iast (len := 4) (q := 117) (by decide +kernel) (hS5_4 m_x0) (hL5_4 m_x0) hin3 rfl ?_
  replace h := h _ rfl
  refine Z_aload_n (a := 0) (q := 118) (by decide +kernel) rfl rfl ?_
  refine Z_aload_n (a := 1) (q := 119) (by decide +kernel) rfl rfl ?_
  refine Z_iload_n (a := 2) (q := 120) (by decide +kernel) rfl rfl ?_
  refine Z_iconst (a := 1) (v := 1) (q := 121) (by decide +kernel) (by decide +kernel) rfl ?_
  refine Z_iadd (q := 122) (by decide +kernel) rfl ?_
  refine Z_iload_n (a := 3) (q := 123) (by decide +kernel) rfl rfl ?_
  refine Z_iload (a := 9) (q := 125) (by decide +kernel) rfl rfl ?_
  refine Z_imul (q := 126) (by decide +kernel) rfl ?_
  refine Z_iload (a := 4) (q := 128) (by decide +kernel) rfl rfl ?_
  refine Z_iload (a := 5) (q := 130) (by decide +kernel) rfl rfl ?_
  refine Z_isub (q := 131) (by decide +kernel) rfl ?_
  obtain ⟨Q6, hm, h⟩ := h
  refine Z_callVv (M2 := mX5_place) (idx := 69) (d2 := d) (ci := 5) (As := [.ref _, .int _, .int _, .int _]) (q := 134) (by decide +kernel) kX5_place lX5_69 rfl (hS5_0 m_x0) (hL5_0 m_x0) rfl rfl (by decide +kernel) (Nat.le_of_ble_eq_true rfl) (Nat.le_refl _) hm rfl (fun iv7 rv8 lv9 hq => ?_)
  obtain ⟨hT10, h⟩ := h iv7 rv8 lv9 hq
  refine Z_aload_n (a := 0) (q := 135) (by decide +kernel) rfl rfl ?_
  refine g5_7 (idx := 32) (q := 138) (by decide +kernel) fX5_32 (hS5_0 m_x0) (hL5_0 m_x0) (t5_7 hT10 m_x0) rfl ?_
  refine Z_iload (a := 7) (q := 140) (by decide +kernel) rfl rfl ?_
  refine Z_dup2 (q := 141) (by decide +kernel) rfl rfl rfl ?_
  refine Z_iald (len := 4) (q := 142) (by decide +kernel) (hS5_4 m_x0) (hL5_4 m_x0) hin3 rfl ?_
  refine Z_iconst (a := 1) (v := 1) (q := 143) (by decide +kernel) (by decide +kernel) rfl ?_
  refine Z_iload_n (a := 2) (q := 144) (by decide +kernel) rfl rfl ?_
  refine Z_ishl (q := 145) (by decide +kernel) rfl ?_
  refine Z_ixor (q := 146) (by decide +kernel) rfl ?_
  refine Z_iast (len := 4) (q := 147) (by decide +kernel) (hS5_4 m_x0) (hL5_4 m_x0) hin3 rfl ?_
  replace h := h _ rfl
  refine Z_aload_n (a := 0) (q := 148) (by decide +kernel) rfl rfl ?_
  refine g5_6 (idx := 29) (q := 151) (by decide +kernel) fX5_29 (hS5_0 m_x0) (hL5_0 m_x0) (t5_6 hT10 m_x0) rfl ?_
  refine Z_iload (a := 7) (q := 153) (by decide +kernel) rfl rfl ?_
  refine Z_dup2 (q := 154) (by decide +kernel) rfl rfl rfl ?_
  refine Z_iald (len := 4) (q := 155) (by decide +kernel) (hS5_3 m_x0) (hL5_3 m_x0) hin3 rfl ?_
  refine Z_iload (a := 5) (q := 157) (by decide +kernel) rfl rfl ?_
  refine Z_isub (q := 158) (by decide +kernel) rfl ?_
  refine Z_iast (len := 4) (q := 159) (by decide +kernel) (hS5_3 m_x0) (hL5_3 m_x0) hin3 rfl ?_
  replace h := h _ rfl
  refine Z_iinc (a := 7) (b := 1) (v := _ + 1) (loc2 := [_, _, _, _, _, _, _, _, _, _]) (q := 162) (by decide +kernel) rfl (zinc _) (by decide +kernel) rfl rfl rfl ?_
  refine Z_goto (q := 14) (off := -148) (by decide +kernel) (by decide) ?_
  exact Z_forget h (And.intro rfl (And.intro rfl (And.intro rfl (And.intro rfl (And.intro rfl (And.intro rfl (And.intro rfl (And.intro rfl trivial))))))))
theorem eX5_isNameless {d : Nat} (x0 : Nat) (x1 : Int32) {iv : zI} {rv : zR} {lv : zJ} {Q : Int32 → zI → zR → zJ → Prop} (h : Zi mX5_isNameless d 0 [some (.ref x0), some (.int x1)] [] iv rv lv Q) : Ci mX5_isNameless d [.ref x0, .int x1] iv rv lv Q := Ci.of (by decide +kernel) (by simp [Value.category]) (Nat.le_of_ble_eq_true rfl) rfl h
set_option maxRecDepth 4000 in
theorem bX5_isNameless_0 {d : Nat} (x0 : Nat) (x1 : Int32) {iv : zI} {rv : zR} {lv : zJ} {Q : Int32 → zI → zR → zJ → Prop} (hT : zTop rv) (m_x0 : x0 ∈ zPts)
    (h : vp_in x1 4 ∧ ((¬ (iv (x0 + 4) x1.toNatClampNeg) = 0 → Q (0 : Int32) iv rv lv) ∧ ((iv (x0 + 4) x1.toNatClampNeg) = 0 → (¬ (((iv x0 8) >>> (x1 &&& 31)) &&& (1 : Int32)) = 0 → Q (0 : Int32) iv rv lv) ∧ ((((iv x0 8) >>> (x1 &&& 31)) &&& (1 : Int32)) = 0 → Q (1 : Int32) iv rv lv)))) :
    Zi mX5_isNameless d 0 [some (.ref x0), some (.int x1)] [] iv rv lv Q := by
  unfold Zi
  refine Z_aload_n (a := 0) (q := 1) (by decide +kernel) rfl rfl ?_
  refine g5_7 (idx := 32) (q := 4) (by decide +kernel) fX5_32 (hS5_0 m_x0) (hL5_0 m_x0) (t5_7 hT m_x0) rfl ?_
  refine Z_iload_n (a := 1) (q := 5) (by decide +kernel) rfl rfl ?_
  obtain ⟨hin1, h⟩ := h
  refine Z_iald (len := 4) (q := 6) (by decide +kernel) (hS5_4 m_x0) (hL5_4 m_x0) hin1 rfl ?_
  refine Z_if_ne (t := 24) (off := 18) (q := 9) (by decide +kernel) (by decide) rfl (fun hc => ?_) (fun hc => ?_)
  · replace h := h.1 hc
    refine Z_iconst (a := 0) (v := 0) (q := 25) (by decide +kernel) (by decide +kernel) rfl ?_
    exact Z_iret (ty := .boolean) (by decide +kernel) rfl rfl rfl ⟨_, rfl, h⟩
  · replace h := h.2 hc
    refine Z_aload_n (a := 0) (q := 10) (by decide +kernel) rfl rfl ?_
    refine g5_8 (idx := 35) (q := 13) (by decide +kernel) fX5_35 (hS5_0 m_x0) (hL5_0 m_x0) rfl ?_
    refine Z_iload_n (a := 1) (q := 14) (by decide +kernel) rfl rfl ?_
    refine Z_ishr (q := 15) (by decide +kernel) rfl ?_
    refine Z_iconst (a := 1) (v := 1) (q := 16) (by decide +kernel) (by decide +kernel) rfl ?_
    refine Z_iand (q := 17) (by decide +kernel) rfl ?_
    refine Z_if_ne (t := 24) (off := 7) (q := 20) (by decide +kernel) (by decide) rfl (fun hc => ?_) (fun hc => ?_)
    · replace h := h.1 hc
      refine Z_iconst (a := 0) (v := 0) (q := 25) (by decide +kernel) (by decide +kernel) rfl ?_
      exact Z_iret (ty := .boolean) (by decide +kernel) rfl rfl rfl ⟨_, rfl, h⟩
    · replace h := h.2 hc
      refine Z_iconst (a := 1) (v := 1) (q := 21) (by decide +kernel) (by decide +kernel) rfl ?_
      refine Z_goto (q := 25) (off := 4) (by decide +kernel) (by decide) ?_
      exact Z_iret (ty := .boolean) (by decide +kernel) rfl rfl rfl ⟨_, rfl, h⟩
theorem eX5_namelessHeaps {d : Nat} (x0 : Nat) {iv : zI} {rv : zR} {lv : zJ} {Q : Int32 → zI → zR → zJ → Prop} (h : Zi mX5_namelessHeaps (d + 1) 0 [some (.ref x0), none, none] [] iv rv lv Q) : Ci mX5_namelessHeaps (d + 1) [.ref x0] iv rv lv Q := Ci.of (by decide +kernel) (by simp [Value.category]) (Nat.le_of_ble_eq_true rfl) rfl h
set_option maxRecDepth 4000 in
theorem bX5_namelessHeaps_0 {d : Nat} (x0 : Nat) {iv : zI} {rv : zR} {lv : zJ} {Q : Int32 → zI → zR → zJ → Prop} (hT : zTop rv) (m_x0 : x0 ∈ zPts)
    (h : Zi mX5_namelessHeaps (d + 1) 4 [some (.ref x0), some (.int (0 : Int32)), some (.int (0 : Int32))] [] iv rv lv Q) :
    Zi mX5_namelessHeaps (d + 1) 0 [some (.ref x0), none, none] [] iv rv lv Q := by
  unfold Zi
  refine Z_iconst (a := 0) (v := 0) (q := 1) (by decide +kernel) (by decide +kernel) rfl ?_
  refine Z_istore_n (a := 1) (loc2 := [_, _, _]) (q := 2) (by decide +kernel) (by decide +kernel) rfl rfl rfl ?_
  refine Z_iconst (a := 0) (v := 0) (q := 3) (by decide +kernel) (by decide +kernel) rfl ?_
  refine Z_istore_n (a := 2) (loc2 := [_, _, _]) (q := 4) (by decide +kernel) (by decide +kernel) rfl rfl rfl ?_
  exact h
set_option maxRecDepth 4000 in
theorem bX5_namelessHeaps_4 {d : Nat} (x0 : Nat) (x1 : Int32) (x2 : Int32) {iv : zI} {rv : zR} {lv : zJ} {Q : Int32 → zI → zR → zJ → Prop} (hT : zTop rv) (m_x0 : x0 ∈ zPts)
    (h : ((iv x0 4) ≤ x2 → Q x1 iv rv lv) ∧ (¬ (iv x0 4) ≤ x2 → ∃ Q1 : Int32 → zI → zR → zJ → Prop, Ci mX5_isNameless d [.ref x0, .int x2] iv rv lv Q1 ∧ ∀ (v6 : Int32) (iv2 : zI) (rv3 : zR) (lv4 : zJ), Q1 v6 iv2 rv3 lv4 → zTop rv3 ∧ ((v6 = 0 → Zi mX5_namelessHeaps (d + 1) 4 [some (.ref x0), some (.int (x1 + (0 : Int32))), some (.int (x2 + 1))] [] iv2 rv3 lv4 Q) ∧ (¬ v6 = 0 → Zi mX5_namelessHeaps (d + 1) 4 [some (.ref x0), some (.int (x1 + (1 : Int32))), some (.int (x2 + 1))] [] iv2 rv3 lv4 Q)))) :
    Zi mX5_namelessHeaps (d + 1) 4 [some (.ref x0), some (.int x1), some (.int x2)] [] iv rv lv Q := by
  unfold Zi
  refine Z_iload_n (a := 2) (q := 5) (by decide +kernel) rfl rfl ?_
  refine Z_aload_n (a := 0) (q := 6) (by decide +kernel) rfl rfl ?_
  refine g5_4 (idx := 51) (q := 9) (by decide +kernel) fX5_51 (hS5_0 m_x0) (hL5_0 m_x0) rfl ?_
  refine Z_icmp_ge (t := 34) (off := 25) (q := 12) (by decide +kernel) (by decide) rfl (fun hc => ?_) (fun hc => ?_)
  · replace h := h.1 hc
    refine Z_iload_n (a := 1) (q := 35) (by decide +kernel) rfl rfl ?_
    exact Z_iret (ty := .int) (by decide +kernel) rfl rfl rfl ⟨_, rfl, h⟩
  · replace h := h.2 hc
    refine Z_iload_n (a := 1) (q := 13) (by decide +kernel) rfl rfl ?_
    refine Z_aload_n (a := 0) (q := 14) (by decide +kernel) rfl rfl ?_
    refine Z_iload_n (a := 2) (q := 15) (by decide +kernel) rfl rfl ?_
    obtain ⟨Q1, hm, h⟩ := h
    refine Z_callVi (M2 := mX5_isNameless) (idx := 93) (d2 := d) (ci := 5) (As := [.int _]) (q := 18) (by decide +kernel) kX5_isNameless lX5_93 rfl (hS5_0 m_x0) (hL5_0 m_x0) rfl rfl (by decide +kernel) (Nat.le_of_ble_eq_true rfl) (Nat.le_refl _) hm rfl (fun v6 iv2 rv3 lv4 hq => ?_)
    obtain ⟨hT5, h⟩ := h v6 iv2 rv3 lv4 hq
    refine Z_if_eq (t := 25) (off := 7) (q := 21) (by decide +kernel) (by decide) rfl (fun hc => ?_) (fun hc => ?_)
    · replace h := h.1 hc
      refine Z_iconst (a := 0) (v := 0) (q := 26) (by decide +kernel) (by decide +kernel) rfl ?_
      refine Z_iadd (q := 27) (by decide +kernel) rfl ?_
      refine Z_istore_n (a := 1) (loc2 := [_, _, _]) (q := 28) (by decide +kernel) (by decide +kernel) rfl rfl rfl ?_
      refine Z_iinc (a := 2) (b := 1) (v := _ + 1) (loc2 := [_, _, _]) (q := 31) (by decide +kernel) rfl (zinc _) (by decide +kernel) rfl rfl rfl ?_
      refine Z_goto (q := 4) (off := -27) (by decide +kernel) (by decide) ?_
      exact h
    · replace h := h.2 hc
      refine Z_iconst (a := 1) (v := 1) (q := 22) (by decide +kernel) (by decide +kernel) rfl ?_
      refine Z_goto (q := 26) (off := 4) (by decide +kernel) (by decide) ?_
      refine Z_iadd (q := 27) (by decide +kernel) rfl ?_
      refine Z_istore_n (a := 1) (loc2 := [_, _, _]) (q := 28) (by decide +kernel) (by decide +kernel) rfl rfl rfl ?_
      refine Z_iinc (a := 2) (b := 1) (v := _ + 1) (loc2 := [_, _, _]) (q := 31) (by decide +kernel) rfl (zinc _) (by decide +kernel) rfl rfl rfl ?_
      refine Z_goto (q := 4) (off := -27) (by decide +kernel) (by decide) ?_
      exact h
theorem eX5_mayLie {d : Nat} (x0 : Nat) (x1 : Nat) (x2 : Int32) (x3 : Int32) {iv : zI} {rv : zR} {lv : zJ} {Q : Int32 → zI → zR → zJ → Prop} (h : Zi mX5_mayLie d 0 [some (.ref x0), some (.ref x1), some (.int x2), some (.int x3)] [] iv rv lv Q) : Ci mX5_mayLie d [.ref x0, .ref x1, .int x2, .int x3] iv rv lv Q := Ci.of (by decide +kernel) (by simp [Value.category]) (Nat.le_of_ble_eq_true rfl) rfl h
set_option maxRecDepth 4000 in
theorem bX5_mayLie_0 {d : Nat} (x0 : Nat) (x1 : Nat) (x2 : Int32) (x3 : Int32) {iv : zI} {rv : zR} {lv : zJ} {Q : Int32 → zI → zR → zJ → Prop} (hT : zTop rv) (m_x0 : x0 ∈ zPts) (m_x1 : x1 ∈ zSts)
    (h : vp_in x2 10 ∧ (((iv (x1 + 2) x2.toNatClampNeg) = (-2 : Int32) → Zi mX5_mayLie d 21 [some (.ref x0), some (.ref x1), some (.int x2), some (.int x3)] [] iv rv lv Q) ∧ (¬ (iv (x1 + 2) x2.toNatClampNeg) = (-2 : Int32) → (¬ (iv (x1 + 2) x2.toNatClampNeg) = x3 → Q (0 : Int32) iv rv lv) ∧ ((iv (x1 + 2) x2.toNatClampNeg) = x3 → Zi mX5_mayLie d 21 [some (.ref x0), some (.ref x1), some (.int x2), some (.int x3)] [] iv rv lv Q)))) :
    Zi mX5_mayLie d 0 [some (.ref x0), some (.ref x1), some (.int x2), some (.int x3)] [] iv rv lv Q := by
  unfold Zi
  refine Z_aload_n (a := 1) (q := 1) (by decide +kernel) rfl rfl ?_
  refine g9_3 (idx := 66) (q := 4) (by decide +kernel) fX5_66 (hS9_0 m_x1) (hL9_0 m_x1) (t9_3 hT m_x1) rfl ?_
  refine Z_iload_n (a := 2) (q := 5) (by decide +kernel) rfl rfl ?_
  obtain ⟨hin1, h⟩ := h
  refine Z_iald (len := 10) (q := 6) (by decide +kernel) (hS9_2 m_x1) (hL9_2 m_x1) hin1 rfl ?_
  refine Z_bipush (a := -2) (v := -2) (q := 8) (by decide +kernel) (by decide +kernel) rfl ?_
  refine Z_icmp_eq (t := 21) (off := 13) (q := 11) (by decide +kernel) (by decide) rfl (fun hc => ?_) (fun hc => ?_)
  · replace h := h.1 hc
    exact h
  · replace h := h.2 hc
    refine Z_aload_n (a := 1) (q := 12) (by decide +kernel) rfl rfl ?_
    refine g9_3 (idx := 66) (q := 15) (by decide +kernel) fX5_66 (hS9_0 m_x1) (hL9_0 m_x1) (t9_3 hT m_x1) rfl ?_
    refine Z_iload_n (a := 2) (q := 16) (by decide +kernel) rfl rfl ?_
    refine Z_iald (len := 10) (q := 17) (by decide +kernel) (hS9_2 m_x1) (hL9_2 m_x1) hin1 rfl ?_
    refine Z_iload_n (a := 3) (q := 18) (by decide +kernel) rfl rfl ?_
    refine Z_icmp_ne (t := 41) (off := 23) (q := 21) (by decide +kernel) (by decide) rfl (fun hc => ?_) (fun hc => ?_)
    · replace h := h.1 hc
      refine Z_iconst (a := 0) (v := 0) (q := 42) (by decide +kernel) (by decide +kernel) rfl ?_
      exact Z_iret (ty := .boolean) (by decide +kernel) rfl rfl rfl ⟨_, rfl, h⟩
    · replace h := h.2 hc
      exact h
set_option maxRecDepth 4000 in
theorem bX5_mayLie_21 {d : Nat} (x0 : Nat) (x1 : Nat) (x2 : Int32) (x3 : Int32) {iv : zI} {rv : zR} {lv : zJ} {Q : Int32 → zI → zR → zJ → Prop} (hT : zTop rv) (m_x0 : x0 ∈ zPts) (m_x1 : x1 ∈ zSts)
    (h : vp_in x3 4 ∧ (vp_in x2 10 ∧ ((¬ ((iv (x0 + 4) x3.toNatClampNeg) &&& (iv (x1 + 3) x2.toNatClampNeg)) = 0 → Q (0 : Int32) iv rv lv) ∧ (((iv (x0 + 4) x3.toNatClampNeg) &&& (iv (x1 + 3) x2.toNatClampNeg)) = 0 → Q (1 : Int32) iv rv lv)))) :
    Zi mX5_mayLie d 21 [some (.ref x0), some (.ref x1), some (.int x2), some (.int x3)] [] iv rv lv Q := by
  unfold Zi
  refine Z_aload_n (a := 0) (q := 22) (by decide +kernel) rfl rfl ?_
  refine g5_7 (idx := 32) (q := 25) (by decide +kernel) fX5_32 (hS5_0 m_x0) (hL5_0 m_x0) (t5_7 hT m_x0) rfl ?_
  refine Z_iload_n (a := 3) (q := 26) (by decide +kernel) rfl rfl ?_
  obtain ⟨hin1, h⟩ := h
  refine Z_iald (len := 4) (q := 27) (by decide +kernel) (hS5_4 m_x0) (hL5_4 m_x0) hin1 rfl ?_
  refine Z_aload_n (a := 1) (q := 28) (by decide +kernel) rfl rfl ?_
  refine g9_4 (idx := 77) (q := 31) (by decide +kernel) fX5_77 (hS9_0 m_x1) (hL9_0 m_x1) (t9_4 hT m_x1) rfl ?_
  refine Z_iload_n (a := 2) (q := 32) (by decide +kernel) rfl rfl ?_
  obtain ⟨hin2, h⟩ := h
  refine Z_iald (len := 10) (q := 33) (by decide +kernel) (hS9_3 m_x1) (hL9_3 m_x1) hin2 rfl ?_
  refine Z_iand (q := 34) (by decide +kernel) rfl ?_
  refine Z_if_ne (t := 41) (off := 7) (q := 37) (by decide +kernel) (by decide) rfl (fun hc => ?_) (fun hc => ?_)
  · replace h := h.1 hc
    refine Z_iconst (a := 0) (v := 0) (q := 42) (by decide +kernel) (by decide +kernel) rfl ?_
    exact Z_iret (ty := .boolean) (by decide +kernel) rfl rfl rfl ⟨_, rfl, h⟩
  · replace h := h.2 hc
    refine Z_iconst (a := 1) (v := 1) (q := 38) (by decide +kernel) (by decide +kernel) rfl ?_
    refine Z_goto (q := 42) (off := 4) (by decide +kernel) (by decide) ?_
    exact Z_iret (ty := .boolean) (by decide +kernel) rfl rfl rfl ⟨_, rfl, h⟩
theorem eX5_hopeful {d : Nat} (x0 : Nat) (x1 : Int32) {iv : zI} {rv : zR} {lv : zJ} {Q : Int32 → zI → zR → zJ → Prop} (h : Zi mX5_hopeful (d + 1) 0 [some (.ref x0), some (.int x1), none, none, none, none] [] iv rv lv Q) : Ci mX5_hopeful (d + 1) [.ref x0, .int x1] iv rv lv Q := Ci.of (by decide +kernel) (by simp [Value.category]) (Nat.le_of_ble_eq_true rfl) rfl h
set_option maxRecDepth 4000 in
theorem bX5_hopeful_0 {d : Nat} (x0 : Nat) (x1 : Int32) {iv : zI} {rv : zR} {lv : zJ} {Q : Int32 → zI → zR → zJ → Prop} (hT : zTop rv) (m_x0 : x0 ∈ zPts)
    (h : ∃ Q1 : Int32 → zI → zR → zJ → Prop, Ci mX10_greatestAmong d [.ref (x0 + 3), .int (iv x0 4)] iv rv lv Q1 ∧ ∀ (v6 : Int32) (iv2 : zI) (rv3 : zR) (lv4 : zJ), Q1 v6 iv2 rv3 lv4 → zTop rv3 ∧ (∃ Q7 : Int32 → zI → zR → zJ → Prop, Ci mX10_leastAmong d [.ref (x0 + 3), .int (iv2 x0 4)] iv2 rv3 lv4 Q7 ∧ ∀ (v12 : Int32) (iv8 : zI) (rv9 : zR) (lv10 : zJ), Q7 v12 iv8 rv9 lv10 → zTop rv9 ∧ (¬ ((iv8 x0 4) - (1 : Int32)) = 0 ∧ (¬ ((iv8 x0 4) - (1 : Int32)) = 0 ∧ ((((zmx v6 ((((((iv8 x0 9) - v12) - x1) + (iv8 x0 4)) - (2 : Int32)) / ((iv8 x0 4) - (1 : Int32)))) - (zmn (v12 + x1) (((iv8 x0 9) - v6) / ((iv8 x0 4) - (1 : Int32))))) ≤ (iv8 x0 0) → Q (1 : Int32) iv8 rv9 lv10) ∧ (¬ ((zmx v6 ((((((iv8 x0 9) - v12) - x1) + (iv8 x0 4)) - (2 : Int32)) / ((iv8 x0 4) - (1 : Int32)))) - (zmn (v12 + x1) (((iv8 x0 9) - v6) / ((iv8 x0 4) - (1 : Int32))))) ≤ (iv8 x0 0) → ((iv8 x0 2) ≤ (zmx v6 ((((((iv8 x0 9) - v12) - x1) + (iv8 x0 4)) - (2 : Int32)) / ((iv8 x0 4) - (1 : Int32)))) → Q (0 : Int32) iv8 rv9 lv10) ∧ (¬ (iv8 x0 2) ≤ (zmx v6 ((((((iv8 x0 9) - v12) - x1) + (iv8 x0 4)) - (2 : Int32)) / ((iv8 x0 4) - (1 : Int32)))) → Q (1 : Int32) iv8 rv9 lv10))))))) :
    Zi mX5_hopeful (d + 1) 0 [some (.ref x0), some (.int x1), none, none, none, none] [] iv rv lv Q := by
  unfold Zi
  refine Z_aload_n (a := 0) (q := 1) (by decide +kernel) rfl rfl ?_
  refine g5_6 (idx := 29) (q := 4) (by decide +kernel) fX5_29 (hS5_0 m_x0) (hL5_0 m_x0) (t5_6 hT m_x0) rfl ?_
  refine Z_aload_n (a := 0) (q := 5) (by decide +kernel) rfl rfl ?_
  refine g5_4 (idx := 51) (q := 8) (by decide +kernel) fX5_51 (hS5_0 m_x0) (hL5_0 m_x0) rfl ?_
  obtain ⟨Q1, hm, h⟩ := h
  refine Z_callSNi (M2 := mX10_greatestAmong) (idx := 103) (d2 := d) (As := [.ref _, .int _]) (q := 11) (by decide +kernel) kX10_greatestAmong nX5_103 rfl rfl (by decide +kernel) (Nat.le_of_ble_eq_true rfl) (Nat.le_refl _) hm rfl (fun v6 iv2 rv3 lv4 hq => ?_)
  obtain ⟨hT5, h⟩ := h v6 iv2 rv3 lv4 hq
  refine Z_istore_n (a := 2) (loc2 := [_, _, _, _, _, _]) (q := 12) (by decide +kernel) (by decide +kernel) rfl rfl rfl ?_
  refine Z_aload_n (a := 0) (q := 13) (by decide +kernel) rfl rfl ?_
  refine g5_6 (idx := 29) (q := 16) (by decide +kernel) fX5_29 (hS5_0 m_x0) (hL5_0 m_x0) (t5_6 hT5 m_x0) rfl ?_
  refine Z_aload_n (a := 0) (q := 17) (by decide +kernel) rfl rfl ?_
  refine g5_4 (idx := 51) (q := 20) (by decide +kernel) fX5_51 (hS5_0 m_x0) (hL5_0 m_x0) rfl ?_
  obtain ⟨Q7, hm, h⟩ := h
  refine Z_callSNi (M2 := mX10_leastAmong) (idx := 107) (d2 := d) (As := [.ref _, .int _]) (q := 23) (by decide +kernel) kX10_leastAmong nX5_107 rfl rfl (by decide +kernel) (Nat.le_of_ble_eq_true rfl) (Nat.le_refl _) hm rfl (fun v12 iv8 rv9 lv10 hq => ?_)
  obtain ⟨hT11, h⟩ := h v12 iv8 rv9 lv10 hq
  refine Z_istore_n (a := 3) (loc2 := [_, _, _, _, _, _]) (q := 24) (by decide +kernel) (by decide +kernel) rfl rfl rfl ?_
  refine Z_iload_n (a := 3) (q := 25) (by decide +kernel) rfl rfl ?_
  refine Z_iload_n (a := 1) (q := 26) (by decide +kernel) rfl rfl ?_
  refine Z_iadd (q := 27) (by decide +kernel) rfl ?_
  refine Z_aload_n (a := 0) (q := 28) (by decide +kernel) rfl rfl ?_
  refine g5_9 (idx := 38) (q := 31) (by decide +kernel) fX5_38 (hS5_0 m_x0) (hL5_0 m_x0) rfl ?_
  refine Z_iload_n (a := 2) (q := 32) (by decide +kernel) rfl rfl ?_
  refine Z_isub (q := 33) (by decide +kernel) rfl ?_
  refine Z_aload_n (a := 0) (q := 34) (by decide +kernel) rfl rfl ?_
  refine g5_4 (idx := 51) (q := 37) (by decide +kernel) fX5_51 (hS5_0 m_x0) (hL5_0 m_x0) rfl ?_
  refine Z_iconst (a := 1) (v := 1) (q := 38) (by decide +kernel) (by decide +kernel) rfl ?_
  refine Z_isub (q := 39) (by decide +kernel) rfl ?_
  obtain ⟨hne, h⟩ := h
  refine Z_idiv (q := 40) (by decide +kernel) hne rfl ?_
  refine Z_min (idx := 110) (q := 43) (by decide +kernel) lX5_110 (Nat.le_of_ble_eq_true rfl) (Nat.le_add_left 1 d) rfl ?_
  refine Z_istore (a := 4) (loc2 := [_, _, _, _, _, _]) (q := 45) (by decide +kernel) (by decide +kernel) rfl rfl rfl ?_
  refine Z_iload_n (a := 2) (q := 46) (by decide +kernel) rfl rfl ?_
  refine Z_aload_n (a := 0) (q := 47) (by decide +kernel) rfl rfl ?_
  refine g5_9 (idx := 38) (q := 50) (by decide +kernel) fX5_38 (hS5_0 m_x0) (hL5_0 m_x0) rfl ?_
  refine Z_iload_n (a := 3) (q := 51) (by decide +kernel) rfl rfl ?_
  refine Z_isub (q := 52) (by decide +kernel) rfl ?_
  refine Z_iload_n (a := 1) (q := 53) (by decide +kernel) rfl rfl ?_
  refine Z_isub (q := 54) (by decide +kernel) rfl ?_
  refine Z_aload_n (a := 0) (q := 55) (by decide +kernel) rfl rfl ?_
  refine g5_4 (idx := 51) (q := 58) (by decide +kernel) fX5_51 (hS5_0 m_x0) (hL5_0 m_x0) rfl ?_
  refine Z_iadd (q := 59) (by decide +kernel) rfl ?_
  refine Z_iconst (a := 2) (v := 2) (q := 60) (by decide +kernel) (by decide +kernel) rfl ?_
  refine Z_isub (q := 61) (by decide +kernel) rfl ?_
  refine Z_aload_n (a := 0) (q := 62) (by decide +kernel) rfl rfl ?_
  refine g5_4 (idx := 51) (q := 65) (by decide +kernel) fX5_51 (hS5_0 m_x0) (hL5_0 m_x0) rfl ?_
  refine Z_iconst (a := 1) (v := 1) (q := 66) (by decide +kernel) (by decide +kernel) rfl ?_
  refine Z_isub (q := 67) (by decide +kernel) rfl ?_
  obtain ⟨hne, h⟩ := h
  refine Z_idiv (q := 68) (by decide +kernel) hne rfl ?_
  refine Z_max (idx := 116) (q := 71) (by decide +kernel) lX5_116 (Nat.le_of_ble_eq_true rfl) (Nat.le_add_left 1 d) rfl ?_
  refine Z_istore (a := 5) (loc2 := [_, _, _, _, _, _]) (q := 73) (by decide +kernel) (by decide +kernel) rfl rfl rfl ?_
  refine Z_iload (a := 5) (q := 75) (by decide +kernel) rfl rfl ?_
  refine Z_iload (a := 4) (q := 77) (by decide +kernel) rfl rfl ?_
  refine Z_isub (q := 78) (by decide +kernel) rfl ?_
  refine Z_aload_n (a := 0) (q := 79) (by decide +kernel) rfl rfl ?_
  refine g5_0 (idx := 12) (q := 82) (by decide +kernel) fX5_12 (hS5_0 m_x0) (hL5_0 m_x0) rfl ?_
  refine Z_icmp_le (t := 94) (off := 12) (q := 85) (by decide +kernel) (by decide) rfl (fun hc => ?_) (fun hc => ?_)
  · replace h := h.1 hc
    refine Z_iconst (a := 1) (v := 1) (q := 95) (by decide +kernel) (by decide +kernel) rfl ?_
    refine Z_goto (q := 99) (off := 4) (by decide +kernel) (by decide) ?_
    exact Z_iret (ty := .boolean) (by decide +kernel) rfl rfl rfl ⟨_, rfl, h⟩
  · replace h := h.2 hc
    refine Z_iload (a := 5) (q := 87) (by decide +kernel) rfl rfl ?_
    refine Z_aload_n (a := 0) (q := 88) (by decide +kernel) rfl rfl ?_
    refine g5_2 (idx := 19) (q := 91) (by decide +kernel) fX5_19 (hS5_0 m_x0) (hL5_0 m_x0) rfl ?_
    refine Z_icmp_ge (t := 98) (off := 7) (q := 94) (by decide +kernel) (by decide) rfl (fun hc => ?_) (fun hc => ?_)
    · replace h := h.1 hc
      refine Z_iconst (a := 0) (v := 0) (q := 99) (by decide +kernel) (by decide +kernel) rfl ?_
      exact Z_iret (ty := .boolean) (by decide +kernel) rfl rfl rfl ⟨_, rfl, h⟩
    · replace h := h.2 hc
      refine Z_iconst (a := 1) (v := 1) (q := 95) (by decide +kernel) (by decide +kernel) rfl ?_
      refine Z_goto (q := 99) (off := 4) (by decide +kernel) (by decide) ?_
      exact Z_iret (ty := .boolean) (by decide +kernel) rfl rfl rfl ⟨_, rfl, h⟩
theorem eX5_takeRow {d : Nat} (x0 : Nat) (x1 : Int32) {iv : zI} {rv : zR} {lv : zJ} {Q : zI → zR → zJ → Prop} (h : Zv mX5_takeRow (d + 1) 0 [some (.ref x0), some (.int x1), none, none] [] iv rv lv Q) : Cv mX5_takeRow (d + 1) [.ref x0, .int x1] iv rv lv Q := Cv.of (by decide +kernel) (by simp [Value.category]) (Nat.le_of_ble_eq_true rfl) rfl h
set_option maxRecDepth 4000 in
theorem bX5_takeRow_0 {d : Nat} (x0 : Nat) (x1 : Int32) {iv : zI} {rv : zR} {lv : zJ} {Q : zI → zR → zJ → Prop} (hT : zTop rv) (m_x0 : x0 ∈ zPts)
    (h : ((iv x0 10) = 0 → ∃ Q1 : Int32 → zI → zR → zJ → Prop, Ci mX10_greatestAmong d [.ref (x0 + 3), .int (iv x0 4)] iv rv lv Q1 ∧ ∀ (v6 : Int32) (iv2 : zI) (rv3 : zR) (lv4 : zJ), Q1 v6 iv2 rv3 lv4 → zTop rv3 ∧ (∃ Q7 : Int32 → zI → zR → zJ → Prop, Ci mX10_leastAmong d [.ref (x0 + 3), .int (iv2 x0 4)] iv2 rv3 lv4 Q7 ∧ ∀ (v12 : Int32) (iv8 : zI) (rv9 : zR) (lv10 : zJ), Q7 v12 iv8 rv9 lv10 → zTop rv9 ∧ (∀ iv13 : zI, iv13 = zu iv8 x0 2 (zmn (iv8 x0 2) v6) → ((iv13 x0 0) ≤ (v6 - v12) → (¬ (v6 - v12) = (iv13 x0 0) → Q iv13 rv9 lv10) ∧ ((v6 - v12) = (iv13 x0 0) → ∀ iv14 : zI, iv14 = zu iv13 x0 1 ((iv13 x0 1) + x1) → Q iv14 rv9 lv10)) ∧ (¬ (iv13 x0 0) ≤ (v6 - v12) → ∀ iv15 : zI, iv15 = zu iv13 x0 0 (v6 - v12) → ∀ iv16 : zI, iv16 = zu iv15 x0 1 (0 : Int32) → (∀ iv17 : zI, iv17 = (fun a => if a = (x0 + 1) then va_cpy (iv16 (x0 + 2)) (iv16 (x0 + 1)) 0 0 10 else iv16 a) → (¬ (v6 - v12) = (iv17 x0 0) → Q iv17 rv9 lv10) ∧ ((v6 - v12) = (iv17 x0 0) → ∀ iv18 : zI, iv18 = zu iv17 x0 1 ((iv17 x0 1) + x1) → Q iv18 rv9 lv10)))))) ∧ (¬ (iv x0 10) = 0 → ∀ iv19 : zI, iv19 = zu iv x0 11 ((iv x0 11) + x1) → Q iv19 rv lv)) :
    Zv mX5_takeRow (d + 1) 0 [some (.ref x0), some (.int x1), none, none] [] iv rv lv Q := by
  unfold Zv
  refine Z_aload_n (a := 0) (q := 1) (by decide +kernel) rfl rfl ?_
  refine g5_10 (idx := 41) (q := 4) (by decide +kernel) fX5_41 (hS5_0 m_x0) (hL5_0 m_x0) rfl ?_
  refine Z_if_eq (t := 18) (off := 14) (q := 7) (by decide +kernel) (by decide) rfl (fun hc => ?_) (fun hc => ?_)
  · replace h := h.1 hc
    refine Z_aload_n (a := 0) (q := 19) (by decide +kernel) rfl rfl ?_
    refine g5_6 (idx := 29) (q := 22) (by decide +kernel) fX5_29 (hS5_0 m_x0) (hL5_0 m_x0) (t5_6 hT m_x0) rfl ?_
    refine Z_aload_n (a := 0) (q := 23) (by decide +kernel) rfl rfl ?_
    refine g5_4 (idx := 51) (q := 26) (by decide +kernel) fX5_51 (hS5_0 m_x0) (hL5_0 m_x0) rfl ?_
    obtain ⟨Q1, hm, h⟩ := h
    refine Z_callSNi (M2 := mX10_greatestAmong) (idx := 103) (d2 := d) (As := [.ref _, .int _]) (q := 29) (by decide +kernel) kX10_greatestAmong nX5_103 rfl rfl (by decide +kernel) (Nat.le_of_ble_eq_true rfl) (Nat.le_refl _) hm rfl (fun v6 iv2 rv3 lv4 hq => ?_)
    obtain ⟨hT5, h⟩ := h v6 iv2 rv3 lv4 hq
    refine Z_istore_n (a := 2) (loc2 := [_, _, _, _]) (q := 30) (by decide +kernel) (by decide +kernel) rfl rfl rfl ?_
    refine Z_aload_n (a := 0) (q := 31) (by decide +kernel) rfl rfl ?_
    refine g5_6 (idx := 29) (q := 34) (by decide +kernel) fX5_29 (hS5_0 m_x0) (hL5_0 m_x0) (t5_6 hT5 m_x0) rfl ?_
    refine Z_aload_n (a := 0) (q := 35) (by decide +kernel) rfl rfl ?_
    refine g5_4 (idx := 51) (q := 38) (by decide +kernel) fX5_51 (hS5_0 m_x0) (hL5_0 m_x0) rfl ?_
    obtain ⟨Q7, hm, h⟩ := h
    refine Z_callSNi (M2 := mX10_leastAmong) (idx := 107) (d2 := d) (As := [.ref _, .int _]) (q := 41) (by decide +kernel) kX10_leastAmong nX5_107 rfl rfl (by decide +kernel) (Nat.le_of_ble_eq_true rfl) (Nat.le_refl _) hm rfl (fun v12 iv8 rv9 lv10 hq => ?_)
    obtain ⟨hT11, h⟩ := h v12 iv8 rv9 lv10 hq
    refine Z_istore_n (a := 3) (loc2 := [_, _, _, _]) (q := 42) (by decide +kernel) (by decide +kernel) rfl rfl rfl ?_
    refine Z_aload_n (a := 0) (q := 43) (by decide +kernel) rfl rfl ?_
    refine Z_aload_n (a := 0) (q := 44) (by decide +kernel) rfl rfl ?_
    refine g5_2 (idx := 19) (q := 47) (by decide +kernel) fX5_19 (hS5_0 m_x0) (hL5_0 m_x0) rfl ?_
    refine Z_iload_n (a := 2) (q := 48) (by decide +kernel) rfl rfl ?_
    refine Z_min (idx := 110) (q := 51) (by decide +kernel) lX5_110 (Nat.le_of_ble_eq_true rfl) (Nat.le_add_left 1 d) rfl ?_
    refine p5_2 (idx := 19) (q := 54) (by decide +kernel) fX5_19 (hS5_0 m_x0) (hL5_0 m_x0) rfl ?_
    replace h := h _ rfl
    refine Z_iload_n (a := 2) (q := 55) (by decide +kernel) rfl rfl ?_
    refine Z_iload_n (a := 3) (q := 56) (by decide +kernel) rfl rfl ?_
    refine Z_isub (q := 57) (by decide +kernel) rfl ?_
    refine Z_aload_n (a := 0) (q := 58) (by decide +kernel) rfl rfl ?_
    refine g5_0 (idx := 12) (q := 61) (by decide +kernel) fX5_12 (hS5_0 m_x0) (hL5_0 m_x0) rfl ?_
    refine Z_icmp_ge (t := 91) (off := 30) (q := 64) (by decide +kernel) (by decide) rfl (fun hc => ?_) (fun hc => ?_)
    · replace h := h.1 hc
      refine Z_iload_n (a := 2) (q := 92) (by decide +kernel) rfl rfl ?_
      refine Z_iload_n (a := 3) (q := 93) (by decide +kernel) rfl rfl ?_
      refine Z_isub (q := 94) (by decide +kernel) rfl ?_
      refine Z_aload_n (a := 0) (q := 95) (by decide +kernel) rfl rfl ?_
      refine g5_0 (idx := 12) (q := 98) (by decide +kernel) fX5_12 (hS5_0 m_x0) (hL5_0 m_x0) rfl ?_
      refine Z_icmp_ne (t := 111) (off := 13) (q := 101) (by decide +kernel) (by decide) rfl (fun hc => ?_) (fun hc => ?_)
      · replace h := h.1 hc
        exact Z_vret (by decide +kernel) rfl rfl ⟨rfl, h⟩
      · replace h := h.2 hc
        refine Z_aload_n (a := 0) (q := 102) (by decide +kernel) rfl rfl ?_
        refine Z_dup (q := 103) (by decide +kernel) rfl rfl ?_
        refine g5_1 (idx := 16) (q := 106) (by decide +kernel) fX5_16 (hS5_0 m_x0) (hL5_0 m_x0) rfl ?_
        refine Z_iload_n (a := 1) (q := 107) (by decide +kernel) rfl rfl ?_
        refine Z_iadd (q := 108) (by decide +kernel) rfl ?_
        refine p5_1 (idx := 16) (q := 111) (by decide +kernel) fX5_16 (hS5_0 m_x0) (hL5_0 m_x0) rfl ?_
        replace h := h _ rfl
        exact Z_vret (by decide +kernel) rfl rfl ⟨rfl, h⟩
    · replace h := h.2 hc
      refine Z_aload_n (a := 0) (q := 65) (by decide +kernel) rfl rfl ?_
      refine Z_iload_n (a := 2) (q := 66) (by decide +kernel) rfl rfl ?_
      refine Z_iload_n (a := 3) (q := 67) (by decide +kernel) rfl rfl ?_
      refine Z_isub (q := 68) (by decide +kernel) rfl ?_
      refine p5_0 (idx := 12) (q := 71) (by decide +kernel) fX5_12 (hS5_0 m_x0) (hL5_0 m_x0) rfl ?_
      replace h := h _ rfl
      refine Z_aload_n (a := 0) (q := 72) (by decide +kernel) rfl rfl ?_
      refine Z_iconst (a := 0) (v := 0) (q := 73) (by decide +kernel) (by decide +kernel) rfl ?_
      refine p5_1 (idx := 16) (q := 76) (by decide +kernel) fX5_16 (hS5_0 m_x0) (hL5_0 m_x0) rfl ?_
      replace h := h _ rfl
      refine Z_aload_n (a := 0) (q := 77) (by decide +kernel) rfl rfl ?_
      refine g5_5 (idx := 26) (q := 80) (by decide +kernel) fX5_26 (hS5_0 m_x0) (hL5_0 m_x0) (t5_5 hT11 m_x0) rfl ?_
      refine Z_iconst (a := 0) (v := 0) (q := 81) (by decide +kernel) (by decide +kernel) rfl ?_
      refine Z_aload_n (a := 0) (q := 82) (by decide +kernel) rfl rfl ?_
      refine g5_3 (idx := 22) (q := 85) (by decide +kernel) fX5_22 (hS5_0 m_x0) (hL5_0 m_x0) (t5_3 hT11 m_x0) rfl ?_
      refine Z_iconst (a := 0) (v := 0) (q := 86) (by decide +kernel) (by decide +kernel) rfl ?_
      refine Z_bipush (a := 10) (v := 10) (q := 88) (by decide +kernel) (by decide +kernel) rfl ?_
      refine Z_copyi (idx := 119) (q := 91) (by decide +kernel) lX5_119 (hS5_2 m_x0) (hL5_2 m_x0) (hS5_1 m_x0) (hL5_1 m_x0) (by decide) (by decide) (by decide) (by decide) (by decide) (Nat.le_of_ble_eq_true rfl) (Nat.le_add_left 1 d) rfl ?_
      replace h := h _ rfl
      refine Z_iload_n (a := 2) (q := 92) (by decide +kernel) rfl rfl ?_
      refine Z_iload_n (a := 3) (q := 93) (by decide +kernel) rfl rfl ?_
      refine Z_isub (q := 94) (by decide +kernel) rfl ?_
      refine Z_aload_n (a := 0) (q := 95) (by decide +kernel) rfl rfl ?_
      refine g5_0 (idx := 12) (q := 98) (by decide +kernel) fX5_12 (hS5_0 m_x0) (hL5_0 m_x0) rfl ?_
      refine Z_icmp_ne (t := 111) (off := 13) (q := 101) (by decide +kernel) (by decide) rfl (fun hc => ?_) (fun hc => ?_)
      · replace h := h.1 hc
        exact Z_vret (by decide +kernel) rfl rfl ⟨rfl, h⟩
      · replace h := h.2 hc
        refine Z_aload_n (a := 0) (q := 102) (by decide +kernel) rfl rfl ?_
        refine Z_dup (q := 103) (by decide +kernel) rfl rfl ?_
        refine g5_1 (idx := 16) (q := 106) (by decide +kernel) fX5_16 (hS5_0 m_x0) (hL5_0 m_x0) rfl ?_
        refine Z_iload_n (a := 1) (q := 107) (by decide +kernel) rfl rfl ?_
        refine Z_iadd (q := 108) (by decide +kernel) rfl ?_
        refine p5_1 (idx := 16) (q := 111) (by decide +kernel) fX5_16 (hS5_0 m_x0) (hL5_0 m_x0) rfl ?_
        replace h := h _ rfl
        exact Z_vret (by decide +kernel) rfl rfl ⟨rfl, h⟩
  · replace h := h.2 hc
    refine Z_aload_n (a := 0) (q := 8) (by decide +kernel) rfl rfl ?_
    refine Z_dup (q := 9) (by decide +kernel) rfl rfl ?_
    refine g5_11 (idx := 45) (q := 12) (by decide +kernel) fX5_45 (hS5_0 m_x0) (hL5_0 m_x0) rfl ?_
    refine Z_iload_n (a := 1) (q := 13) (by decide +kernel) rfl rfl ?_
    refine Z_iadd (q := 14) (by decide +kernel) rfl ?_
    refine p5_11 (idx := 45) (q := 17) (by decide +kernel) fX5_45 (hS5_0 m_x0) (hL5_0 m_x0) rfl ?_
    replace h := h _ rfl
    exact Z_vret (by decide +kernel) rfl rfl ⟨rfl, h⟩
