/-! BLOCKS of X6, by program. -/
theorem eX6_putFour {d : Nat} (x1 : Int32) {iv : zI} {rv : zR} {lv : zJ} {Q : zI → zR → zJ → Prop} (h : Zv mX6_putFour d 0 [some (.ref 1), some (.int x1), none] [] iv rv lv Q) : Cv mX6_putFour d [.ref 1, .int x1] iv rv lv Q := Cv.of (by decide +kernel) (by simp [Value.category]) (Nat.le_of_ble_eq_true rfl) rfl h
set_option maxRecDepth 4000 in
theorem bX6_putFour_0 {d : Nat} (x1 : Int32) {iv : zI} {rv : zR} {lv : zJ} {Q : zI → zR → zJ → Prop} (hT : zTop rv) 
    (h : Zv mX6_putFour d 3 [some (.ref 1), some (.int x1), some (.int (24 : Int32))] [] iv rv lv Q) :
    Zv mX6_putFour d 0 [some (.ref 1), some (.int x1), none] [] iv rv lv Q := by
  unfold Zv
  refine Z_bipush (a := 24) (v := 24) (q := 2) (by decide +kernel) (by decide +kernel) rfl ?_
  refine Z_istore_n (a := 2) (loc2 := [_, _, _]) (q := 3) (by decide +kernel) (by decide +kernel) rfl rfl rfl ?_
  exact h
set_option maxRecDepth 4000 in
theorem bX6_putFour_3 {d : Nat} (x1 : Int32) (x2 : Int32) {iv : zI} {rv : zR} {lv : zJ} {Q : zI → zR → zJ → Prop} (hT : zTop rv) 
    (h : (x2 < 0 → Q iv rv lv) ∧ (¬ x2 < 0 → ((300 : Int32) ≤ (iv 1 0) → Zv mX6_putFour d 3 [some (.ref 1), some (.int x1), some (.int (x2 + -8))] [] iv rv lv Q) ∧ (¬ (300 : Int32) ≤ (iv 1 0) → vp_in (iv 1 0) 300 ∧ (∀ iv2 : zI, iv2 = zu iv 7 (iv 1 0).toNatClampNeg (vp_nar .byte ((x1 >>> (x2 &&& 31)).toInt8.toInt32)) → ∀ iv3 : zI, iv3 = zu iv2 1 0 ((iv2 1 0) + (1 : Int32)) → Zv mX6_putFour d 3 [some (.ref 1), some (.int x1), some (.int (x2 + -8))] [] iv3 rv lv Q)))) :
    Zv mX6_putFour d 3 [some (.ref 1), some (.int x1), some (.int x2)] [] iv rv lv Q := by
  unfold Zv
  refine Z_iload_n (a := 2) (q := 4) (by decide +kernel) rfl rfl ?_
  refine Z_if_lt (t := 46) (off := 42) (q := 7) (by decide +kernel) (by decide) rfl (fun hc => ?_) (fun hc => ?_)
  · replace h := h.1 hc
    exact Z_vret (by decide +kernel) rfl rfl ⟨rfl, h⟩
  · replace h := h.2 hc
    refine Z_aload_n (a := 0) (q := 8) (by decide +kernel) rfl rfl ?_
    refine g6_0 (idx := 9) (q := 11) (by decide +kernel) fX6_9 rfl (by decide) rfl ?_
    refine Z_sipush (a := 300) (v := 300) (q := 14) (by decide +kernel) (by decide +kernel) rfl ?_
    refine Z_icmp_ge (t := 40) (off := 26) (q := 17) (by decide +kernel) (by decide) rfl (fun hc => ?_) (fun hc => ?_)
    · replace h := h.1 hc
      refine Z_iinc (a := 2) (b := -8) (v := _ + -8) (loc2 := [_, _, _]) (q := 43) (by decide +kernel) rfl (zinc8 _) (by decide +kernel) rfl rfl rfl ?_
      refine Z_goto (q := 3) (off := -40) (by decide +kernel) (by decide) ?_
      exact h
    · replace h := h.2 hc
      refine Z_aload_n (a := 0) (q := 18) (by decide +kernel) rfl rfl ?_
      refine g6_4 (idx := 28) (q := 21) (by decide +kernel) fX6_28 rfl (by decide) (t6_4 hT) rfl ?_
      refine Z_aload_n (a := 0) (q := 22) (by decide +kernel) rfl rfl ?_
      refine g6_0 (idx := 9) (q := 25) (by decide +kernel) fX6_9 rfl (by decide) rfl ?_
      refine Z_iload_n (a := 1) (q := 26) (by decide +kernel) rfl rfl ?_
      refine Z_iload_n (a := 2) (q := 27) (by decide +kernel) rfl rfl ?_
      refine Z_ishr (q := 28) (by decide +kernel) rfl ?_
      refine Z_i2b (q := 29) (by decide +kernel) rfl ?_
      obtain ⟨hin1, h⟩ := h
      refine Z_bast (len := 300) (q := 30) (by decide +kernel) rfl (by decide) hin1 rfl ?_
      replace h := h _ rfl
      refine Z_aload_n (a := 0) (q := 31) (by decide +kernel) rfl rfl ?_
      refine Z_dup (q := 32) (by decide +kernel) rfl rfl ?_
      refine g6_0 (idx := 9) (q := 35) (by decide +kernel) fX6_9 rfl (by decide) rfl ?_
      refine Z_iconst (a := 1) (v := 1) (q := 36) (by decide +kernel) (by decide +kernel) rfl ?_
      refine Z_iadd (q := 37) (by decide +kernel) rfl ?_
      refine p6_0 (idx := 9) (q := 40) (by decide +kernel) fX6_9 rfl (by decide) rfl ?_
      replace h := h _ rfl
      refine Z_iinc (a := 2) (b := -8) (v := _ + -8) (loc2 := [_, _, _]) (q := 43) (by decide +kernel) rfl (zinc8 _) (by decide +kernel) rfl rfl rfl ?_
      refine Z_goto (q := 3) (off := -40) (by decide +kernel) (by decide) ?_
      exact h
theorem eX6_readText {d : Nat} (x1 : Int32) {iv : zI} {rv : zR} {lv : zJ} {Q : Int32 → zI → zR → zJ → Prop} (h : Zi mX6_readText (d + 1) 0 [some (.ref 1), some (.int x1)] [] iv rv lv Q) : Ci mX6_readText (d + 1) [.ref 1, .int x1] iv rv lv Q := Ci.of (by decide +kernel) (by simp [Value.category]) (Nat.le_of_ble_eq_true rfl) rfl h
set_option maxRecDepth 4000 in
theorem bX6_readText_0 {d : Nat} (x1 : Int32) {iv : zI} {rv : zR} {lv : zJ} {Q : Int32 → zI → zR → zJ → Prop} (hT : zTop rv) 
    (h : ∀ iv1 : zI, iv1 = zu iv 1 5 (zmn x1 (300 : Int32)) → ∀ iv2 : zI, iv2 = zu iv1 1 0 (0 : Int32) → ∀ iv3 : zI, iv3 = zu iv2 1 6 (0 : Int32) → ∀ iv4 : zI, iv4 = zu iv3 1 2 (0 : Int32) → ∀ iv5 : zI, iv5 = zu iv4 1 9 (0 : Int32) → ∃ Q6 : zI → zR → zJ → Prop, Cv mX9_empty d [.ref 2] iv5 rv lv Q6 ∧ ∀ (iv7 : zI) (rv8 : zR) (lv9 : zJ), Q6 iv7 rv8 lv9 → zTop rv8 ∧ (∃ Q12 : zI → zR → zJ → Prop, Cv mX6_nextToken d [.ref 1] iv7 rv8 lv9 Q12 ∧ ∀ (iv13 : zI) (rv14 : zR) (lv15 : zJ), Q12 iv13 rv14 lv15 → zTop rv14 ∧ (∃ Q18 : Int32 → zI → zR → zJ → Prop, Ci mX6_readLines d [.ref 1] iv13 rv14 lv15 Q18 ∧ ∀ (v23 : Int32) (iv19 : zI) (rv20 : zR) (lv21 : zJ), Q18 v23 iv19 rv20 lv21 → zTop rv20 ∧ ((v23 = 0 ∨ v23 = 1) ∧ Q v23 iv19 rv20 lv21)))) :
    Zi mX6_readText (d + 1) 0 [some (.ref 1), some (.int x1)] [] iv rv lv Q := by
  unfold Zi
  refine Z_aload_n (a := 0) (q := 1) (by decide +kernel) rfl rfl ?_
  refine Z_iload_n (a := 1) (q := 2) (by decide +kernel) rfl rfl ?_
  refine Z_sipush (a := 300) (v := 300) (q := 5) (by decide +kernel) (by decide +kernel) rfl ?_
  refine Z_min (idx := 48) (q := 8) (by decide +kernel) lX6_48 (Nat.le_of_ble_eq_true rfl) (Nat.le_add_left 1 d) rfl ?_
  refine p6_5 (idx := 32) (q := 11) (by decide +kernel) fX6_32 rfl (by decide) rfl ?_
  replace h := h _ rfl
  refine Z_aload_n (a := 0) (q := 12) (by decide +kernel) rfl rfl ?_
  refine Z_iconst (a := 0) (v := 0) (q := 13) (by decide +kernel) (by decide +kernel) rfl ?_
  refine p6_0 (idx := 9) (q := 16) (by decide +kernel) fX6_9 rfl (by decide) rfl ?_
  replace h := h _ rfl
  refine Z_aload_n (a := 0) (q := 17) (by decide +kernel) rfl rfl ?_
  refine Z_iconst (a := 0) (v := 0) (q := 18) (by decide +kernel) (by decide +kernel) rfl ?_
  refine p6_6 (idx := 35) (q := 21) (by decide +kernel) fX6_35 rfl (by decide) rfl ?_
  replace h := h _ rfl
  refine Z_aload_n (a := 0) (q := 22) (by decide +kernel) rfl rfl ?_
  refine Z_iconst (a := 0) (v := 0) (q := 23) (by decide +kernel) (by decide +kernel) rfl ?_
  refine p6_2 (idx := 22) (q := 26) (by decide +kernel) fX6_22 rfl (by decide) rfl ?_
  replace h := h _ rfl
  refine Z_aload_n (a := 0) (q := 27) (by decide +kernel) rfl rfl ?_
  refine Z_iconst (a := 0) (v := 0) (q := 28) (by decide +kernel) (by decide +kernel) rfl ?_
  refine p6_9 (idx := 44) (q := 31) (by decide +kernel) fX6_44 rfl (by decide) (by decide) rfl ?_
  replace h := h _ rfl
  refine Z_aload_n (a := 0) (q := 32) (by decide +kernel) rfl rfl ?_
  refine g6_1 (idx := 18) (q := 35) (by decide +kernel) fX6_18 rfl (by decide) (t6_1 hT) rfl ?_
  obtain ⟨Q6, hm, h⟩ := h
  refine Z_callVv (M2 := mX9_empty) (idx := 54) (d2 := d) (ci := 9) (As := []) (q := 38) (by decide +kernel) kX9_empty lX6_54 rfl (hS9_0 (by decide : 2 ∈ zSts)) (hL9_0 (by decide : 2 ∈ zSts)) rfl rfl (by decide +kernel) (Nat.le_of_ble_eq_true rfl) (Nat.le_refl _) hm rfl (fun iv7 rv8 lv9 hq => ?_)
  obtain ⟨hT10, h⟩ := h iv7 rv8 lv9 hq
  refine Z_aload_n (a := 0) (q := 39) (by decide +kernel) rfl rfl ?_
  obtain ⟨Q12, hm, h⟩ := h
  refine Z_callVv (M2 := mX6_nextToken) (idx := 57) (d2 := d) (ci := 6) (As := []) (q := 42) (by decide +kernel) kX6_nextToken lX6_57 rfl rfl (by decide) rfl rfl (by decide +kernel) (Nat.le_of_ble_eq_true rfl) (Nat.le_refl _) hm rfl (fun iv13 rv14 lv15 hq => ?_)
  obtain ⟨hT16, h⟩ := h iv13 rv14 lv15 hq
  refine Z_aload_n (a := 0) (q := 43) (by decide +kernel) rfl rfl ?_
  obtain ⟨Q18, hm, h⟩ := h
  refine Z_callVi (M2 := mX6_readLines) (idx := 60) (d2 := d) (ci := 6) (As := []) (q := 46) (by decide +kernel) kX6_readLines lX6_60 rfl rfl (by decide) rfl rfl (by decide +kernel) (Nat.le_of_ble_eq_true rfl) (Nat.le_refl _) hm rfl (fun v23 iv19 rv20 lv21 hq => ?_)
  obtain ⟨hT22, h⟩ := h v23 iv19 rv20 lv21 hq
  exact Z_iret (ty := .boolean) (by decide +kernel) rfl (by rcases h.1 with e | e <;> rw [e] <;> rfl) rfl ⟨_, rfl, h.2⟩
theorem eX6_readLines {d : Nat}  {iv : zI} {rv : zR} {lv : zJ} {Q : Int32 → zI → zR → zJ → Prop} (h : Zi mX6_readLines (d + 1) 0 [some (.ref 1), none] [] iv rv lv Q) : Ci mX6_readLines (d + 1) [.ref 1] iv rv lv Q := Ci.of (by decide +kernel) (by simp [Value.category]) (Nat.le_of_ble_eq_true rfl) rfl h
set_option maxRecDepth 4000 in
theorem bX6_readLines_0 {d : Nat}  {iv : zI} {rv : zR} {lv : zJ} {Q : Int32 → zI → zR → zJ → Prop} (hT : zTop rv) 
    (h : Zi mX6_readLines (d + 1) 2 [some (.ref 1), some (.int (0 : Int32))] [] iv rv lv Q) :
    Zi mX6_readLines (d + 1) 0 [some (.ref 1), none] [] iv rv lv Q := by
  unfold Zi
  refine Z_iconst (a := 0) (v := 0) (q := 1) (by decide +kernel) (by decide +kernel) rfl ?_
  refine Z_istore_n (a := 1) (loc2 := [_, _]) (q := 2) (by decide +kernel) (by decide +kernel) rfl rfl rfl ?_
  exact h
set_option maxRecDepth 4000 in
theorem bX6_readLines_2 {d : Nat} (x1 : Int32) {iv : zI} {rv : zR} {lv : zJ} {Q : Int32 → zI → zR → zJ → Prop} (hT : zTop rv) 
    (h : ((iv 1 5) < x1 → ∃ Q1 : Int32 → zI → zR → zJ → Prop, Ci mX6_stop d [.ref 1, .int (1 : Int32)] iv rv lv Q1 ∧ ∀ (v6 : Int32) (iv2 : zI) (rv3 : zR) (lv4 : zJ), Q1 v6 iv2 rv3 lv4 → zTop rv3 ∧ ((v6 = 0 ∨ v6 = 1) ∧ Q v6 iv2 rv3 lv4)) ∧ (¬ (iv 1 5) < x1 → ∃ Q7 : Int32 → zI → zR → zJ → Prop, Ci mX6_readLine d [.ref 1] iv rv lv Q7 ∧ ∀ (v12 : Int32) (iv8 : zI) (rv9 : zR) (lv10 : zJ), Q7 v12 iv8 rv9 lv10 → zTop rv9 ∧ ((¬ v12 = 0 → (¬ (iv8 1 7) = 0 → ((iv8 1 7) = (3 : Int32) → ∃ Q13 : zI → zR → zJ → Prop, Cv mX6_nextToken d [.ref 1] iv8 rv9 lv10 Q13 ∧ ∀ (iv14 : zI) (rv15 : zR) (lv16 : zJ), Q13 iv14 rv15 lv16 → zTop rv15 ∧ (Zi mX6_readLines (d + 1) 2 [some (.ref 1), some (.int (x1 + 1))] [] iv14 rv15 lv16 Q)) ∧ (¬ (iv8 1 7) = (3 : Int32) → ∃ Q19 : Int32 → zI → zR → zJ → Prop, Ci mX6_stop d [.ref 1, .int (1 : Int32)] iv8 rv9 lv10 Q19 ∧ ∀ (v24 : Int32) (iv20 : zI) (rv21 : zR) (lv22 : zJ), Q19 v24 iv20 rv21 lv22 → zTop rv21 ∧ ((v24 = 0 ∨ v24 = 1) ∧ Q v24 iv20 rv21 lv22))) ∧ ((iv8 1 7) = 0 → (0 < (iv8 2 0) → Q (1 : Int32) iv8 rv9 lv10) ∧ (¬ 0 < (iv8 2 0) → ∃ Q25 : Int32 → zI → zR → zJ → Prop, Ci mX6_stop d [.ref 1, .int (5 : Int32)] iv8 rv9 lv10 Q25 ∧ ∀ (v30 : Int32) (iv26 : zI) (rv27 : zR) (lv28 : zJ), Q25 v30 iv26 rv27 lv28 → zTop rv27 ∧ ((v30 = 0 → Q (0 : Int32) iv26 rv27 lv28) ∧ (¬ v30 = 0 → Q (1 : Int32) iv26 rv27 lv28))))) ∧ (v12 = 0 → Q (0 : Int32) iv8 rv9 lv10)))) :
    Zi mX6_readLines (d + 1) 2 [some (.ref 1), some (.int x1)] [] iv rv lv Q := by
  unfold Zi
  refine Z_iload_n (a := 1) (q := 3) (by decide +kernel) rfl rfl ?_
  refine Z_aload_n (a := 0) (q := 4) (by decide +kernel) rfl rfl ?_
  refine g6_5 (idx := 32) (q := 7) (by decide +kernel) fX6_32 rfl (by decide) rfl ?_
  refine Z_icmp_gt (t := 74) (off := 67) (q := 10) (by decide +kernel) (by decide) rfl (fun hc => ?_) (fun hc => ?_)
  · replace h := h.1 hc
    refine Z_aload_n (a := 0) (q := 75) (by decide +kernel) rfl rfl ?_
    refine Z_iconst (a := 1) (v := 1) (q := 76) (by decide +kernel) (by decide +kernel) rfl ?_
    obtain ⟨Q1, hm, h⟩ := h
    refine Z_callVi (M2 := mX6_stop) (idx := 70) (d2 := d) (ci := 6) (As := [.int _]) (q := 79) (by decide +kernel) kX6_stop lX6_70 rfl rfl (by decide) rfl rfl (by decide +kernel) (Nat.le_of_ble_eq_true rfl) (Nat.le_refl _) hm rfl (fun v6 iv2 rv3 lv4 hq => ?_)
    obtain ⟨hT5, h⟩ := h v6 iv2 rv3 lv4 hq
    exact Z_iret (ty := .boolean) (by decide +kernel) rfl (by rcases h.1 with e | e <;> rw [e] <;> rfl) rfl ⟨_, rfl, h.2⟩
  · replace h := h.2 hc
    refine Z_aload_n (a := 0) (q := 11) (by decide +kernel) rfl rfl ?_
    obtain ⟨Q7, hm, h⟩ := h
    refine Z_callVi (M2 := mX6_readLine) (idx := 64) (d2 := d) (ci := 6) (As := []) (q := 14) (by decide +kernel) kX6_readLine lX6_64 rfl rfl (by decide) rfl rfl (by decide +kernel) (Nat.le_of_ble_eq_true rfl) (Nat.le_refl _) hm rfl (fun v12 iv8 rv9 lv10 hq => ?_)
    obtain ⟨hT11, h⟩ := h v12 iv8 rv9 lv10 hq
    refine Z_if_ne (t := 19) (off := 5) (q := 17) (by decide +kernel) (by decide) rfl (fun hc => ?_) (fun hc => ?_)
    · replace h := h.1 hc
      refine Z_aload_n (a := 0) (q := 20) (by decide +kernel) rfl rfl ?_
      refine g6_7 (idx := 38) (q := 23) (by decide +kernel) fX6_38 rfl (by decide) rfl ?_
      refine Z_if_ne (t := 50) (off := 27) (q := 26) (by decide +kernel) (by decide) rfl (fun hc => ?_) (fun hc => ?_)
      · replace h := h.1 hc
        refine Z_aload_n (a := 0) (q := 51) (by decide +kernel) rfl rfl ?_
        refine g6_7 (idx := 38) (q := 54) (by decide +kernel) fX6_38 rfl (by decide) rfl ?_
        refine Z_iconst (a := 3) (v := 3) (q := 55) (by decide +kernel) (by decide +kernel) rfl ?_
        refine Z_icmp_eq (t := 64) (off := 9) (q := 58) (by decide +kernel) (by decide) rfl (fun hc => ?_) (fun hc => ?_)
        · replace h := h.1 hc
          refine Z_aload_n (a := 0) (q := 65) (by decide +kernel) rfl rfl ?_
          obtain ⟨Q13, hm, h⟩ := h
          refine Z_callVv (M2 := mX6_nextToken) (idx := 57) (d2 := d) (ci := 6) (As := []) (q := 68) (by decide +kernel) kX6_nextToken lX6_57 rfl rfl (by decide) rfl rfl (by decide +kernel) (Nat.le_of_ble_eq_true rfl) (Nat.le_refl _) hm rfl (fun iv14 rv15 lv16 hq => ?_)
          obtain ⟨hT17, h⟩ := h iv14 rv15 lv16 hq
          refine Z_iinc (a := 1) (b := 1) (v := _ + 1) (loc2 := [_, _]) (q := 71) (by decide +kernel) rfl (zinc _) (by decide +kernel) rfl rfl rfl ?_
          refine Z_goto (q := 2) (off := -69) (by decide +kernel) (by decide) ?_
          exact h
        · replace h := h.2 hc
          refine Z_aload_n (a := 0) (q := 59) (by decide +kernel) rfl rfl ?_
          refine Z_iconst (a := 1) (v := 1) (q := 60) (by decide +kernel) (by decide +kernel) rfl ?_
          obtain ⟨Q19, hm, h⟩ := h
          refine Z_callVi (M2 := mX6_stop) (idx := 70) (d2 := d) (ci := 6) (As := [.int _]) (q := 63) (by decide +kernel) kX6_stop lX6_70 rfl rfl (by decide) rfl rfl (by decide +kernel) (Nat.le_of_ble_eq_true rfl) (Nat.le_refl _) hm rfl (fun v24 iv20 rv21 lv22 hq => ?_)
          obtain ⟨hT23, h⟩ := h v24 iv20 rv21 lv22 hq
          exact Z_iret (ty := .boolean) (by decide +kernel) rfl (by rcases h.1 with e | e <;> rw [e] <;> rfl) rfl ⟨_, rfl, h.2⟩
      · replace h := h.2 hc
        refine Z_aload_n (a := 0) (q := 27) (by decide +kernel) rfl rfl ?_
        refine g6_1 (idx := 18) (q := 30) (by decide +kernel) fX6_18 rfl (by decide) (t6_1 hT11) rfl ?_
        refine g9_0 (idx := 67) (q := 33) (by decide +kernel) fX6_67 (hS9_0 (by decide : 2 ∈ zSts)) (hL9_0 (by decide : 2 ∈ zSts)) rfl ?_
        refine Z_if_gt (t := 44) (off := 11) (q := 36) (by decide +kernel) (by decide) rfl (fun hc => ?_) (fun hc => ?_)
        · replace h := h.1 hc
          refine Z_iconst (a := 1) (v := 1) (q := 45) (by decide +kernel) (by decide +kernel) rfl ?_
          refine Z_goto (q := 49) (off := 4) (by decide +kernel) (by decide) ?_
          exact Z_iret (ty := .boolean) (by decide +kernel) rfl rfl rfl ⟨_, rfl, h⟩
        · replace h := h.2 hc
          refine Z_aload_n (a := 0) (q := 37) (by decide +kernel) rfl rfl ?_
          refine Z_iconst (a := 5) (v := 5) (q := 38) (by decide +kernel) (by decide +kernel) rfl ?_
          obtain ⟨Q25, hm, h⟩ := h
          refine Z_callVi (M2 := mX6_stop) (idx := 70) (d2 := d) (ci := 6) (As := [.int _]) (q := 41) (by decide +kernel) kX6_stop lX6_70 rfl rfl (by decide) rfl rfl (by decide +kernel) (Nat.le_of_ble_eq_true rfl) (Nat.le_refl _) hm rfl (fun v30 iv26 rv27 lv28 hq => ?_)
          obtain ⟨hT29, h⟩ := h v30 iv26 rv27 lv28 hq
          refine Z_if_eq (t := 48) (off := 7) (q := 44) (by decide +kernel) (by decide) rfl (fun hc => ?_) (fun hc => ?_)
          · replace h := h.1 hc
            refine Z_iconst (a := 0) (v := 0) (q := 49) (by decide +kernel) (by decide +kernel) rfl ?_
            exact Z_iret (ty := .boolean) (by decide +kernel) rfl rfl rfl ⟨_, rfl, h⟩
          · replace h := h.2 hc
            refine Z_iconst (a := 1) (v := 1) (q := 45) (by decide +kernel) (by decide +kernel) rfl ?_
            refine Z_goto (q := 49) (off := 4) (by decide +kernel) (by decide) ?_
            exact Z_iret (ty := .boolean) (by decide +kernel) rfl rfl rfl ⟨_, rfl, h⟩
    · replace h := h.2 hc
      refine Z_iconst (a := 0) (v := 0) (q := 18) (by decide +kernel) (by decide +kernel) rfl ?_
      exact Z_iret (ty := .boolean) (by decide +kernel) rfl rfl rfl ⟨_, rfl, h⟩
theorem eX6_stop {d : Nat} (x1 : Int32) {iv : zI} {rv : zR} {lv : zJ} {Q : Int32 → zI → zR → zJ → Prop} (h : Zi mX6_stop d 0 [some (.ref 1), some (.int x1)] [] iv rv lv Q) : Ci mX6_stop d [.ref 1, .int x1] iv rv lv Q := Ci.of (by decide +kernel) (by simp [Value.category]) (Nat.le_of_ble_eq_true rfl) rfl h
set_option maxRecDepth 4000 in
theorem bX6_stop_0 {d : Nat} (x1 : Int32) {iv : zI} {rv : zR} {lv : zJ} {Q : Int32 → zI → zR → zJ → Prop} (hT : zTop rv) 
    (h : ∀ iv1 : zI, iv1 = zu iv 1 2 x1 → Q (0 : Int32) iv1 rv lv) :
    Zi mX6_stop d 0 [some (.ref 1), some (.int x1)] [] iv rv lv Q := by
  unfold Zi
  refine Z_aload_n (a := 0) (q := 1) (by decide +kernel) rfl rfl ?_
  refine Z_iload_n (a := 1) (q := 2) (by decide +kernel) rfl rfl ?_
  refine p6_2 (idx := 22) (q := 5) (by decide +kernel) fX6_22 rfl (by decide) rfl ?_
  replace h := h _ rfl
  refine Z_iconst (a := 0) (v := 0) (q := 6) (by decide +kernel) (by decide +kernel) rfl ?_
  exact Z_iret (ty := .boolean) (by decide +kernel) rfl rfl rfl ⟨_, rfl, h⟩
theorem eX6_readLine {d : Nat}  {iv : zI} {rv : zR} {lv : zJ} {Q : Int32 → zI → zR → zJ → Prop} (h : Zi mX6_readLine (d + 1) 0 [some (.ref 1)] [] iv rv lv Q) : Ci mX6_readLine (d + 1) [.ref 1] iv rv lv Q := Ci.of (by decide +kernel) (by simp [Value.category]) (Nat.le_of_ble_eq_true rfl) rfl h
set_option maxRecDepth 4000 in
theorem bX6_readLine_0 {d : Nat}  {iv : zI} {rv : zR} {lv : zJ} {Q : Int32 → zI → zR → zJ → Prop} (hT : zTop rv) 
    (h : ∃ Q1 : Int32 → zI → zR → zJ → Prop, Ci mX6_isWord d [.ref 1, .ref 1000000] iv rv lv Q1 ∧ ∀ (v6 : Int32) (iv2 : zI) (rv3 : zR) (lv4 : zJ), Q1 v6 iv2 rv3 lv4 → zTop rv3 ∧ ((v6 = 0 → ∃ Q7 : Int32 → zI → zR → zJ → Prop, Ci mX6_isWord d [.ref 1, .ref 1000001] iv2 rv3 lv4 Q7 ∧ ∀ (v12 : Int32) (iv8 : zI) (rv9 : zR) (lv10 : zJ), Q7 v12 iv8 rv9 lv10 → zTop rv9 ∧ ((v12 = 0 → ∃ Q13 : Int32 → zI → zR → zJ → Prop, Ci mX6_isWord d [.ref 1, .ref 1000002] iv8 rv9 lv10 Q13 ∧ ∀ (v18 : Int32) (iv14 : zI) (rv15 : zR) (lv16 : zJ), Q13 v18 iv14 rv15 lv16 → zTop rv15 ∧ ((v18 = 0 → ∃ Q19 : Int32 → zI → zR → zJ → Prop, Ci mX6_isWord d [.ref 1, .ref 1000004] iv14 rv15 lv16 Q19 ∧ ∀ (v24 : Int32) (iv20 : zI) (rv21 : zR) (lv22 : zJ), Q19 v24 iv20 rv21 lv22 → zTop rv21 ∧ ((v24 = 0 → ∃ Q25 : Int32 → zI → zR → zJ → Prop, Ci mX6_stop d [.ref 1, .int (1 : Int32)] iv20 rv21 lv22 Q25 ∧ ∀ (v30 : Int32) (iv26 : zI) (rv27 : zR) (lv28 : zJ), Q25 v30 iv26 rv27 lv28 → zTop rv27 ∧ ((v30 = 0 ∨ v30 = 1) ∧ Q v30 iv26 rv27 lv28)) ∧ (¬ v24 = 0 → ∃ Q31 : Int32 → zI → zR → zJ → Prop, Ci mX6_readApart d [.ref 1] iv20 rv21 lv22 Q31 ∧ ∀ (v36 : Int32) (iv32 : zI) (rv33 : zR) (lv34 : zJ), Q31 v36 iv32 rv33 lv34 → zTop rv33 ∧ ((v36 = 0 ∨ v36 = 1) ∧ Q v36 iv32 rv33 lv34)))) ∧ (¬ v18 = 0 → ∃ Q37 : Int32 → zI → zR → zJ → Prop, Ci mX6_readKeep d [.ref 1] iv14 rv15 lv16 Q37 ∧ ∀ (v42 : Int32) (iv38 : zI) (rv39 : zR) (lv40 : zJ), Q37 v42 iv38 rv39 lv40 → zTop rv39 ∧ ((v42 = 0 ∨ v42 = 1) ∧ Q v42 iv38 rv39 lv40)))) ∧ (¬ v12 = 0 → ∃ Q43 : Int32 → zI → zR → zJ → Prop, Ci mX6_readHeaps d [.ref 1] iv8 rv9 lv10 Q43 ∧ ∀ (v48 : Int32) (iv44 : zI) (rv45 : zR) (lv46 : zJ), Q43 v48 iv44 rv45 lv46 → zTop rv45 ∧ ((v48 = 0 ∨ v48 = 1) ∧ Q v48 iv44 rv45 lv46)))) ∧ (¬ v6 = 0 → ∃ Q49 : Int32 → zI → zR → zJ → Prop, Ci mX6_readNumbers d [.ref 1] iv2 rv3 lv4 Q49 ∧ ∀ (v54 : Int32) (iv50 : zI) (rv51 : zR) (lv52 : zJ), Q49 v54 iv50 rv51 lv52 → zTop rv51 ∧ ((v54 = 0 ∨ v54 = 1) ∧ Q v54 iv50 rv51 lv52)))) :
    Zi mX6_readLine (d + 1) 0 [some (.ref 1)] [] iv rv lv Q := by
  unfold Zi
  refine Z_aload_n (a := 0) (q := 1) (by decide +kernel) rfl rfl ?_
  refine Z_ldcS (a := 1000000) (tx := "number") (q := 3) (by decide +kernel) (fun _ _ _ _ _ h => h.2.1.1) (by decide) rfl ?_
  obtain ⟨Q1, hm, h⟩ := h
  refine Z_callVi (M2 := mX6_isWord) (idx := 76) (d2 := d) (ci := 6) (As := [.ref _]) (q := 6) (by decide +kernel) kX6_isWord lX6_76 rfl rfl (by decide) rfl rfl (by decide +kernel) (Nat.le_of_ble_eq_true rfl) (Nat.le_refl _) hm rfl (fun v6 iv2 rv3 lv4 hq => ?_)
  obtain ⟨hT5, h⟩ := h v6 iv2 rv3 lv4 hq
  refine Z_if_eq (t := 14) (off := 8) (q := 9) (by decide +kernel) (by decide) rfl (fun hc => ?_) (fun hc => ?_)
  · replace h := h.1 hc
    refine Z_aload_n (a := 0) (q := 15) (by decide +kernel) rfl rfl ?_
    refine Z_ldcS (a := 1000001) (tx := "heaps") (q := 17) (by decide +kernel) (fun _ _ _ _ _ h => h.2.1.2.1) (by decide) rfl ?_
    obtain ⟨Q7, hm, h⟩ := h
    refine Z_callVi (M2 := mX6_isWord) (idx := 76) (d2 := d) (ci := 6) (As := [.ref _]) (q := 20) (by decide +kernel) kX6_isWord lX6_76 rfl rfl (by decide) rfl rfl (by decide +kernel) (Nat.le_of_ble_eq_true rfl) (Nat.le_refl _) hm rfl (fun v12 iv8 rv9 lv10 hq => ?_)
    obtain ⟨hT11, h⟩ := h v12 iv8 rv9 lv10 hq
    refine Z_if_eq (t := 28) (off := 8) (q := 23) (by decide +kernel) (by decide) rfl (fun hc => ?_) (fun hc => ?_)
    · replace h := h.1 hc
      refine Z_aload_n (a := 0) (q := 29) (by decide +kernel) rfl rfl ?_
      refine Z_ldcS (a := 1000002) (tx := "keep") (q := 31) (by decide +kernel) (fun _ _ _ _ _ h => h.2.1.2.2.1) (by decide) rfl ?_
      obtain ⟨Q13, hm, h⟩ := h
      refine Z_callVi (M2 := mX6_isWord) (idx := 76) (d2 := d) (ci := 6) (As := [.ref _]) (q := 34) (by decide +kernel) kX6_isWord lX6_76 rfl rfl (by decide) rfl rfl (by decide +kernel) (Nat.le_of_ble_eq_true rfl) (Nat.le_refl _) hm rfl (fun v18 iv14 rv15 lv16 hq => ?_)
      obtain ⟨hT17, h⟩ := h v18 iv14 rv15 lv16 hq
      refine Z_if_eq (t := 42) (off := 8) (q := 37) (by decide +kernel) (by decide) rfl (fun hc => ?_) (fun hc => ?_)
      · replace h := h.1 hc
        refine Z_aload_n (a := 0) (q := 43) (by decide +kernel) rfl rfl ?_
        refine Z_ldcS (a := 1000004) (tx := "apart") (q := 45) (by decide +kernel) (fun _ _ _ _ _ h => h.2.1.2.2.2.2) (by decide) rfl ?_
        obtain ⟨Q19, hm, h⟩ := h
        refine Z_callVi (M2 := mX6_isWord) (idx := 76) (d2 := d) (ci := 6) (As := [.ref _]) (q := 48) (by decide +kernel) kX6_isWord lX6_76 rfl rfl (by decide) rfl rfl (by decide +kernel) (Nat.le_of_ble_eq_true rfl) (Nat.le_refl _) hm rfl (fun v24 iv20 rv21 lv22 hq => ?_)
        obtain ⟨hT23, h⟩ := h v24 iv20 rv21 lv22 hq
        refine Z_if_eq (t := 56) (off := 8) (q := 51) (by decide +kernel) (by decide) rfl (fun hc => ?_) (fun hc => ?_)
        · replace h := h.1 hc
          refine Z_aload_n (a := 0) (q := 57) (by decide +kernel) rfl rfl ?_
          refine Z_iconst (a := 1) (v := 1) (q := 58) (by decide +kernel) (by decide +kernel) rfl ?_
          obtain ⟨Q25, hm, h⟩ := h
          refine Z_callVi (M2 := mX6_stop) (idx := 70) (d2 := d) (ci := 6) (As := [.int _]) (q := 61) (by decide +kernel) kX6_stop lX6_70 rfl rfl (by decide) rfl rfl (by decide +kernel) (Nat.le_of_ble_eq_true rfl) (Nat.le_refl _) hm rfl (fun v30 iv26 rv27 lv28 hq => ?_)
          obtain ⟨hT29, h⟩ := h v30 iv26 rv27 lv28 hq
          exact Z_iret (ty := .boolean) (by decide +kernel) rfl (by rcases h.1 with e | e <;> rw [e] <;> rfl) rfl ⟨_, rfl, h.2⟩
        · replace h := h.2 hc
          refine Z_aload_n (a := 0) (q := 52) (by decide +kernel) rfl rfl ?_
          obtain ⟨Q31, hm, h⟩ := h
          refine Z_callVi (M2 := mX6_readApart) (idx := 95) (d2 := d) (ci := 6) (As := []) (q := 55) (by decide +kernel) kX6_readApart lX6_95 rfl rfl (by decide) rfl rfl (by decide +kernel) (Nat.le_of_ble_eq_true rfl) (Nat.le_refl _) hm rfl (fun v36 iv32 rv33 lv34 hq => ?_)
          obtain ⟨hT35, h⟩ := h v36 iv32 rv33 lv34 hq
          exact Z_iret (ty := .boolean) (by decide +kernel) rfl (by rcases h.1 with e | e <;> rw [e] <;> rfl) rfl ⟨_, rfl, h.2⟩
      · replace h := h.2 hc
        refine Z_aload_n (a := 0) (q := 38) (by decide +kernel) rfl rfl ?_
        obtain ⟨Q37, hm, h⟩ := h
        refine Z_callVi (M2 := mX6_readKeep) (idx := 90) (d2 := d) (ci := 6) (As := []) (q := 41) (by decide +kernel) kX6_readKeep lX6_90 rfl rfl (by decide) rfl rfl (by decide +kernel) (Nat.le_of_ble_eq_true rfl) (Nat.le_refl _) hm rfl (fun v42 iv38 rv39 lv40 hq => ?_)
        obtain ⟨hT41, h⟩ := h v42 iv38 rv39 lv40 hq
        exact Z_iret (ty := .boolean) (by decide +kernel) rfl (by rcases h.1 with e | e <;> rw [e] <;> rfl) rfl ⟨_, rfl, h.2⟩
    · replace h := h.2 hc
      refine Z_aload_n (a := 0) (q := 24) (by decide +kernel) rfl rfl ?_
      obtain ⟨Q43, hm, h⟩ := h
      refine Z_callVi (M2 := mX6_readHeaps) (idx := 85) (d2 := d) (ci := 6) (As := []) (q := 27) (by decide +kernel) kX6_readHeaps lX6_85 rfl rfl (by decide) rfl rfl (by decide +kernel) (Nat.le_of_ble_eq_true rfl) (Nat.le_refl _) hm rfl (fun v48 iv44 rv45 lv46 hq => ?_)
      obtain ⟨hT47, h⟩ := h v48 iv44 rv45 lv46 hq
      exact Z_iret (ty := .boolean) (by decide +kernel) rfl (by rcases h.1 with e | e <;> rw [e] <;> rfl) rfl ⟨_, rfl, h.2⟩
  · replace h := h.2 hc
    refine Z_aload_n (a := 0) (q := 10) (by decide +kernel) rfl rfl ?_
    obtain ⟨Q49, hm, h⟩ := h
    refine Z_callVi (M2 := mX6_readNumbers) (idx := 80) (d2 := d) (ci := 6) (As := []) (q := 13) (by decide +kernel) kX6_readNumbers lX6_80 rfl rfl (by decide) rfl rfl (by decide +kernel) (Nat.le_of_ble_eq_true rfl) (Nat.le_refl _) hm rfl (fun v54 iv50 rv51 lv52 hq => ?_)
    obtain ⟨hT53, h⟩ := h v54 iv50 rv51 lv52 hq
    exact Z_iret (ty := .boolean) (by decide +kernel) rfl (by rcases h.1 with e | e <;> rw [e] <;> rfl) rfl ⟨_, rfl, h.2⟩
theorem eX6_readNumbers {d : Nat}  {iv : zI} {rv : zR} {lv : zJ} {Q : Int32 → zI → zR → zJ → Prop} (h : Zi mX6_readNumbers (d + 1) 0 [some (.ref 1), none] [] iv rv lv Q) : Ci mX6_readNumbers (d + 1) [.ref 1] iv rv lv Q := Ci.of (by decide +kernel) (by simp [Value.category]) (Nat.le_of_ble_eq_true rfl) rfl h
set_option maxRecDepth 4000 in
theorem bX6_readNumbers_0 {d : Nat}  {iv : zI} {rv : zR} {lv : zJ} {Q : Int32 → zI → zR → zJ → Prop} (hT : zTop rv) 
    (h : Zi mX6_readNumbers (d + 1) 2 [some (.ref 1), some (.int (0 : Int32))] [] iv rv lv Q) :
    Zi mX6_readNumbers (d + 1) 0 [some (.ref 1), none] [] iv rv lv Q := by
  unfold Zi
  refine Z_iconst (a := 0) (v := 0) (q := 1) (by decide +kernel) (by decide +kernel) rfl ?_
  refine Z_istore_n (a := 1) (loc2 := [_, _]) (q := 2) (by decide +kernel) (by decide +kernel) rfl rfl rfl ?_
  exact h
set_option maxRecDepth 4000 in
theorem bX6_readNumbers_2 {d : Nat} (x1 : Int32) {iv : zI} {rv : zR} {lv : zJ} {Q : Int32 → zI → zR → zJ → Prop} (hT : zTop rv) 
    (h : ((iv 1 5) < x1 → ∃ Q1 : Int32 → zI → zR → zJ → Prop, Ci mX6_stop d [.ref 1, .int (1 : Int32)] iv rv lv Q1 ∧ ∀ (v6 : Int32) (iv2 : zI) (rv3 : zR) (lv4 : zJ), Q1 v6 iv2 rv3 lv4 → zTop rv3 ∧ ((v6 = 0 ∨ v6 = 1) ∧ Q v6 iv2 rv3 lv4)) ∧ (¬ (iv 1 5) < x1 → ∃ Q7 : zI → zR → zJ → Prop, Cv mX6_nextToken d [.ref 1] iv rv lv Q7 ∧ ∀ (iv8 : zI) (rv9 : zR) (lv10 : zJ), Q7 iv8 rv9 lv10 → zTop rv9 ∧ (∃ Q13 : Int32 → zI → zR → zJ → Prop, Ci mX6_wholeWithin d [.ref 1, .int (1 : Int32), .int (9999 : Int32)] iv8 rv9 lv10 Q13 ∧ ∀ (v18 : Int32) (iv14 : zI) (rv15 : zR) (lv16 : zJ), Q13 v18 iv14 rv15 lv16 → zTop rv15 ∧ ((¬ v18 = 0 → ((iv14 2 0) < (10 : Int32) → ∃ Q19 : zI → zR → zJ → Prop, Cv mX9_append d [.ref 2, .int (iv14 1 8)] iv14 rv15 lv16 Q19 ∧ ∀ (iv20 : zI) (rv21 : zR) (lv22 : zJ), Q19 iv20 rv21 lv22 → zTop rv21 ∧ (∃ Q25 : zI → zR → zJ → Prop, Cv mX6_nextToken d [.ref 1] iv20 rv21 lv22 Q25 ∧ ∀ (iv26 : zI) (rv27 : zR) (lv28 : zJ), Q25 iv26 rv27 lv28 → zTop rv27 ∧ (((iv26 1 7) = (4 : Int32) → Zi mX6_readNumbers (d + 1) 2 [some (.ref 1), some (.int (x1 + 1))] [] iv26 rv27 lv28 Q) ∧ (¬ (iv26 1 7) = (4 : Int32) → Q (1 : Int32) iv26 rv27 lv28)))) ∧ (¬ (iv14 2 0) < (10 : Int32) → ∃ Q31 : Int32 → zI → zR → zJ → Prop, Ci mX6_stop d [.ref 1, .int (4 : Int32)] iv14 rv15 lv16 Q31 ∧ ∀ (v36 : Int32) (iv32 : zI) (rv33 : zR) (lv34 : zJ), Q31 v36 iv32 rv33 lv34 → zTop rv33 ∧ ((v36 = 0 ∨ v36 = 1) ∧ Q v36 iv32 rv33 lv34))) ∧ (v18 = 0 → Q (0 : Int32) iv14 rv15 lv16))))) :
    Zi mX6_readNumbers (d + 1) 2 [some (.ref 1), some (.int x1)] [] iv rv lv Q := by
  unfold Zi
  refine Z_iload_n (a := 1) (q := 3) (by decide +kernel) rfl rfl ?_
  refine Z_aload_n (a := 0) (q := 4) (by decide +kernel) rfl rfl ?_
  refine g6_5 (idx := 32) (q := 7) (by decide +kernel) fX6_32 rfl (by decide) rfl ?_
  refine Z_icmp_gt (t := 76) (off := 69) (q := 10) (by decide +kernel) (by decide) rfl (fun hc => ?_) (fun hc => ?_)
  · replace h := h.1 hc
    refine Z_aload_n (a := 0) (q := 77) (by decide +kernel) rfl rfl ?_
    refine Z_iconst (a := 1) (v := 1) (q := 78) (by decide +kernel) (by decide +kernel) rfl ?_
    obtain ⟨Q1, hm, h⟩ := h
    refine Z_callVi (M2 := mX6_stop) (idx := 70) (d2 := d) (ci := 6) (As := [.int _]) (q := 81) (by decide +kernel) kX6_stop lX6_70 rfl rfl (by decide) rfl rfl (by decide +kernel) (Nat.le_of_ble_eq_true rfl) (Nat.le_refl _) hm rfl (fun v6 iv2 rv3 lv4 hq => ?_)
    obtain ⟨hT5, h⟩ := h v6 iv2 rv3 lv4 hq
    exact Z_iret (ty := .boolean) (by decide +kernel) rfl (by rcases h.1 with e | e <;> rw [e] <;> rfl) rfl ⟨_, rfl, h.2⟩
  · replace h := h.2 hc
    refine Z_aload_n (a := 0) (q := 11) (by decide +kernel) rfl rfl ?_
    obtain ⟨Q7, hm, h⟩ := h
    refine Z_callVv (M2 := mX6_nextToken) (idx := 57) (d2 := d) (ci := 6) (As := []) (q := 14) (by decide +kernel) kX6_nextToken lX6_57 rfl rfl (by decide) rfl rfl (by decide +kernel) (Nat.le_of_ble_eq_true rfl) (Nat.le_refl _) hm rfl (fun iv8 rv9 lv10 hq => ?_)
    obtain ⟨hT11, h⟩ := h iv8 rv9 lv10 hq
    refine Z_aload_n (a := 0) (q := 15) (by decide +kernel) rfl rfl ?_
    refine Z_iconst (a := 1) (v := 1) (q := 16) (by decide +kernel) (by decide +kernel) rfl ?_
    refine Z_sipush (a := 9999) (v := 9999) (q := 19) (by decide +kernel) (by decide +kernel) rfl ?_
    obtain ⟨Q13, hm, h⟩ := h
    refine Z_callVi (M2 := mX6_wholeWithin) (idx := 98) (d2 := d) (ci := 6) (As := [.int _, .int _]) (q := 22) (by decide +kernel) kX6_wholeWithin lX6_98 rfl rfl (by decide) rfl rfl (by decide +kernel) (Nat.le_of_ble_eq_true rfl) (Nat.le_refl _) hm rfl (fun v18 iv14 rv15 lv16 hq => ?_)
    obtain ⟨hT17, h⟩ := h v18 iv14 rv15 lv16 hq
    refine Z_if_ne (t := 27) (off := 5) (q := 25) (by decide +kernel) (by decide) rfl (fun hc => ?_) (fun hc => ?_)
    · replace h := h.1 hc
      refine Z_aload_n (a := 0) (q := 28) (by decide +kernel) rfl rfl ?_
      refine g6_1 (idx := 18) (q := 31) (by decide +kernel) fX6_18 rfl (by decide) (t6_1 hT17) rfl ?_
      refine g9_0 (idx := 67) (q := 34) (by decide +kernel) fX6_67 (hS9_0 (by decide : 2 ∈ zSts)) (hL9_0 (by decide : 2 ∈ zSts)) rfl ?_
      refine Z_bipush (a := 10) (v := 10) (q := 36) (by decide +kernel) (by decide +kernel) rfl ?_
      refine Z_icmp_lt (t := 45) (off := 9) (q := 39) (by decide +kernel) (by decide) rfl (fun hc => ?_) (fun hc => ?_)
      · replace h := h.1 hc
        refine Z_aload_n (a := 0) (q := 46) (by decide +kernel) rfl rfl ?_
        refine g6_1 (idx := 18) (q := 49) (by decide +kernel) fX6_18 rfl (by decide) (t6_1 hT17) rfl ?_
        refine Z_aload_n (a := 0) (q := 50) (by decide +kernel) rfl rfl ?_
        refine g6_8 (idx := 41) (q := 53) (by decide +kernel) fX6_41 rfl (by decide) rfl ?_
        obtain ⟨Q19, hm, h⟩ := h
        refine Z_callVv (M2 := mX9_append) (idx := 102) (d2 := d) (ci := 9) (As := [.int _]) (q := 56) (by decide +kernel) kX9_append lX6_102 rfl (hS9_0 (by decide : 2 ∈ zSts)) (hL9_0 (by decide : 2 ∈ zSts)) rfl rfl (by decide +kernel) (Nat.le_of_ble_eq_true rfl) (Nat.le_refl _) hm rfl (fun iv20 rv21 lv22 hq => ?_)
        obtain ⟨hT23, h⟩ := h iv20 rv21 lv22 hq
        refine Z_aload_n (a := 0) (q := 57) (by decide +kernel) rfl rfl ?_
        obtain ⟨Q25, hm, h⟩ := h
        refine Z_callVv (M2 := mX6_nextToken) (idx := 57) (d2 := d) (ci := 6) (As := []) (q := 60) (by decide +kernel) kX6_nextToken lX6_57 rfl rfl (by decide) rfl rfl (by decide +kernel) (Nat.le_of_ble_eq_true rfl) (Nat.le_refl _) hm rfl (fun iv26 rv27 lv28 hq => ?_)
        obtain ⟨hT29, h⟩ := h iv26 rv27 lv28 hq
        refine Z_aload_n (a := 0) (q := 61) (by decide +kernel) rfl rfl ?_
        refine g6_7 (idx := 38) (q := 64) (by decide +kernel) fX6_38 rfl (by decide) rfl ?_
        refine Z_iconst (a := 4) (v := 4) (q := 65) (by decide +kernel) (by decide +kernel) rfl ?_
        refine Z_icmp_eq (t := 70) (off := 5) (q := 68) (by decide +kernel) (by decide) rfl (fun hc => ?_) (fun hc => ?_)
        · replace h := h.1 hc
          refine Z_iinc (a := 1) (b := 1) (v := _ + 1) (loc2 := [_, _]) (q := 73) (by decide +kernel) rfl (zinc _) (by decide +kernel) rfl rfl rfl ?_
          refine Z_goto (q := 2) (off := -71) (by decide +kernel) (by decide) ?_
          exact h
        · replace h := h.2 hc
          refine Z_iconst (a := 1) (v := 1) (q := 69) (by decide +kernel) (by decide +kernel) rfl ?_
          exact Z_iret (ty := .boolean) (by decide +kernel) rfl rfl rfl ⟨_, rfl, h⟩
      · replace h := h.2 hc
        refine Z_aload_n (a := 0) (q := 40) (by decide +kernel) rfl rfl ?_
        refine Z_iconst (a := 4) (v := 4) (q := 41) (by decide +kernel) (by decide +kernel) rfl ?_
        obtain ⟨Q31, hm, h⟩ := h
        refine Z_callVi (M2 := mX6_stop) (idx := 70) (d2 := d) (ci := 6) (As := [.int _]) (q := 44) (by decide +kernel) kX6_stop lX6_70 rfl rfl (by decide) rfl rfl (by decide +kernel) (Nat.le_of_ble_eq_true rfl) (Nat.le_refl _) hm rfl (fun v36 iv32 rv33 lv34 hq => ?_)
        obtain ⟨hT35, h⟩ := h v36 iv32 rv33 lv34 hq
        exact Z_iret (ty := .boolean) (by decide +kernel) rfl (by rcases h.1 with e | e <;> rw [e] <;> rfl) rfl ⟨_, rfl, h.2⟩
    · replace h := h.2 hc
      refine Z_iconst (a := 0) (v := 0) (q := 26) (by decide +kernel) (by decide +kernel) rfl ?_
      exact Z_iret (ty := .boolean) (by decide +kernel) rfl rfl rfl ⟨_, rfl, h⟩
theorem eX6_readHeaps {d : Nat}  {iv : zI} {rv : zR} {lv : zJ} {Q : Int32 → zI → zR → zJ → Prop} (h : Zi mX6_readHeaps (d + 1) 0 [some (.ref 1)] [] iv rv lv Q) : Ci mX6_readHeaps (d + 1) [.ref 1] iv rv lv Q := Ci.of (by decide +kernel) (by simp [Value.category]) (Nat.le_of_ble_eq_true rfl) rfl h
set_option maxRecDepth 4000 in
theorem bX6_readHeaps_0 {d : Nat}  {iv : zI} {rv : zR} {lv : zJ} {Q : Int32 → zI → zR → zJ → Prop} (hT : zTop rv) 
    (h : ((iv 1 9) = 0 → ∀ iv1 : zI, iv1 = zu iv 1 9 (1 : Int32) → ∃ Q2 : zI → zR → zJ → Prop, Cv mX6_nextToken d [.ref 1] iv1 rv lv Q2 ∧ ∀ (iv3 : zI) (rv4 : zR) (lv5 : zJ), Q2 iv3 rv4 lv5 → zTop rv4 ∧ (∃ Q8 : Int32 → zI → zR → zJ → Prop, Ci mX6_wholeWithin d [.ref 1, .int (2 : Int32), .int (4 : Int32)] iv3 rv4 lv5 Q8 ∧ ∀ (v13 : Int32) (iv9 : zI) (rv10 : zR) (lv11 : zJ), Q8 v13 iv9 rv10 lv11 → zTop rv10 ∧ ((¬ v13 = 0 → ∀ iv14 : zI, iv14 = zu iv9 2 1 (iv9 1 8) → ∃ Q15 : zI → zR → zJ → Prop, Cv mX6_nextToken d [.ref 1] iv14 rv10 lv11 Q15 ∧ ∀ (iv16 : zI) (rv17 : zR) (lv18 : zJ), Q15 iv16 rv17 lv18 → zTop rv17 ∧ (Q (1 : Int32) iv16 rv17 lv18)) ∧ (v13 = 0 → Q (0 : Int32) iv9 rv10 lv11)))) ∧ (¬ (iv 1 9) = 0 → ∃ Q21 : Int32 → zI → zR → zJ → Prop, Ci mX6_stop d [.ref 1, .int (3 : Int32)] iv rv lv Q21 ∧ ∀ (v26 : Int32) (iv22 : zI) (rv23 : zR) (lv24 : zJ), Q21 v26 iv22 rv23 lv24 → zTop rv23 ∧ ((v26 = 0 ∨ v26 = 1) ∧ Q v26 iv22 rv23 lv24))) :
    Zi mX6_readHeaps (d + 1) 0 [some (.ref 1)] [] iv rv lv Q := by
  unfold Zi
  refine Z_aload_n (a := 0) (q := 1) (by decide +kernel) rfl rfl ?_
  refine g6_9 (idx := 44) (q := 4) (by decide +kernel) fX6_44 rfl (by decide) rfl ?_
  refine Z_if_eq (t := 13) (off := 9) (q := 7) (by decide +kernel) (by decide) rfl (fun hc => ?_) (fun hc => ?_)
  · replace h := h.1 hc
    refine Z_aload_n (a := 0) (q := 14) (by decide +kernel) rfl rfl ?_
    refine Z_iconst (a := 1) (v := 1) (q := 15) (by decide +kernel) (by decide +kernel) rfl ?_
    refine p6_9 (idx := 44) (q := 18) (by decide +kernel) fX6_44 rfl (by decide) (by decide) rfl ?_
    replace h := h _ rfl
    refine Z_aload_n (a := 0) (q := 19) (by decide +kernel) rfl rfl ?_
    obtain ⟨Q2, hm, h⟩ := h
    refine Z_callVv (M2 := mX6_nextToken) (idx := 57) (d2 := d) (ci := 6) (As := []) (q := 22) (by decide +kernel) kX6_nextToken lX6_57 rfl rfl (by decide) rfl rfl (by decide +kernel) (Nat.le_of_ble_eq_true rfl) (Nat.le_refl _) hm rfl (fun iv3 rv4 lv5 hq => ?_)
    obtain ⟨hT6, h⟩ := h iv3 rv4 lv5 hq
    refine Z_aload_n (a := 0) (q := 23) (by decide +kernel) rfl rfl ?_
    refine Z_iconst (a := 2) (v := 2) (q := 24) (by decide +kernel) (by decide +kernel) rfl ?_
    refine Z_iconst (a := 4) (v := 4) (q := 25) (by decide +kernel) (by decide +kernel) rfl ?_
    obtain ⟨Q8, hm, h⟩ := h
    refine Z_callVi (M2 := mX6_wholeWithin) (idx := 98) (d2 := d) (ci := 6) (As := [.int _, .int _]) (q := 28) (by decide +kernel) kX6_wholeWithin lX6_98 rfl rfl (by decide) rfl rfl (by decide +kernel) (Nat.le_of_ble_eq_true rfl) (Nat.le_refl _) hm rfl (fun v13 iv9 rv10 lv11 hq => ?_)
    obtain ⟨hT12, h⟩ := h v13 iv9 rv10 lv11 hq
    refine Z_if_ne (t := 33) (off := 5) (q := 31) (by decide +kernel) (by decide) rfl (fun hc => ?_) (fun hc => ?_)
    · replace h := h.1 hc
      refine Z_aload_n (a := 0) (q := 34) (by decide +kernel) rfl rfl ?_
      refine g6_1 (idx := 18) (q := 37) (by decide +kernel) fX6_18 rfl (by decide) (t6_1 hT12) rfl ?_
      refine Z_aload_n (a := 0) (q := 38) (by decide +kernel) rfl rfl ?_
      refine g6_8 (idx := 41) (q := 41) (by decide +kernel) fX6_41 rfl (by decide) rfl ?_
      refine p9_1 (idx := 106) (q := 44) (by decide +kernel) fX6_106 (hS9_0 (by decide : 2 ∈ zSts)) (hL9_0 (by decide : 2 ∈ zSts)) rfl ?_
      replace h := h _ rfl
      refine Z_aload_n (a := 0) (q := 45) (by decide +kernel) rfl rfl ?_
      obtain ⟨Q15, hm, h⟩ := h
      refine Z_callVv (M2 := mX6_nextToken) (idx := 57) (d2 := d) (ci := 6) (As := []) (q := 48) (by decide +kernel) kX6_nextToken lX6_57 rfl rfl (by decide) rfl rfl (by decide +kernel) (Nat.le_of_ble_eq_true rfl) (Nat.le_refl _) hm rfl (fun iv16 rv17 lv18 hq => ?_)
      obtain ⟨hT19, h⟩ := h iv16 rv17 lv18 hq
      refine Z_iconst (a := 1) (v := 1) (q := 49) (by decide +kernel) (by decide +kernel) rfl ?_
      exact Z_iret (ty := .boolean) (by decide +kernel) rfl rfl rfl ⟨_, rfl, h⟩
    · replace h := h.2 hc
      refine Z_iconst (a := 0) (v := 0) (q := 32) (by decide +kernel) (by decide +kernel) rfl ?_
      exact Z_iret (ty := .boolean) (by decide +kernel) rfl rfl rfl ⟨_, rfl, h⟩
  · replace h := h.2 hc
    refine Z_aload_n (a := 0) (q := 8) (by decide +kernel) rfl rfl ?_
    refine Z_iconst (a := 3) (v := 3) (q := 9) (by decide +kernel) (by decide +kernel) rfl ?_
    obtain ⟨Q21, hm, h⟩ := h
    refine Z_callVi (M2 := mX6_stop) (idx := 70) (d2 := d) (ci := 6) (As := [.int _]) (q := 12) (by decide +kernel) kX6_stop lX6_70 rfl rfl (by decide) rfl rfl (by decide +kernel) (Nat.le_of_ble_eq_true rfl) (Nat.le_refl _) hm rfl (fun v26 iv22 rv23 lv24 hq => ?_)
    obtain ⟨hT25, h⟩ := h v26 iv22 rv23 lv24 hq
    exact Z_iret (ty := .boolean) (by decide +kernel) rfl (by rcases h.1 with e | e <;> rw [e] <;> rfl) rfl ⟨_, rfl, h.2⟩
theorem eX6_readKeep {d : Nat}  {iv : zI} {rv : zR} {lv : zJ} {Q : Int32 → zI → zR → zJ → Prop} (h : Zi mX6_readKeep (d + 1) 0 [some (.ref 1), none] [] iv rv lv Q) : Ci mX6_readKeep (d + 1) [.ref 1] iv rv lv Q := Ci.of (by decide +kernel) (by simp [Value.category]) (Nat.le_of_ble_eq_true rfl) rfl h
set_option maxRecDepth 4000 in
theorem bX6_readKeep_0 {d : Nat}  {iv : zI} {rv : zR} {lv : zJ} {Q : Int32 → zI → zR → zJ → Prop} (hT : zTop rv) 
    (h : ∃ Q1 : zI → zR → zJ → Prop, Cv mX6_nextToken d [.ref 1] iv rv lv Q1 ∧ ∀ (iv2 : zI) (rv3 : zR) (lv4 : zJ), Q1 iv2 rv3 lv4 → zTop rv3 ∧ (∃ Q7 : Int32 → zI → zR → zJ → Prop, Ci mX6_wholeWithin d [.ref 1, .int (0 : Int32), .int ((iv2 2 0) - (1 : Int32))] iv2 rv3 lv4 Q7 ∧ ∀ (v12 : Int32) (iv8 : zI) (rv9 : zR) (lv10 : zJ), Q7 v12 iv8 rv9 lv10 → zTop rv9 ∧ ((¬ v12 = 0 → vp_in (iv8 1 8) 10 ∧ (((iv8 (2 + 2) (iv8 1 8).toNatClampNeg) = (-2 : Int32) → ∃ Q14 : zI → zR → zJ → Prop, Cv mX6_nextToken d [.ref 1] iv8 rv9 lv10 Q14 ∧ ∀ (iv15 : zI) (rv16 : zR) (lv17 : zJ), Q14 iv15 rv16 lv17 → zTop rv16 ∧ (∃ Q20 : Int32 → zI → zR → zJ → Prop, Ci mX6_isWord d [.ref 1, .ref 1000003] iv15 rv16 lv17 Q20 ∧ ∀ (v25 : Int32) (iv21 : zI) (rv22 : zR) (lv23 : zJ), Q20 v25 iv21 rv22 lv23 → zTop rv22 ∧ ((¬ v25 = 0 → ∃ Q26 : zI → zR → zJ → Prop, Cv mX6_nextToken d [.ref 1] iv21 rv22 lv23 Q26 ∧ ∀ (iv27 : zI) (rv28 : zR) (lv29 : zJ), Q26 iv27 rv28 lv29 → zTop rv28 ∧ (∃ Q32 : Int32 → zI → zR → zJ → Prop, Ci mX6_wholeWithin d [.ref 1, .int (0 : Int32), .int (3 : Int32)] iv27 rv28 lv29 Q32 ∧ ∀ (v37 : Int32) (iv33 : zI) (rv34 : zR) (lv35 : zJ), Q32 v37 iv33 rv34 lv35 → zTop rv34 ∧ ((¬ v37 = 0 → ∀ iv38 : zI, iv38 = zu iv33 (2 + 2) (iv8 1 8).toNatClampNeg (iv33 1 8) → ∃ Q39 : zI → zR → zJ → Prop, Cv mX6_nextToken d [.ref 1] iv38 rv34 lv35 Q39 ∧ ∀ (iv40 : zI) (rv41 : zR) (lv42 : zJ), Q39 iv40 rv41 lv42 → zTop rv41 ∧ (Q (1 : Int32) iv40 rv41 lv42)) ∧ (v37 = 0 → Q (0 : Int32) iv33 rv34 lv35)))) ∧ (v25 = 0 → ∃ Q45 : Int32 → zI → zR → zJ → Prop, Ci mX6_stop d [.ref 1, .int (1 : Int32)] iv21 rv22 lv23 Q45 ∧ ∀ (v50 : Int32) (iv46 : zI) (rv47 : zR) (lv48 : zJ), Q45 v50 iv46 rv47 lv48 → zTop rv47 ∧ ((v50 = 0 ∨ v50 = 1) ∧ Q v50 iv46 rv47 lv48))))) ∧ (¬ (iv8 (2 + 2) (iv8 1 8).toNatClampNeg) = (-2 : Int32) → ∃ Q51 : Int32 → zI → zR → zJ → Prop, Ci mX6_stop d [.ref 1, .int (3 : Int32)] iv8 rv9 lv10 Q51 ∧ ∀ (v56 : Int32) (iv52 : zI) (rv53 : zR) (lv54 : zJ), Q51 v56 iv52 rv53 lv54 → zTop rv53 ∧ ((v56 = 0 ∨ v56 = 1) ∧ Q v56 iv52 rv53 lv54)))) ∧ (v12 = 0 → Q (0 : Int32) iv8 rv9 lv10)))) :
    Zi mX6_readKeep (d + 1) 0 [some (.ref 1), none] [] iv rv lv Q := by
  unfold Zi
  refine Z_aload_n (a := 0) (q := 1) (by decide +kernel) rfl rfl ?_
  obtain ⟨Q1, hm, h⟩ := h
  refine Z_callVv (M2 := mX6_nextToken) (idx := 57) (d2 := d) (ci := 6) (As := []) (q := 4) (by decide +kernel) kX6_nextToken lX6_57 rfl rfl (by decide) rfl rfl (by decide +kernel) (Nat.le_of_ble_eq_true rfl) (Nat.le_refl _) hm rfl (fun iv2 rv3 lv4 hq => ?_)
  obtain ⟨hT5, h⟩ := h iv2 rv3 lv4 hq
  refine Z_aload_n (a := 0) (q := 5) (by decide +kernel) rfl rfl ?_
  refine Z_iconst (a := 0) (v := 0) (q := 6) (by decide +kernel) (by decide +kernel) rfl ?_
  refine Z_aload_n (a := 0) (q := 7) (by decide +kernel) rfl rfl ?_
  refine g6_1 (idx := 18) (q := 10) (by decide +kernel) fX6_18 rfl (by decide) (t6_1 hT5) rfl ?_
  refine g9_0 (idx := 67) (q := 13) (by decide +kernel) fX6_67 (hS9_0 (by decide : 2 ∈ zSts)) (hL9_0 (by decide : 2 ∈ zSts)) rfl ?_
  refine Z_iconst (a := 1) (v := 1) (q := 14) (by decide +kernel) (by decide +kernel) rfl ?_
  refine Z_isub (q := 15) (by decide +kernel) rfl ?_
  obtain ⟨Q7, hm, h⟩ := h
  refine Z_callVi (M2 := mX6_wholeWithin) (idx := 98) (d2 := d) (ci := 6) (As := [.int _, .int _]) (q := 18) (by decide +kernel) kX6_wholeWithin lX6_98 rfl rfl (by decide) rfl rfl (by decide +kernel) (Nat.le_of_ble_eq_true rfl) (Nat.le_refl _) hm rfl (fun v12 iv8 rv9 lv10 hq => ?_)
  obtain ⟨hT11, h⟩ := h v12 iv8 rv9 lv10 hq
  refine Z_if_ne (t := 23) (off := 5) (q := 21) (by decide +kernel) (by decide) rfl (fun hc => ?_) (fun hc => ?_)
  · replace h := h.1 hc
    refine Z_aload_n (a := 0) (q := 24) (by decide +kernel) rfl rfl ?_
    refine g6_8 (idx := 41) (q := 27) (by decide +kernel) fX6_41 rfl (by decide) rfl ?_
    refine Z_istore_n (a := 1) (loc2 := [_, _]) (q := 28) (by decide +kernel) (by decide +kernel) rfl rfl rfl ?_
    refine Z_aload_n (a := 0) (q := 29) (by decide +kernel) rfl rfl ?_
    refine g6_1 (idx := 18) (q := 32) (by decide +kernel) fX6_18 rfl (by decide) (t6_1 hT11) rfl ?_
    refine g9_3 (idx := 109) (q := 35) (by decide +kernel) fX6_109 (hS9_0 (by decide : 2 ∈ zSts)) (hL9_0 (by decide : 2 ∈ zSts)) (t9_3 hT11 (by decide : 2 ∈ zSts)) rfl ?_
    refine Z_iload_n (a := 1) (q := 36) (by decide +kernel) rfl rfl ?_
    obtain ⟨hin13, h⟩ := h
    refine Z_iald (len := 10) (q := 37) (by decide +kernel) (hS9_2 (by decide : 2 ∈ zSts)) (hL9_2 (by decide : 2 ∈ zSts)) hin13 rfl ?_
    refine Z_bipush (a := -2) (v := -2) (q := 39) (by decide +kernel) (by decide +kernel) rfl ?_
    refine Z_icmp_eq (t := 48) (off := 9) (q := 42) (by decide +kernel) (by decide) rfl (fun hc => ?_) (fun hc => ?_)
    · replace h := h.1 hc
      refine Z_aload_n (a := 0) (q := 49) (by decide +kernel) rfl rfl ?_
      obtain ⟨Q14, hm, h⟩ := h
      refine Z_callVv (M2 := mX6_nextToken) (idx := 57) (d2 := d) (ci := 6) (As := []) (q := 52) (by decide +kernel) kX6_nextToken lX6_57 rfl rfl (by decide) rfl rfl (by decide +kernel) (Nat.le_of_ble_eq_true rfl) (Nat.le_refl _) hm rfl (fun iv15 rv16 lv17 hq => ?_)
      obtain ⟨hT18, h⟩ := h iv15 rv16 lv17 hq
      refine Z_aload_n (a := 0) (q := 53) (by decide +kernel) rfl rfl ?_
      refine Z_ldcS (a := 1000003) (tx := "in") (q := 55) (by decide +kernel) (fun _ _ _ _ _ h => h.2.1.2.2.2.1) (by decide) rfl ?_
      obtain ⟨Q20, hm, h⟩ := h
      refine Z_callVi (M2 := mX6_isWord) (idx := 76) (d2 := d) (ci := 6) (As := [.ref _]) (q := 58) (by decide +kernel) kX6_isWord lX6_76 rfl rfl (by decide) rfl rfl (by decide +kernel) (Nat.le_of_ble_eq_true rfl) (Nat.le_refl _) hm rfl (fun v25 iv21 rv22 lv23 hq => ?_)
      obtain ⟨hT24, h⟩ := h v25 iv21 rv22 lv23 hq
      refine Z_if_ne (t := 67) (off := 9) (q := 61) (by decide +kernel) (by decide) rfl (fun hc => ?_) (fun hc => ?_)
      · replace h := h.1 hc
        refine Z_aload_n (a := 0) (q := 68) (by decide +kernel) rfl rfl ?_
        obtain ⟨Q26, hm, h⟩ := h
        refine Z_callVv (M2 := mX6_nextToken) (idx := 57) (d2 := d) (ci := 6) (As := []) (q := 71) (by decide +kernel) kX6_nextToken lX6_57 rfl rfl (by decide) rfl rfl (by decide +kernel) (Nat.le_of_ble_eq_true rfl) (Nat.le_refl _) hm rfl (fun iv27 rv28 lv29 hq => ?_)
        obtain ⟨hT30, h⟩ := h iv27 rv28 lv29 hq
        refine Z_aload_n (a := 0) (q := 72) (by decide +kernel) rfl rfl ?_
        refine Z_iconst (a := 0) (v := 0) (q := 73) (by decide +kernel) (by decide +kernel) rfl ?_
        refine Z_iconst (a := 3) (v := 3) (q := 74) (by decide +kernel) (by decide +kernel) rfl ?_
        obtain ⟨Q32, hm, h⟩ := h
        refine Z_callVi (M2 := mX6_wholeWithin) (idx := 98) (d2 := d) (ci := 6) (As := [.int _, .int _]) (q := 77) (by decide +kernel) kX6_wholeWithin lX6_98 rfl rfl (by decide) rfl rfl (by decide +kernel) (Nat.le_of_ble_eq_true rfl) (Nat.le_refl _) hm rfl (fun v37 iv33 rv34 lv35 hq => ?_)
        obtain ⟨hT36, h⟩ := h v37 iv33 rv34 lv35 hq
        refine Z_if_ne (t := 82) (off := 5) (q := 80) (by decide +kernel) (by decide) rfl (fun hc => ?_) (fun hc => ?_)
        · replace h := h.1 hc
          refine Z_aload_n (a := 0) (q := 83) (by decide +kernel) rfl rfl ?_
          refine g6_1 (idx := 18) (q := 86) (by decide +kernel) fX6_18 rfl (by decide) (t6_1 hT36) rfl ?_
          refine g9_3 (idx := 109) (q := 89) (by decide +kernel) fX6_109 (hS9_0 (by decide : 2 ∈ zSts)) (hL9_0 (by decide : 2 ∈ zSts)) (t9_3 hT36 (by decide : 2 ∈ zSts)) rfl ?_
          refine Z_iload_n (a := 1) (q := 90) (by decide +kernel) rfl rfl ?_
          refine Z_aload_n (a := 0) (q := 91) (by decide +kernel) rfl rfl ?_
          refine g6_8 (idx := 41) (q := 94) (by decide +kernel) fX6_41 rfl (by decide) rfl ?_
          refine Z_iast (len := 10) (q := 95) (by decide +kernel) (hS9_2 (by decide : 2 ∈ zSts)) (hL9_2 (by decide : 2 ∈ zSts)) hin13 rfl ?_
          replace h := h _ rfl
          refine Z_aload_n (a := 0) (q := 96) (by decide +kernel) rfl rfl ?_
          obtain ⟨Q39, hm, h⟩ := h
          refine Z_callVv (M2 := mX6_nextToken) (idx := 57) (d2 := d) (ci := 6) (As := []) (q := 99) (by decide +kernel) kX6_nextToken lX6_57 rfl rfl (by decide) rfl rfl (by decide +kernel) (Nat.le_of_ble_eq_true rfl) (Nat.le_refl _) hm rfl (fun iv40 rv41 lv42 hq => ?_)
          obtain ⟨hT43, h⟩ := h iv40 rv41 lv42 hq
          refine Z_iconst (a := 1) (v := 1) (q := 100) (by decide +kernel) (by decide +kernel) rfl ?_
          exact Z_iret (ty := .boolean) (by decide +kernel) rfl rfl rfl ⟨_, rfl, h⟩
        · replace h := h.2 hc
          refine Z_iconst (a := 0) (v := 0) (q := 81) (by decide +kernel) (by decide +kernel) rfl ?_
          exact Z_iret (ty := .boolean) (by decide +kernel) rfl rfl rfl ⟨_, rfl, h⟩
      · replace h := h.2 hc
        refine Z_aload_n (a := 0) (q := 62) (by decide +kernel) rfl rfl ?_
        refine Z_iconst (a := 1) (v := 1) (q := 63) (by decide +kernel) (by decide +kernel) rfl ?_
        obtain ⟨Q45, hm, h⟩ := h
        refine Z_callVi (M2 := mX6_stop) (idx := 70) (d2 := d) (ci := 6) (As := [.int _]) (q := 66) (by decide +kernel) kX6_stop lX6_70 rfl rfl (by decide) rfl rfl (by decide +kernel) (Nat.le_of_ble_eq_true rfl) (Nat.le_refl _) hm rfl (fun v50 iv46 rv47 lv48 hq => ?_)
        obtain ⟨hT49, h⟩ := h v50 iv46 rv47 lv48 hq
        exact Z_iret (ty := .boolean) (by decide +kernel) rfl (by rcases h.1 with e | e <;> rw [e] <;> rfl) rfl ⟨_, rfl, h.2⟩
    · replace h := h.2 hc
      refine Z_aload_n (a := 0) (q := 43) (by decide +kernel) rfl rfl ?_
      refine Z_iconst (a := 3) (v := 3) (q := 44) (by decide +kernel) (by decide +kernel) rfl ?_
      obtain ⟨Q51, hm, h⟩ := h
      refine Z_callVi (M2 := mX6_stop) (idx := 70) (d2 := d) (ci := 6) (As := [.int _]) (q := 47) (by decide +kernel) kX6_stop lX6_70 rfl rfl (by decide) rfl rfl (by decide +kernel) (Nat.le_of_ble_eq_true rfl) (Nat.le_refl _) hm rfl (fun v56 iv52 rv53 lv54 hq => ?_)
      obtain ⟨hT55, h⟩ := h v56 iv52 rv53 lv54 hq
      exact Z_iret (ty := .boolean) (by decide +kernel) rfl (by rcases h.1 with e | e <;> rw [e] <;> rfl) rfl ⟨_, rfl, h.2⟩
  · replace h := h.2 hc
    refine Z_iconst (a := 0) (v := 0) (q := 22) (by decide +kernel) (by decide +kernel) rfl ?_
    exact Z_iret (ty := .boolean) (by decide +kernel) rfl rfl rfl ⟨_, rfl, h⟩
theorem eX6_readApart {d : Nat}  {iv : zI} {rv : zR} {lv : zJ} {Q : Int32 → zI → zR → zJ → Prop} (h : Zi mX6_readApart (d + 1) 0 [some (.ref 1), none] [] iv rv lv Q) : Ci mX6_readApart (d + 1) [.ref 1] iv rv lv Q := Ci.of (by decide +kernel) (by simp [Value.category]) (Nat.le_of_ble_eq_true rfl) rfl h
set_option maxRecDepth 4000 in
theorem bX6_readApart_0 {d : Nat}  {iv : zI} {rv : zR} {lv : zJ} {Q : Int32 → zI → zR → zJ → Prop} (hT : zTop rv) 
    (h : ∃ Q1 : Int32 → zI → zR → zJ → Prop, Ci mX9_pairs d [.ref 2] iv rv lv Q1 ∧ ∀ (v6 : Int32) (iv2 : zI) (rv3 : zR) (lv4 : zJ), Q1 v6 iv2 rv3 lv4 → zTop rv3 ∧ ((v6 < (6 : Int32) → ∃ Q7 : zI → zR → zJ → Prop, Cv mX6_nextToken d [.ref 1] iv2 rv3 lv4 Q7 ∧ ∀ (iv8 : zI) (rv9 : zR) (lv10 : zJ), Q7 iv8 rv9 lv10 → zTop rv9 ∧ (∃ Q13 : Int32 → zI → zR → zJ → Prop, Ci mX6_wholeWithin d [.ref 1, .int (0 : Int32), .int ((iv8 2 0) - (1 : Int32))] iv8 rv9 lv10 Q13 ∧ ∀ (v18 : Int32) (iv14 : zI) (rv15 : zR) (lv16 : zJ), Q13 v18 iv14 rv15 lv16 → zTop rv15 ∧ ((¬ v18 = 0 → ∃ Q19 : zI → zR → zJ → Prop, Cv mX6_nextToken d [.ref 1] iv14 rv15 lv16 Q19 ∧ ∀ (iv20 : zI) (rv21 : zR) (lv22 : zJ), Q19 iv20 rv21 lv22 → zTop rv21 ∧ (∃ Q25 : Int32 → zI → zR → zJ → Prop, Ci mX6_wholeWithin d [.ref 1, .int (0 : Int32), .int ((iv20 2 0) - (1 : Int32))] iv20 rv21 lv22 Q25 ∧ ∀ (v30 : Int32) (iv26 : zI) (rv27 : zR) (lv28 : zJ), Q25 v30 iv26 rv27 lv28 → zTop rv27 ∧ ((¬ v30 = 0 → ((iv26 1 8) = (iv14 1 8) → ∃ Q31 : Int32 → zI → zR → zJ → Prop, Ci mX6_stop d [.ref 1, .int (3 : Int32)] iv26 rv27 lv28 Q31 ∧ ∀ (v36 : Int32) (iv32 : zI) (rv33 : zR) (lv34 : zJ), Q31 v36 iv32 rv33 lv34 → zTop rv33 ∧ ((v36 = 0 ∨ v36 = 1) ∧ Q v36 iv32 rv33 lv34)) ∧ (¬ (iv26 1 8) = (iv14 1 8) → ∃ Q37 : Int32 → zI → zR → zJ → Prop, Ci mX9_areApart d [.ref 2, .int (iv14 1 8), .int (iv26 1 8)] iv26 rv27 lv28 Q37 ∧ ∀ (v42 : Int32) (iv38 : zI) (rv39 : zR) (lv40 : zJ), Q37 v42 iv38 rv39 lv40 → zTop rv39 ∧ ((v42 = 0 → ∃ Q43 : zI → zR → zJ → Prop, Cv mX9_toggleApart d [.ref 2, .int (iv14 1 8), .int (iv38 1 8)] iv38 rv39 lv40 Q43 ∧ ∀ (iv44 : zI) (rv45 : zR) (lv46 : zJ), Q43 iv44 rv45 lv46 → zTop rv45 ∧ (∃ Q49 : zI → zR → zJ → Prop, Cv mX6_nextToken d [.ref 1] iv44 rv45 lv46 Q49 ∧ ∀ (iv50 : zI) (rv51 : zR) (lv52 : zJ), Q49 iv50 rv51 lv52 → zTop rv51 ∧ (Q (1 : Int32) iv50 rv51 lv52))) ∧ (¬ v42 = 0 → ∃ Q55 : Int32 → zI → zR → zJ → Prop, Ci mX6_stop d [.ref 1, .int (3 : Int32)] iv38 rv39 lv40 Q55 ∧ ∀ (v60 : Int32) (iv56 : zI) (rv57 : zR) (lv58 : zJ), Q55 v60 iv56 rv57 lv58 → zTop rv57 ∧ ((v60 = 0 ∨ v60 = 1) ∧ Q v60 iv56 rv57 lv58))))) ∧ (v30 = 0 → Q (0 : Int32) iv26 rv27 lv28)))) ∧ (v18 = 0 → Q (0 : Int32) iv14 rv15 lv16)))) ∧ (¬ v6 < (6 : Int32) → ∃ Q61 : Int32 → zI → zR → zJ → Prop, Ci mX6_stop d [.ref 1, .int (4 : Int32)] iv2 rv3 lv4 Q61 ∧ ∀ (v66 : Int32) (iv62 : zI) (rv63 : zR) (lv64 : zJ), Q61 v66 iv62 rv63 lv64 → zTop rv63 ∧ ((v66 = 0 ∨ v66 = 1) ∧ Q v66 iv62 rv63 lv64)))) :
    Zi mX6_readApart (d + 1) 0 [some (.ref 1), none] [] iv rv lv Q := by
  unfold Zi
  refine Z_aload_n (a := 0) (q := 1) (by decide +kernel) rfl rfl ?_
  refine g6_1 (idx := 18) (q := 4) (by decide +kernel) fX6_18 rfl (by decide) (t6_1 hT) rfl ?_
  obtain ⟨Q1, hm, h⟩ := h
  refine Z_callVi (M2 := mX9_pairs) (idx := 115) (d2 := d) (ci := 9) (As := []) (q := 7) (by decide +kernel) kX9_pairs lX6_115 rfl (hS9_0 (by decide : 2 ∈ zSts)) (hL9_0 (by decide : 2 ∈ zSts)) rfl rfl (by decide +kernel) (Nat.le_of_ble_eq_true rfl) (Nat.le_refl _) hm rfl (fun v6 iv2 rv3 lv4 hq => ?_)
  obtain ⟨hT5, h⟩ := h v6 iv2 rv3 lv4 hq
  refine Z_bipush (a := 6) (v := 6) (q := 9) (by decide +kernel) (by decide +kernel) rfl ?_
  refine Z_icmp_lt (t := 18) (off := 9) (q := 12) (by decide +kernel) (by decide) rfl (fun hc => ?_) (fun hc => ?_)
  · replace h := h.1 hc
    refine Z_aload_n (a := 0) (q := 19) (by decide +kernel) rfl rfl ?_
    obtain ⟨Q7, hm, h⟩ := h
    refine Z_callVv (M2 := mX6_nextToken) (idx := 57) (d2 := d) (ci := 6) (As := []) (q := 22) (by decide +kernel) kX6_nextToken lX6_57 rfl rfl (by decide) rfl rfl (by decide +kernel) (Nat.le_of_ble_eq_true rfl) (Nat.le_refl _) hm rfl (fun iv8 rv9 lv10 hq => ?_)
    obtain ⟨hT11, h⟩ := h iv8 rv9 lv10 hq
    refine Z_aload_n (a := 0) (q := 23) (by decide +kernel) rfl rfl ?_
    refine Z_iconst (a := 0) (v := 0) (q := 24) (by decide +kernel) (by decide +kernel) rfl ?_
    refine Z_aload_n (a := 0) (q := 25) (by decide +kernel) rfl rfl ?_
    refine g6_1 (idx := 18) (q := 28) (by decide +kernel) fX6_18 rfl (by decide) (t6_1 hT11) rfl ?_
    refine g9_0 (idx := 67) (q := 31) (by decide +kernel) fX6_67 (hS9_0 (by decide : 2 ∈ zSts)) (hL9_0 (by decide : 2 ∈ zSts)) rfl ?_
    refine Z_iconst (a := 1) (v := 1) (q := 32) (by decide +kernel) (by decide +kernel) rfl ?_
    refine Z_isub (q := 33) (by decide +kernel) rfl ?_
    obtain ⟨Q13, hm, h⟩ := h
    refine Z_callVi (M2 := mX6_wholeWithin) (idx := 98) (d2 := d) (ci := 6) (As := [.int _, .int _]) (q := 36) (by decide +kernel) kX6_wholeWithin lX6_98 rfl rfl (by decide) rfl rfl (by decide +kernel) (Nat.le_of_ble_eq_true rfl) (Nat.le_refl _) hm rfl (fun v18 iv14 rv15 lv16 hq => ?_)
    obtain ⟨hT17, h⟩ := h v18 iv14 rv15 lv16 hq
    refine Z_if_ne (t := 41) (off := 5) (q := 39) (by decide +kernel) (by decide) rfl (fun hc => ?_) (fun hc => ?_)
    · replace h := h.1 hc
      refine Z_aload_n (a := 0) (q := 42) (by decide +kernel) rfl rfl ?_
      refine g6_8 (idx := 41) (q := 45) (by decide +kernel) fX6_41 rfl (by decide) rfl ?_
      refine Z_istore_n (a := 1) (loc2 := [_, _]) (q := 46) (by decide +kernel) (by decide +kernel) rfl rfl rfl ?_
      refine Z_aload_n (a := 0) (q := 47) (by decide +kernel) rfl rfl ?_
      obtain ⟨Q19, hm, h⟩ := h
      refine Z_callVv (M2 := mX6_nextToken) (idx := 57) (d2 := d) (ci := 6) (As := []) (q := 50) (by decide +kernel) kX6_nextToken lX6_57 rfl rfl (by decide) rfl rfl (by decide +kernel) (Nat.le_of_ble_eq_true rfl) (Nat.le_refl _) hm rfl (fun iv20 rv21 lv22 hq => ?_)
      obtain ⟨hT23, h⟩ := h iv20 rv21 lv22 hq
      refine Z_aload_n (a := 0) (q := 51) (by decide +kernel) rfl rfl ?_
      refine Z_iconst (a := 0) (v := 0) (q := 52) (by decide +kernel) (by decide +kernel) rfl ?_
      refine Z_aload_n (a := 0) (q := 53) (by decide +kernel) rfl rfl ?_
      refine g6_1 (idx := 18) (q := 56) (by decide +kernel) fX6_18 rfl (by decide) (t6_1 hT23) rfl ?_
      refine g9_0 (idx := 67) (q := 59) (by decide +kernel) fX6_67 (hS9_0 (by decide : 2 ∈ zSts)) (hL9_0 (by decide : 2 ∈ zSts)) rfl ?_
      refine Z_iconst (a := 1) (v := 1) (q := 60) (by decide +kernel) (by decide +kernel) rfl ?_
      refine Z_isub (q := 61) (by decide +kernel) rfl ?_
      obtain ⟨Q25, hm, h⟩ := h
      refine Z_callVi (M2 := mX6_wholeWithin) (idx := 98) (d2 := d) (ci := 6) (As := [.int _, .int _]) (q := 64) (by decide +kernel) kX6_wholeWithin lX6_98 rfl rfl (by decide) rfl rfl (by decide +kernel) (Nat.le_of_ble_eq_true rfl) (Nat.le_refl _) hm rfl (fun v30 iv26 rv27 lv28 hq => ?_)
      obtain ⟨hT29, h⟩ := h v30 iv26 rv27 lv28 hq
      refine Z_if_ne (t := 69) (off := 5) (q := 67) (by decide +kernel) (by decide) rfl (fun hc => ?_) (fun hc => ?_)
      · replace h := h.1 hc
        refine Z_aload_n (a := 0) (q := 70) (by decide +kernel) rfl rfl ?_
        refine g6_8 (idx := 41) (q := 73) (by decide +kernel) fX6_41 rfl (by decide) rfl ?_
        refine Z_iload_n (a := 1) (q := 74) (by decide +kernel) rfl rfl ?_
        refine Z_icmp_eq (t := 92) (off := 18) (q := 77) (by decide +kernel) (by decide) rfl (fun hc => ?_) (fun hc => ?_)
        · replace h := h.1 hc
          refine Z_aload_n (a := 0) (q := 93) (by decide +kernel) rfl rfl ?_
          refine Z_iconst (a := 3) (v := 3) (q := 94) (by decide +kernel) (by decide +kernel) rfl ?_
          obtain ⟨Q31, hm, h⟩ := h
          refine Z_callVi (M2 := mX6_stop) (idx := 70) (d2 := d) (ci := 6) (As := [.int _]) (q := 97) (by decide +kernel) kX6_stop lX6_70 rfl rfl (by decide) rfl rfl (by decide +kernel) (Nat.le_of_ble_eq_true rfl) (Nat.le_refl _) hm rfl (fun v36 iv32 rv33 lv34 hq => ?_)
          obtain ⟨hT35, h⟩ := h v36 iv32 rv33 lv34 hq
          exact Z_iret (ty := .boolean) (by decide +kernel) rfl (by rcases h.1 with e | e <;> rw [e] <;> rfl) rfl ⟨_, rfl, h.2⟩
        · replace h := h.2 hc
          refine Z_aload_n (a := 0) (q := 78) (by decide +kernel) rfl rfl ?_
          refine g6_1 (idx := 18) (q := 81) (by decide +kernel) fX6_18 rfl (by decide) (t6_1 hT29) rfl ?_
          refine Z_iload_n (a := 1) (q := 82) (by decide +kernel) rfl rfl ?_
          refine Z_aload_n (a := 0) (q := 83) (by decide +kernel) rfl rfl ?_
          refine g6_8 (idx := 41) (q := 86) (by decide +kernel) fX6_41 rfl (by decide) rfl ?_
          obtain ⟨Q37, hm, h⟩ := h
          refine Z_callVi (M2 := mX9_areApart) (idx := 119) (d2 := d) (ci := 9) (As := [.int _, .int _]) (q := 89) (by decide +kernel) kX9_areApart lX6_119 rfl (hS9_0 (by decide : 2 ∈ zSts)) (hL9_0 (by decide : 2 ∈ zSts)) rfl rfl (by decide +kernel) (Nat.le_of_ble_eq_true rfl) (Nat.le_refl _) hm rfl (fun v42 iv38 rv39 lv40 hq => ?_)
          obtain ⟨hT41, h⟩ := h v42 iv38 rv39 lv40 hq
          refine Z_if_eq (t := 98) (off := 9) (q := 92) (by decide +kernel) (by decide) rfl (fun hc => ?_) (fun hc => ?_)
          · replace h := h.1 hc
            refine Z_aload_n (a := 0) (q := 99) (by decide +kernel) rfl rfl ?_
            refine g6_1 (idx := 18) (q := 102) (by decide +kernel) fX6_18 rfl (by decide) (t6_1 hT41) rfl ?_
            refine Z_iload_n (a := 1) (q := 103) (by decide +kernel) rfl rfl ?_
            refine Z_aload_n (a := 0) (q := 104) (by decide +kernel) rfl rfl ?_
            refine g6_8 (idx := 41) (q := 107) (by decide +kernel) fX6_41 rfl (by decide) rfl ?_
            obtain ⟨Q43, hm, h⟩ := h
            refine Z_callVv (M2 := mX9_toggleApart) (idx := 122) (d2 := d) (ci := 9) (As := [.int _, .int _]) (q := 110) (by decide +kernel) kX9_toggleApart lX6_122 rfl (hS9_0 (by decide : 2 ∈ zSts)) (hL9_0 (by decide : 2 ∈ zSts)) rfl rfl (by decide +kernel) (Nat.le_of_ble_eq_true rfl) (Nat.le_refl _) hm rfl (fun iv44 rv45 lv46 hq => ?_)
            obtain ⟨hT47, h⟩ := h iv44 rv45 lv46 hq
            refine Z_aload_n (a := 0) (q := 111) (by decide +kernel) rfl rfl ?_
            obtain ⟨Q49, hm, h⟩ := h
            refine Z_callVv (M2 := mX6_nextToken) (idx := 57) (d2 := d) (ci := 6) (As := []) (q := 114) (by decide +kernel) kX6_nextToken lX6_57 rfl rfl (by decide) rfl rfl (by decide +kernel) (Nat.le_of_ble_eq_true rfl) (Nat.le_refl _) hm rfl (fun iv50 rv51 lv52 hq => ?_)
            obtain ⟨hT53, h⟩ := h iv50 rv51 lv52 hq
            refine Z_iconst (a := 1) (v := 1) (q := 115) (by decide +kernel) (by decide +kernel) rfl ?_
            exact Z_iret (ty := .boolean) (by decide +kernel) rfl rfl rfl ⟨_, rfl, h⟩
          · replace h := h.2 hc
            refine Z_aload_n (a := 0) (q := 93) (by decide +kernel) rfl rfl ?_
            refine Z_iconst (a := 3) (v := 3) (q := 94) (by decide +kernel) (by decide +kernel) rfl ?_
            obtain ⟨Q55, hm, h⟩ := h
            refine Z_callVi (M2 := mX6_stop) (idx := 70) (d2 := d) (ci := 6) (As := [.int _]) (q := 97) (by decide +kernel) kX6_stop lX6_70 rfl rfl (by decide) rfl rfl (by decide +kernel) (Nat.le_of_ble_eq_true rfl) (Nat.le_refl _) hm rfl (fun v60 iv56 rv57 lv58 hq => ?_)
            obtain ⟨hT59, h⟩ := h v60 iv56 rv57 lv58 hq
            exact Z_iret (ty := .boolean) (by decide +kernel) rfl (by rcases h.1 with e | e <;> rw [e] <;> rfl) rfl ⟨_, rfl, h.2⟩
      · replace h := h.2 hc
        refine Z_iconst (a := 0) (v := 0) (q := 68) (by decide +kernel) (by decide +kernel) rfl ?_
        exact Z_iret (ty := .boolean) (by decide +kernel) rfl rfl rfl ⟨_, rfl, h⟩
    · replace h := h.2 hc
      refine Z_iconst (a := 0) (v := 0) (q := 40) (by decide +kernel) (by decide +kernel) rfl ?_
      exact Z_iret (ty := .boolean) (by decide +kernel) rfl rfl rfl ⟨_, rfl, h⟩
  · replace h := h.2 hc
    refine Z_aload_n (a := 0) (q := 13) (by decide +kernel) rfl rfl ?_
    refine Z_iconst (a := 4) (v := 4) (q := 14) (by decide +kernel) (by decide +kernel) rfl ?_
    obtain ⟨Q61, hm, h⟩ := h
    refine Z_callVi (M2 := mX6_stop) (idx := 70) (d2 := d) (ci := 6) (As := [.int _]) (q := 17) (by decide +kernel) kX6_stop lX6_70 rfl rfl (by decide) rfl rfl (by decide +kernel) (Nat.le_of_ble_eq_true rfl) (Nat.le_refl _) hm rfl (fun v66 iv62 rv63 lv64 hq => ?_)
    obtain ⟨hT65, h⟩ := h v66 iv62 rv63 lv64 hq
    exact Z_iret (ty := .boolean) (by decide +kernel) rfl (by rcases h.1 with e | e <;> rw [e] <;> rfl) rfl ⟨_, rfl, h.2⟩
theorem eX6_wholeWithin {d : Nat} (x1 : Int32) (x2 : Int32) {iv : zI} {rv : zR} {lv : zJ} {Q : Int32 → zI → zR → zJ → Prop} (h : Zi mX6_wholeWithin (d + 1) 0 [some (.ref 1), some (.int x1), some (.int x2)] [] iv rv lv Q) : Ci mX6_wholeWithin (d + 1) [.ref 1, .int x1, .int x2] iv rv lv Q := Ci.of (by decide +kernel) (by simp [Value.category]) (Nat.le_of_ble_eq_true rfl) rfl h
set_option maxRecDepth 4000 in
theorem bX6_wholeWithin_0 {d : Nat} (x1 : Int32) (x2 : Int32) {iv : zI} {rv : zR} {lv : zJ} {Q : Int32 → zI → zR → zJ → Prop} (hT : zTop rv) 
    (h : ((iv 1 7) = (2 : Int32) → ((iv 1 8) < x1 → ∃ Q1 : Int32 → zI → zR → zJ → Prop, Ci mX6_stop d [.ref 1, .int (2 : Int32)] iv rv lv Q1 ∧ ∀ (v6 : Int32) (iv2 : zI) (rv3 : zR) (lv4 : zJ), Q1 v6 iv2 rv3 lv4 → zTop rv3 ∧ ((v6 = 0 → Q (0 : Int32) iv2 rv3 lv4) ∧ (¬ v6 = 0 → Q (1 : Int32) iv2 rv3 lv4))) ∧ (¬ (iv 1 8) < x1 → ((iv 1 8) ≤ x2 → Q (1 : Int32) iv rv lv) ∧ (¬ (iv 1 8) ≤ x2 → ∃ Q7 : Int32 → zI → zR → zJ → Prop, Ci mX6_stop d [.ref 1, .int (2 : Int32)] iv rv lv Q7 ∧ ∀ (v12 : Int32) (iv8 : zI) (rv9 : zR) (lv10 : zJ), Q7 v12 iv8 rv9 lv10 → zTop rv9 ∧ ((v12 = 0 → Q (0 : Int32) iv8 rv9 lv10) ∧ (¬ v12 = 0 → Q (1 : Int32) iv8 rv9 lv10))))) ∧ (¬ (iv 1 7) = (2 : Int32) → ∃ Q13 : Int32 → zI → zR → zJ → Prop, Ci mX6_stop d [.ref 1, .int (1 : Int32)] iv rv lv Q13 ∧ ∀ (v18 : Int32) (iv14 : zI) (rv15 : zR) (lv16 : zJ), Q13 v18 iv14 rv15 lv16 → zTop rv15 ∧ ((v18 = 0 ∨ v18 = 1) ∧ Q v18 iv14 rv15 lv16))) :
    Zi mX6_wholeWithin (d + 1) 0 [some (.ref 1), some (.int x1), some (.int x2)] [] iv rv lv Q := by
  unfold Zi
  refine Z_aload_n (a := 0) (q := 1) (by decide +kernel) rfl rfl ?_
  refine g6_7 (idx := 38) (q := 4) (by decide +kernel) fX6_38 rfl (by decide) rfl ?_
  refine Z_iconst (a := 2) (v := 2) (q := 5) (by decide +kernel) (by decide +kernel) rfl ?_
  refine Z_icmp_eq (t := 14) (off := 9) (q := 8) (by decide +kernel) (by decide) rfl (fun hc => ?_) (fun hc => ?_)
  · replace h := h.1 hc
    refine Z_aload_n (a := 0) (q := 15) (by decide +kernel) rfl rfl ?_
    refine g6_8 (idx := 41) (q := 18) (by decide +kernel) fX6_41 rfl (by decide) rfl ?_
    refine Z_iload_n (a := 1) (q := 19) (by decide +kernel) rfl rfl ?_
    refine Z_icmp_lt (t := 30) (off := 11) (q := 22) (by decide +kernel) (by decide) rfl (fun hc => ?_) (fun hc => ?_)
    · replace h := h.1 hc
      refine Z_aload_n (a := 0) (q := 31) (by decide +kernel) rfl rfl ?_
      refine Z_iconst (a := 2) (v := 2) (q := 32) (by decide +kernel) (by decide +kernel) rfl ?_
      obtain ⟨Q1, hm, h⟩ := h
      refine Z_callVi (M2 := mX6_stop) (idx := 70) (d2 := d) (ci := 6) (As := [.int _]) (q := 35) (by decide +kernel) kX6_stop lX6_70 rfl rfl (by decide) rfl rfl (by decide +kernel) (Nat.le_of_ble_eq_true rfl) (Nat.le_refl _) hm rfl (fun v6 iv2 rv3 lv4 hq => ?_)
      obtain ⟨hT5, h⟩ := h v6 iv2 rv3 lv4 hq
      refine Z_if_eq (t := 42) (off := 7) (q := 38) (by decide +kernel) (by decide) rfl (fun hc => ?_) (fun hc => ?_)
      · replace h := h.1 hc
        refine Z_iconst (a := 0) (v := 0) (q := 43) (by decide +kernel) (by decide +kernel) rfl ?_
        exact Z_iret (ty := .boolean) (by decide +kernel) rfl rfl rfl ⟨_, rfl, h⟩
      · replace h := h.2 hc
        refine Z_iconst (a := 1) (v := 1) (q := 39) (by decide +kernel) (by decide +kernel) rfl ?_
        refine Z_goto (q := 43) (off := 4) (by decide +kernel) (by decide) ?_
        exact Z_iret (ty := .boolean) (by decide +kernel) rfl rfl rfl ⟨_, rfl, h⟩
    · replace h := h.2 hc
      refine Z_aload_n (a := 0) (q := 23) (by decide +kernel) rfl rfl ?_
      refine g6_8 (idx := 41) (q := 26) (by decide +kernel) fX6_41 rfl (by decide) rfl ?_
      refine Z_iload_n (a := 2) (q := 27) (by decide +kernel) rfl rfl ?_
      refine Z_icmp_le (t := 38) (off := 11) (q := 30) (by decide +kernel) (by decide) rfl (fun hc => ?_) (fun hc => ?_)
      · replace h := h.1 hc
        refine Z_iconst (a := 1) (v := 1) (q := 39) (by decide +kernel) (by decide +kernel) rfl ?_
        refine Z_goto (q := 43) (off := 4) (by decide +kernel) (by decide) ?_
        exact Z_iret (ty := .boolean) (by decide +kernel) rfl rfl rfl ⟨_, rfl, h⟩
      · replace h := h.2 hc
        refine Z_aload_n (a := 0) (q := 31) (by decide +kernel) rfl rfl ?_
        refine Z_iconst (a := 2) (v := 2) (q := 32) (by decide +kernel) (by decide +kernel) rfl ?_
        obtain ⟨Q7, hm, h⟩ := h
        refine Z_callVi (M2 := mX6_stop) (idx := 70) (d2 := d) (ci := 6) (As := [.int _]) (q := 35) (by decide +kernel) kX6_stop lX6_70 rfl rfl (by decide) rfl rfl (by decide +kernel) (Nat.le_of_ble_eq_true rfl) (Nat.le_refl _) hm rfl (fun v12 iv8 rv9 lv10 hq => ?_)
        obtain ⟨hT11, h⟩ := h v12 iv8 rv9 lv10 hq
        refine Z_if_eq (t := 42) (off := 7) (q := 38) (by decide +kernel) (by decide) rfl (fun hc => ?_) (fun hc => ?_)
        · replace h := h.1 hc
          refine Z_iconst (a := 0) (v := 0) (q := 43) (by decide +kernel) (by decide +kernel) rfl ?_
          exact Z_iret (ty := .boolean) (by decide +kernel) rfl rfl rfl ⟨_, rfl, h⟩
        · replace h := h.2 hc
          refine Z_iconst (a := 1) (v := 1) (q := 39) (by decide +kernel) (by decide +kernel) rfl ?_
          refine Z_goto (q := 43) (off := 4) (by decide +kernel) (by decide) ?_
          exact Z_iret (ty := .boolean) (by decide +kernel) rfl rfl rfl ⟨_, rfl, h⟩
  · replace h := h.2 hc
    refine Z_aload_n (a := 0) (q := 9) (by decide +kernel) rfl rfl ?_
    refine Z_iconst (a := 1) (v := 1) (q := 10) (by decide +kernel) (by decide +kernel) rfl ?_
    obtain ⟨Q13, hm, h⟩ := h
    refine Z_callVi (M2 := mX6_stop) (idx := 70) (d2 := d) (ci := 6) (As := [.int _]) (q := 13) (by decide +kernel) kX6_stop lX6_70 rfl rfl (by decide) rfl rfl (by decide +kernel) (Nat.le_of_ble_eq_true rfl) (Nat.le_refl _) hm rfl (fun v18 iv14 rv15 lv16 hq => ?_)
    obtain ⟨hT17, h⟩ := h v18 iv14 rv15 lv16 hq
    exact Z_iret (ty := .boolean) (by decide +kernel) rfl (by rcases h.1 with e | e <;> rw [e] <;> rfl) rfl ⟨_, rfl, h.2⟩
theorem eX6_nextToken {d : Nat}  {iv : zI} {rv : zR} {lv : zJ} {Q : zI → zR → zJ → Prop} (h : Zv mX6_nextToken (d + 1) 0 [some (.ref 1)] [] iv rv lv Q) : Cv mX6_nextToken (d + 1) [.ref 1] iv rv lv Q := Cv.of (by decide +kernel) (by simp [Value.category]) (Nat.le_of_ble_eq_true rfl) rfl h
set_option maxRecDepth 4000 in
theorem bX6_nextToken_0 {d : Nat}  {iv : zI} {rv : zR} {lv : zJ} {Q : zI → zR → zJ → Prop} (hT : zTop rv) 
    (h : ((iv 1 5) ≤ (iv 1 6) → Zv mX6_nextToken (d + 1) 38 [some (.ref 1)] [] iv rv lv Q) ∧ (¬ (iv 1 5) ≤ (iv 1 6) → vp_in (iv 1 6) 300 ∧ ((¬ (iv 7 (iv 1 6).toNatClampNeg) = (32 : Int32) → Zv mX6_nextToken (d + 1) 38 [some (.ref 1)] [] iv rv lv Q) ∧ ((iv 7 (iv 1 6).toNatClampNeg) = (32 : Int32) → ∀ iv2 : zI, iv2 = zu iv 1 6 ((iv 1 6) + (1 : Int32)) → Zv mX6_nextToken (d + 1) 0 [some (.ref 1)] [] iv2 rv lv Q)))) :
    Zv mX6_nextToken (d + 1) 0 [some (.ref 1)] [] iv rv lv Q := by
  unfold Zv
  refine Z_aload_n (a := 0) (q := 1) (by decide +kernel) rfl rfl ?_
  refine g6_6 (idx := 35) (q := 4) (by decide +kernel) fX6_35 rfl (by decide) rfl ?_
  refine Z_aload_n (a := 0) (q := 5) (by decide +kernel) rfl rfl ?_
  refine g6_5 (idx := 32) (q := 8) (by decide +kernel) fX6_32 rfl (by decide) rfl ?_
  refine Z_icmp_ge (t := 38) (off := 30) (q := 11) (by decide +kernel) (by decide) rfl (fun hc => ?_) (fun hc => ?_)
  · replace h := h.1 hc
    exact h
  · replace h := h.2 hc
    refine Z_aload_n (a := 0) (q := 12) (by decide +kernel) rfl rfl ?_
    refine g6_4 (idx := 28) (q := 15) (by decide +kernel) fX6_28 rfl (by decide) (t6_4 hT) rfl ?_
    refine Z_aload_n (a := 0) (q := 16) (by decide +kernel) rfl rfl ?_
    refine g6_6 (idx := 35) (q := 19) (by decide +kernel) fX6_35 rfl (by decide) rfl ?_
    obtain ⟨hin1, h⟩ := h
    refine Z_bald (len := 300) (q := 20) (by decide +kernel) rfl (by decide) hin1 rfl ?_
    refine Z_bipush (a := 32) (v := 32) (q := 22) (by decide +kernel) (by decide +kernel) rfl ?_
    refine Z_icmp_ne (t := 38) (off := 16) (q := 25) (by decide +kernel) (by decide) rfl (fun hc => ?_) (fun hc => ?_)
    · replace h := h.1 hc
      exact h
    · replace h := h.2 hc
      refine Z_aload_n (a := 0) (q := 26) (by decide +kernel) rfl rfl ?_
      refine Z_dup (q := 27) (by decide +kernel) rfl rfl ?_
      refine g6_6 (idx := 35) (q := 30) (by decide +kernel) fX6_35 rfl (by decide) rfl ?_
      refine Z_iconst (a := 1) (v := 1) (q := 31) (by decide +kernel) (by decide +kernel) rfl ?_
      refine Z_iadd (q := 32) (by decide +kernel) rfl ?_
      refine p6_6 (idx := 35) (q := 35) (by decide +kernel) fX6_35 rfl (by decide) rfl ?_
      replace h := h _ rfl
      refine Z_goto (q := 0) (off := -35) (by decide +kernel) (by decide) ?_
      exact h
set_option maxRecDepth 4000 in
theorem bX6_nextToken_38 {d : Nat}  {iv : zI} {rv : zR} {lv : zJ} {Q : zI → zR → zJ → Prop} (hT : zTop rv) 
    (h : ∀ iv1 : zI, iv1 = zu iv 1 3 (iv 1 6) → ((iv1 1 6) < (iv1 1 5) → vp_in (iv1 1 6) 300 ∧ (∃ Q3 : Int32 → zI → zR → zJ → Prop, Ci mX6_isLetter d [.int (iv1 7 (iv1 1 6).toNatClampNeg)] iv1 rv lv Q3 ∧ ∀ (v8 : Int32) (iv4 : zI) (rv5 : zR) (lv6 : zJ), Q3 v8 iv4 rv5 lv6 → zTop rv5 ∧ ((v8 = 0 → vp_in (iv4 1 6) 300 ∧ (∃ Q10 : Int32 → zI → zR → zJ → Prop, Ci mX6_isDigit d [.int (iv4 7 (iv4 1 6).toNatClampNeg)] iv4 rv5 lv6 Q10 ∧ ∀ (v15 : Int32) (iv11 : zI) (rv12 : zR) (lv13 : zJ), Q10 v15 iv11 rv12 lv13 → zTop rv12 ∧ ((v15 = 0 → ∃ Q16 : zI → zR → zJ → Prop, Cv mX6_takeSign d [.ref 1] iv11 rv12 lv13 Q16 ∧ ∀ (iv17 : zI) (rv18 : zR) (lv19 : zJ), Q16 iv17 rv18 lv19 → zTop rv18 ∧ (Q iv17 rv18 lv19)) ∧ (¬ v15 = 0 → ∃ Q22 : zI → zR → zJ → Prop, Cv mX6_takeWhole d [.ref 1] iv11 rv12 lv13 Q22 ∧ ∀ (iv23 : zI) (rv24 : zR) (lv25 : zJ), Q22 iv23 rv24 lv25 → zTop rv24 ∧ (Q iv23 rv24 lv25))))) ∧ (¬ v8 = 0 → ∃ Q28 : zI → zR → zJ → Prop, Cv mX6_takeWord d [.ref 1] iv4 rv5 lv6 Q28 ∧ ∀ (iv29 : zI) (rv30 : zR) (lv31 : zJ), Q28 iv29 rv30 lv31 → zTop rv30 ∧ (Q iv29 rv30 lv31))))) ∧ (¬ (iv1 1 6) < (iv1 1 5) → ∀ iv34 : zI, iv34 = zu iv1 1 7 (0 : Int32) → Q iv34 rv lv)) :
    Zv mX6_nextToken (d + 1) 38 [some (.ref 1)] [] iv rv lv Q := by
  unfold Zv
  refine Z_aload_n (a := 0) (q := 39) (by decide +kernel) rfl rfl ?_
  refine Z_aload_n (a := 0) (q := 40) (by decide +kernel) rfl rfl ?_
  refine g6_6 (idx := 35) (q := 43) (by decide +kernel) fX6_35 rfl (by decide) rfl ?_
  refine p6_3 (idx := 25) (q := 46) (by decide +kernel) fX6_25 rfl (by decide) rfl ?_
  replace h := h _ rfl
  refine Z_aload_n (a := 0) (q := 47) (by decide +kernel) rfl rfl ?_
  refine g6_6 (idx := 35) (q := 50) (by decide +kernel) fX6_35 rfl (by decide) rfl ?_
  refine Z_aload_n (a := 0) (q := 51) (by decide +kernel) rfl rfl ?_
  refine g6_5 (idx := 32) (q := 54) (by decide +kernel) fX6_32 rfl (by decide) rfl ?_
  refine Z_icmp_lt (t := 65) (off := 11) (q := 57) (by decide +kernel) (by decide) rfl (fun hc => ?_) (fun hc => ?_)
  · replace h := h.1 hc
    refine Z_aload_n (a := 0) (q := 66) (by decide +kernel) rfl rfl ?_
    refine g6_4 (idx := 28) (q := 69) (by decide +kernel) fX6_28 rfl (by decide) (t6_4 hT) rfl ?_
    refine Z_aload_n (a := 0) (q := 70) (by decide +kernel) rfl rfl ?_
    refine g6_6 (idx := 35) (q := 73) (by decide +kernel) fX6_35 rfl (by decide) rfl ?_
    obtain ⟨hin2, h⟩ := h
    refine Z_bald (len := 300) (q := 74) (by decide +kernel) rfl (by decide) hin2 rfl ?_
    obtain ⟨Q3, hm, h⟩ := h
    refine Z_callSi (M2 := mX6_isLetter) (idx := 134) (d2 := d) (As := [.int _]) (q := 77) (by decide +kernel) kX6_isLetter lX6_134 rfl rfl (by decide +kernel) (Nat.le_of_ble_eq_true rfl) (Nat.le_refl _) hm rfl (fun v8 iv4 rv5 lv6 hq => ?_)
    obtain ⟨hT7, h⟩ := h v8 iv4 rv5 lv6 hq
    refine Z_if_eq (t := 87) (off := 10) (q := 80) (by decide +kernel) (by decide) rfl (fun hc => ?_) (fun hc => ?_)
    · replace h := h.1 hc
      refine Z_aload_n (a := 0) (q := 88) (by decide +kernel) rfl rfl ?_
      refine g6_4 (idx := 28) (q := 91) (by decide +kernel) fX6_28 rfl (by decide) (t6_4 hT7) rfl ?_
      refine Z_aload_n (a := 0) (q := 92) (by decide +kernel) rfl rfl ?_
      refine g6_6 (idx := 35) (q := 95) (by decide +kernel) fX6_35 rfl (by decide) rfl ?_
      obtain ⟨hin9, h⟩ := h
      refine Z_bald (len := 300) (q := 96) (by decide +kernel) rfl (by decide) hin9 rfl ?_
      obtain ⟨Q10, hm, h⟩ := h
      refine Z_callSi (M2 := mX6_isDigit) (idx := 140) (d2 := d) (As := [.int _]) (q := 99) (by decide +kernel) kX6_isDigit lX6_140 rfl rfl (by decide +kernel) (Nat.le_of_ble_eq_true rfl) (Nat.le_refl _) hm rfl (fun v15 iv11 rv12 lv13 hq => ?_)
      obtain ⟨hT14, h⟩ := h v15 iv11 rv12 lv13 hq
      refine Z_if_eq (t := 109) (off := 10) (q := 102) (by decide +kernel) (by decide) rfl (fun hc => ?_) (fun hc => ?_)
      · replace h := h.1 hc
        refine Z_aload_n (a := 0) (q := 110) (by decide +kernel) rfl rfl ?_
        obtain ⟨Q16, hm, h⟩ := h
        refine Z_callVv (M2 := mX6_takeSign) (idx := 146) (d2 := d) (ci := 6) (As := []) (q := 113) (by decide +kernel) kX6_takeSign lX6_146 rfl rfl (by decide) rfl rfl (by decide +kernel) (Nat.le_of_ble_eq_true rfl) (Nat.le_refl _) hm rfl (fun iv17 rv18 lv19 hq => ?_)
        obtain ⟨hT20, h⟩ := h iv17 rv18 lv19 hq
        exact Z_vret (by decide +kernel) rfl rfl ⟨rfl, h⟩
      · replace h := h.2 hc
        refine Z_aload_n (a := 0) (q := 103) (by decide +kernel) rfl rfl ?_
        obtain ⟨Q22, hm, h⟩ := h
        refine Z_callVv (M2 := mX6_takeWhole) (idx := 143) (d2 := d) (ci := 6) (As := []) (q := 106) (by decide +kernel) kX6_takeWhole lX6_143 rfl rfl (by decide) rfl rfl (by decide +kernel) (Nat.le_of_ble_eq_true rfl) (Nat.le_refl _) hm rfl (fun iv23 rv24 lv25 hq => ?_)
        obtain ⟨hT26, h⟩ := h iv23 rv24 lv25 hq
        refine Z_goto (q := 113) (off := 7) (by decide +kernel) (by decide) ?_
        exact Z_vret (by decide +kernel) rfl rfl ⟨rfl, h⟩
    · replace h := h.2 hc
      refine Z_aload_n (a := 0) (q := 81) (by decide +kernel) rfl rfl ?_
      obtain ⟨Q28, hm, h⟩ := h
      refine Z_callVv (M2 := mX6_takeWord) (idx := 137) (d2 := d) (ci := 6) (As := []) (q := 84) (by decide +kernel) kX6_takeWord lX6_137 rfl rfl (by decide) rfl rfl (by decide +kernel) (Nat.le_of_ble_eq_true rfl) (Nat.le_refl _) hm rfl (fun iv29 rv30 lv31 hq => ?_)
      obtain ⟨hT32, h⟩ := h iv29 rv30 lv31 hq
      refine Z_goto (q := 113) (off := 29) (by decide +kernel) (by decide) ?_
      exact Z_vret (by decide +kernel) rfl rfl ⟨rfl, h⟩
  · replace h := h.2 hc
    refine Z_aload_n (a := 0) (q := 58) (by decide +kernel) rfl rfl ?_
    refine Z_iconst (a := 0) (v := 0) (q := 59) (by decide +kernel) (by decide +kernel) rfl ?_
    refine p6_7 (idx := 38) (q := 62) (by decide +kernel) fX6_38 rfl (by decide) rfl ?_
    replace h := h _ rfl
    refine Z_goto (q := 113) (off := 51) (by decide +kernel) (by decide) ?_
    exact Z_vret (by decide +kernel) rfl rfl ⟨rfl, h⟩
theorem eX6_takeWord {d : Nat}  {iv : zI} {rv : zR} {lv : zJ} {Q : zI → zR → zJ → Prop} (h : Zv mX6_takeWord (d + 1) 0 [some (.ref 1)] [] iv rv lv Q) : Cv mX6_takeWord (d + 1) [.ref 1] iv rv lv Q := Cv.of (by decide +kernel) (by simp [Value.category]) (Nat.le_of_ble_eq_true rfl) rfl h
set_option maxRecDepth 4000 in
theorem bX6_takeWord_0 {d : Nat}  {iv : zI} {rv : zR} {lv : zJ} {Q : zI → zR → zJ → Prop} (hT : zTop rv) 
    (h : ((iv 1 5) ≤ (iv 1 6) → Zv mX6_takeWord (d + 1) 39 [some (.ref 1)] [] iv rv lv Q) ∧ (¬ (iv 1 5) ≤ (iv 1 6) → vp_in (iv 1 6) 300 ∧ (∃ Q2 : Int32 → zI → zR → zJ → Prop, Ci mX6_isLetter d [.int (iv 7 (iv 1 6).toNatClampNeg)] iv rv lv Q2 ∧ ∀ (v7 : Int32) (iv3 : zI) (rv4 : zR) (lv5 : zJ), Q2 v7 iv3 rv4 lv5 → zTop rv4 ∧ ((v7 = 0 → Zv mX6_takeWord (d + 1) 39 [some (.ref 1)] [] iv3 rv4 lv5 Q) ∧ (¬ v7 = 0 → ∀ iv8 : zI, iv8 = zu iv3 1 6 ((iv3 1 6) + (1 : Int32)) → Zv mX6_takeWord (d + 1) 0 [some (.ref 1)] [] iv8 rv4 lv5 Q))))) :
    Zv mX6_takeWord (d + 1) 0 [some (.ref 1)] [] iv rv lv Q := by
  unfold Zv
  refine Z_aload_n (a := 0) (q := 1) (by decide +kernel) rfl rfl ?_
  refine g6_6 (idx := 35) (q := 4) (by decide +kernel) fX6_35 rfl (by decide) rfl ?_
  refine Z_aload_n (a := 0) (q := 5) (by decide +kernel) rfl rfl ?_
  refine g6_5 (idx := 32) (q := 8) (by decide +kernel) fX6_32 rfl (by decide) rfl ?_
  refine Z_icmp_ge (t := 39) (off := 31) (q := 11) (by decide +kernel) (by decide) rfl (fun hc => ?_) (fun hc => ?_)
  · replace h := h.1 hc
    exact h
  · replace h := h.2 hc
    refine Z_aload_n (a := 0) (q := 12) (by decide +kernel) rfl rfl ?_
    refine g6_4 (idx := 28) (q := 15) (by decide +kernel) fX6_28 rfl (by decide) (t6_4 hT) rfl ?_
    refine Z_aload_n (a := 0) (q := 16) (by decide +kernel) rfl rfl ?_
    refine g6_6 (idx := 35) (q := 19) (by decide +kernel) fX6_35 rfl (by decide) rfl ?_
    obtain ⟨hin1, h⟩ := h
    refine Z_bald (len := 300) (q := 20) (by decide +kernel) rfl (by decide) hin1 rfl ?_
    obtain ⟨Q2, hm, h⟩ := h
    refine Z_callSi (M2 := mX6_isLetter) (idx := 134) (d2 := d) (As := [.int _]) (q := 23) (by decide +kernel) kX6_isLetter lX6_134 rfl rfl (by decide +kernel) (Nat.le_of_ble_eq_true rfl) (Nat.le_refl _) hm rfl (fun v7 iv3 rv4 lv5 hq => ?_)
    obtain ⟨hT6, h⟩ := h v7 iv3 rv4 lv5 hq
    refine Z_if_eq (t := 39) (off := 16) (q := 26) (by decide +kernel) (by decide) rfl (fun hc => ?_) (fun hc => ?_)
    · replace h := h.1 hc
      exact h
    · replace h := h.2 hc
      refine Z_aload_n (a := 0) (q := 27) (by decide +kernel) rfl rfl ?_
      refine Z_dup (q := 28) (by decide +kernel) rfl rfl ?_
      refine g6_6 (idx := 35) (q := 31) (by decide +kernel) fX6_35 rfl (by decide) rfl ?_
      refine Z_iconst (a := 1) (v := 1) (q := 32) (by decide +kernel) (by decide +kernel) rfl ?_
      refine Z_iadd (q := 33) (by decide +kernel) rfl ?_
      refine p6_6 (idx := 35) (q := 36) (by decide +kernel) fX6_35 rfl (by decide) rfl ?_
      replace h := h _ rfl
      refine Z_goto (q := 0) (off := -36) (by decide +kernel) (by decide) ?_
      exact h
set_option maxRecDepth 4000 in
theorem bX6_takeWord_39 {d : Nat}  {iv : zI} {rv : zR} {lv : zJ} {Q : zI → zR → zJ → Prop} (hT : zTop rv) 
    (h : ((6 : Int32) < ((iv 1 6) - (iv 1 3)) → ∀ iv1 : zI, iv1 = zu iv 1 7 (5 : Int32) → Q iv1 rv lv) ∧ (¬ (6 : Int32) < ((iv 1 6) - (iv 1 3)) → ∀ iv2 : zI, iv2 = zu iv 1 7 (1 : Int32) → Q iv2 rv lv)) :
    Zv mX6_takeWord (d + 1) 39 [some (.ref 1)] [] iv rv lv Q := by
  unfold Zv
  refine Z_aload_n (a := 0) (q := 40) (by decide +kernel) rfl rfl ?_
  refine Z_aload_n (a := 0) (q := 41) (by decide +kernel) rfl rfl ?_
  refine g6_6 (idx := 35) (q := 44) (by decide +kernel) fX6_35 rfl (by decide) rfl ?_
  refine Z_aload_n (a := 0) (q := 45) (by decide +kernel) rfl rfl ?_
  refine g6_3 (idx := 25) (q := 48) (by decide +kernel) fX6_25 rfl (by decide) rfl ?_
  refine Z_isub (q := 49) (by decide +kernel) rfl ?_
  refine Z_bipush (a := 6) (v := 6) (q := 51) (by decide +kernel) (by decide +kernel) rfl ?_
  refine Z_icmp_gt (t := 58) (off := 7) (q := 54) (by decide +kernel) (by decide) rfl (fun hc => ?_) (fun hc => ?_)
  · replace h := h.1 hc
    refine Z_iconst (a := 5) (v := 5) (q := 59) (by decide +kernel) (by decide +kernel) rfl ?_
    refine p6_7 (idx := 38) (q := 62) (by decide +kernel) fX6_38 rfl (by decide) rfl ?_
    replace h := h _ rfl
    exact Z_vret (by decide +kernel) rfl rfl ⟨rfl, h⟩
  · replace h := h.2 hc
    refine Z_iconst (a := 1) (v := 1) (q := 55) (by decide +kernel) (by decide +kernel) rfl ?_
    refine Z_goto (q := 59) (off := 4) (by decide +kernel) (by decide) ?_
    refine p6_7 (idx := 38) (q := 62) (by decide +kernel) fX6_38 rfl (by decide) rfl ?_
    replace h := h _ rfl
    exact Z_vret (by decide +kernel) rfl rfl ⟨rfl, h⟩
theorem eX6_takeWhole {d : Nat}  {iv : zI} {rv : zR} {lv : zJ} {Q : zI → zR → zJ → Prop} (h : Zv mX6_takeWhole (d + 1) 0 [some (.ref 1)] [] iv rv lv Q) : Cv mX6_takeWhole (d + 1) [.ref 1] iv rv lv Q := Cv.of (by decide +kernel) (by simp [Value.category]) (Nat.le_of_ble_eq_true rfl) rfl h
set_option maxRecDepth 4000 in
theorem bX6_takeWhole_0 {d : Nat}  {iv : zI} {rv : zR} {lv : zJ} {Q : zI → zR → zJ → Prop} (hT : zTop rv) 
    (h : ∀ iv1 : zI, iv1 = zu iv 1 8 (0 : Int32) → Zv mX6_takeWhole (d + 1) 5 [some (.ref 1)] [] iv1 rv lv Q) :
    Zv mX6_takeWhole (d + 1) 0 [some (.ref 1)] [] iv rv lv Q := by
  unfold Zv
  refine Z_aload_n (a := 0) (q := 1) (by decide +kernel) rfl rfl ?_
  refine Z_iconst (a := 0) (v := 0) (q := 2) (by decide +kernel) (by decide +kernel) rfl ?_
  refine p6_8 (idx := 41) (q := 5) (by decide +kernel) fX6_41 rfl (by decide) rfl ?_
  replace h := h _ rfl
  exact h
set_option maxRecDepth 4000 in
theorem bX6_takeWhole_5 {d : Nat}  {iv : zI} {rv : zR} {lv : zJ} {Q : zI → zR → zJ → Prop} (hT : zTop rv) 
    (h : ((iv 1 5) ≤ (iv 1 6) → Zv mX6_takeWhole (d + 1) 88 [some (.ref 1)] [] iv rv lv Q) ∧ (¬ (iv 1 5) ≤ (iv 1 6) → vp_in (iv 1 6) 300 ∧ (∃ Q2 : Int32 → zI → zR → zJ → Prop, Ci mX6_isDigit d [.int (iv 7 (iv 1 6).toNatClampNeg)] iv rv lv Q2 ∧ ∀ (v7 : Int32) (iv3 : zI) (rv4 : zR) (lv5 : zJ), Q2 v7 iv3 rv4 lv5 → zTop rv4 ∧ ((v7 = 0 → Zv mX6_takeWhole (d + 1) 88 [some (.ref 1)] [] iv3 rv4 lv5 Q) ∧ (¬ v7 = 0 → ((4 : Int32) ≤ ((iv3 1 6) - (iv3 1 3)) → ∀ iv8 : zI, iv8 = zu iv3 1 8 (iv3 1 8) → ∀ iv9 : zI, iv9 = zu iv8 1 6 ((iv8 1 6) + (1 : Int32)) → Zv mX6_takeWhole (d + 1) 5 [some (.ref 1)] [] iv9 rv4 lv5 Q) ∧ (¬ (4 : Int32) ≤ ((iv3 1 6) - (iv3 1 3)) → vp_in (iv3 1 6) 300 ∧ (∀ iv11 : zI, iv11 = zu iv3 1 8 ((((iv3 1 8) * (10 : Int32)) + (iv3 7 (iv3 1 6).toNatClampNeg)) - (48 : Int32)) → ∀ iv12 : zI, iv12 = zu iv11 1 6 ((iv11 1 6) + (1 : Int32)) → Zv mX6_takeWhole (d + 1) 5 [some (.ref 1)] [] iv12 rv4 lv5 Q))))))) :
    Zv mX6_takeWhole (d + 1) 5 [some (.ref 1)] [] iv rv lv Q := by
  unfold Zv
  refine Z_aload_n (a := 0) (q := 6) (by decide +kernel) rfl rfl ?_
  refine g6_6 (idx := 35) (q := 9) (by decide +kernel) fX6_35 rfl (by decide) rfl ?_
  refine Z_aload_n (a := 0) (q := 10) (by decide +kernel) rfl rfl ?_
  refine g6_5 (idx := 32) (q := 13) (by decide +kernel) fX6_32 rfl (by decide) rfl ?_
  refine Z_icmp_ge (t := 88) (off := 75) (q := 16) (by decide +kernel) (by decide) rfl (fun hc => ?_) (fun hc => ?_)
  · replace h := h.1 hc
    exact h
  · replace h := h.2 hc
    refine Z_aload_n (a := 0) (q := 17) (by decide +kernel) rfl rfl ?_
    refine g6_4 (idx := 28) (q := 20) (by decide +kernel) fX6_28 rfl (by decide) (t6_4 hT) rfl ?_
    refine Z_aload_n (a := 0) (q := 21) (by decide +kernel) rfl rfl ?_
    refine g6_6 (idx := 35) (q := 24) (by decide +kernel) fX6_35 rfl (by decide) rfl ?_
    obtain ⟨hin1, h⟩ := h
    refine Z_bald (len := 300) (q := 25) (by decide +kernel) rfl (by decide) hin1 rfl ?_
    obtain ⟨Q2, hm, h⟩ := h
    refine Z_callSi (M2 := mX6_isDigit) (idx := 140) (d2 := d) (As := [.int _]) (q := 28) (by decide +kernel) kX6_isDigit lX6_140 rfl rfl (by decide +kernel) (Nat.le_of_ble_eq_true rfl) (Nat.le_refl _) hm rfl (fun v7 iv3 rv4 lv5 hq => ?_)
    obtain ⟨hT6, h⟩ := h v7 iv3 rv4 lv5 hq
    refine Z_if_eq (t := 88) (off := 60) (q := 31) (by decide +kernel) (by decide) rfl (fun hc => ?_) (fun hc => ?_)
    · replace h := h.1 hc
      exact h
    · replace h := h.2 hc
      refine Z_aload_n (a := 0) (q := 32) (by decide +kernel) rfl rfl ?_
      refine Z_aload_n (a := 0) (q := 33) (by decide +kernel) rfl rfl ?_
      refine g6_6 (idx := 35) (q := 36) (by decide +kernel) fX6_35 rfl (by decide) rfl ?_
      refine Z_aload_n (a := 0) (q := 37) (by decide +kernel) rfl rfl ?_
      refine g6_3 (idx := 25) (q := 40) (by decide +kernel) fX6_25 rfl (by decide) rfl ?_
      refine Z_isub (q := 41) (by decide +kernel) rfl ?_
      refine Z_iconst (a := 4) (v := 4) (q := 42) (by decide +kernel) (by decide +kernel) rfl ?_
      refine Z_icmp_ge (t := 68) (off := 26) (q := 45) (by decide +kernel) (by decide) rfl (fun hc => ?_) (fun hc => ?_)
      · replace h := h.1 hc
        refine Z_aload_n (a := 0) (q := 69) (by decide +kernel) rfl rfl ?_
        refine g6_8 (idx := 41) (q := 72) (by decide +kernel) fX6_41 rfl (by decide) rfl ?_
        refine p6_8 (idx := 41) (q := 75) (by decide +kernel) fX6_41 rfl (by decide) rfl ?_
        replace h := h _ rfl
        refine Z_aload_n (a := 0) (q := 76) (by decide +kernel) rfl rfl ?_
        refine Z_dup (q := 77) (by decide +kernel) rfl rfl ?_
        refine g6_6 (idx := 35) (q := 80) (by decide +kernel) fX6_35 rfl (by decide) rfl ?_
        refine Z_iconst (a := 1) (v := 1) (q := 81) (by decide +kernel) (by decide +kernel) rfl ?_
        refine Z_iadd (q := 82) (by decide +kernel) rfl ?_
        refine p6_6 (idx := 35) (q := 85) (by decide +kernel) fX6_35 rfl (by decide) rfl ?_
        replace h := h _ rfl
        refine Z_goto (q := 5) (off := -80) (by decide +kernel) (by decide) ?_
        exact h
      · replace h := h.2 hc
        refine Z_aload_n (a := 0) (q := 46) (by decide +kernel) rfl rfl ?_
        refine g6_8 (idx := 41) (q := 49) (by decide +kernel) fX6_41 rfl (by decide) rfl ?_
        refine Z_bipush (a := 10) (v := 10) (q := 51) (by decide +kernel) (by decide +kernel) rfl ?_
        refine Z_imul (q := 52) (by decide +kernel) rfl ?_
        refine Z_aload_n (a := 0) (q := 53) (by decide +kernel) rfl rfl ?_
        refine g6_4 (idx := 28) (q := 56) (by decide +kernel) fX6_28 rfl (by decide) (t6_4 hT6) rfl ?_
        refine Z_aload_n (a := 0) (q := 57) (by decide +kernel) rfl rfl ?_
        refine g6_6 (idx := 35) (q := 60) (by decide +kernel) fX6_35 rfl (by decide) rfl ?_
        obtain ⟨hin10, h⟩ := h
        refine Z_bald (len := 300) (q := 61) (by decide +kernel) rfl (by decide) hin10 rfl ?_
        refine Z_iadd (q := 62) (by decide +kernel) rfl ?_
        refine Z_bipush (a := 48) (v := 48) (q := 64) (by decide +kernel) (by decide +kernel) rfl ?_
        refine Z_isub (q := 65) (by decide +kernel) rfl ?_
        refine Z_goto (q := 72) (off := 7) (by decide +kernel) (by decide) ?_
        refine p6_8 (idx := 41) (q := 75) (by decide +kernel) fX6_41 rfl (by decide) rfl ?_
        replace h := h _ rfl
        refine Z_aload_n (a := 0) (q := 76) (by decide +kernel) rfl rfl ?_
        refine Z_dup (q := 77) (by decide +kernel) rfl rfl ?_
        refine g6_6 (idx := 35) (q := 80) (by decide +kernel) fX6_35 rfl (by decide) rfl ?_
        refine Z_iconst (a := 1) (v := 1) (q := 81) (by decide +kernel) (by decide +kernel) rfl ?_
        refine Z_iadd (q := 82) (by decide +kernel) rfl ?_
        refine p6_6 (idx := 35) (q := 85) (by decide +kernel) fX6_35 rfl (by decide) rfl ?_
        replace h := h _ rfl
        refine Z_goto (q := 5) (off := -80) (by decide +kernel) (by decide) ?_
        exact h
set_option maxRecDepth 4000 in
theorem bX6_takeWhole_88 {d : Nat}  {iv : zI} {rv : zR} {lv : zJ} {Q : zI → zR → zJ → Prop} (hT : zTop rv) 
    (h : ((4 : Int32) < ((iv 1 6) - (iv 1 3)) → ∀ iv1 : zI, iv1 = zu iv 1 7 (5 : Int32) → Q iv1 rv lv) ∧ (¬ (4 : Int32) < ((iv 1 6) - (iv 1 3)) → ∀ iv2 : zI, iv2 = zu iv 1 7 (2 : Int32) → Q iv2 rv lv)) :
    Zv mX6_takeWhole (d + 1) 88 [some (.ref 1)] [] iv rv lv Q := by
  unfold Zv
  refine Z_aload_n (a := 0) (q := 89) (by decide +kernel) rfl rfl ?_
  refine Z_aload_n (a := 0) (q := 90) (by decide +kernel) rfl rfl ?_
  refine g6_6 (idx := 35) (q := 93) (by decide +kernel) fX6_35 rfl (by decide) rfl ?_
  refine Z_aload_n (a := 0) (q := 94) (by decide +kernel) rfl rfl ?_
  refine g6_3 (idx := 25) (q := 97) (by decide +kernel) fX6_25 rfl (by decide) rfl ?_
  refine Z_isub (q := 98) (by decide +kernel) rfl ?_
  refine Z_iconst (a := 4) (v := 4) (q := 99) (by decide +kernel) (by decide +kernel) rfl ?_
  refine Z_icmp_gt (t := 106) (off := 7) (q := 102) (by decide +kernel) (by decide) rfl (fun hc => ?_) (fun hc => ?_)
  · replace h := h.1 hc
    refine Z_iconst (a := 5) (v := 5) (q := 107) (by decide +kernel) (by decide +kernel) rfl ?_
    refine p6_7 (idx := 38) (q := 110) (by decide +kernel) fX6_38 rfl (by decide) rfl ?_
    replace h := h _ rfl
    exact Z_vret (by decide +kernel) rfl rfl ⟨rfl, h⟩
  · replace h := h.2 hc
    refine Z_iconst (a := 2) (v := 2) (q := 103) (by decide +kernel) (by decide +kernel) rfl ?_
    refine Z_goto (q := 107) (off := 4) (by decide +kernel) (by decide) ?_
    refine p6_7 (idx := 38) (q := 110) (by decide +kernel) fX6_38 rfl (by decide) rfl ?_
    replace h := h _ rfl
    exact Z_vret (by decide +kernel) rfl rfl ⟨rfl, h⟩
theorem eX6_takeSign {d : Nat}  {iv : zI} {rv : zR} {lv : zJ} {Q : zI → zR → zJ → Prop} (h : Zv mX6_takeSign d 0 [some (.ref 1)] [] iv rv lv Q) : Cv mX6_takeSign d [.ref 1] iv rv lv Q := Cv.of (by decide +kernel) (by simp [Value.category]) (Nat.le_of_ble_eq_true rfl) rfl h
set_option maxRecDepth 4000 in
theorem bX6_takeSign_0 {d : Nat}  {iv : zI} {rv : zR} {lv : zJ} {Q : zI → zR → zJ → Prop} (hT : zTop rv) 
    (h : vp_in (iv 1 6) 300 ∧ ((¬ (iv 7 (iv 1 6).toNatClampNeg) = (59 : Int32) → (¬ (iv 7 (iv 1 6).toNatClampNeg) = (44 : Int32) → ∀ iv2 : zI, iv2 = zu iv 1 7 (5 : Int32) → ∀ iv3 : zI, iv3 = zu iv2 1 6 ((iv2 1 6) + (1 : Int32)) → Q iv3 rv lv) ∧ ((iv 7 (iv 1 6).toNatClampNeg) = (44 : Int32) → ∀ iv4 : zI, iv4 = zu iv 1 7 (4 : Int32) → ∀ iv5 : zI, iv5 = zu iv4 1 6 ((iv4 1 6) + (1 : Int32)) → Q iv5 rv lv)) ∧ ((iv 7 (iv 1 6).toNatClampNeg) = (59 : Int32) → ∀ iv6 : zI, iv6 = zu iv 1 7 (3 : Int32) → ∀ iv7 : zI, iv7 = zu iv6 1 6 ((iv6 1 6) + (1 : Int32)) → Q iv7 rv lv))) :
    Zv mX6_takeSign d 0 [some (.ref 1)] [] iv rv lv Q := by
  unfold Zv
  refine Z_aload_n (a := 0) (q := 1) (by decide +kernel) rfl rfl ?_
  refine Z_aload_n (a := 0) (q := 2) (by decide +kernel) rfl rfl ?_
  refine g6_4 (idx := 28) (q := 5) (by decide +kernel) fX6_28 rfl (by decide) (t6_4 hT) rfl ?_
  refine Z_aload_n (a := 0) (q := 6) (by decide +kernel) rfl rfl ?_
  refine g6_6 (idx := 35) (q := 9) (by decide +kernel) fX6_35 rfl (by decide) rfl ?_
  obtain ⟨hin1, h⟩ := h
  refine Z_bald (len := 300) (q := 10) (by decide +kernel) rfl (by decide) hin1 rfl ?_
  refine Z_bipush (a := 59) (v := 59) (q := 12) (by decide +kernel) (by decide +kernel) rfl ?_
  refine Z_icmp_ne (t := 19) (off := 7) (q := 15) (by decide +kernel) (by decide) rfl (fun hc => ?_) (fun hc => ?_)
  · replace h := h.1 hc
    refine Z_aload_n (a := 0) (q := 20) (by decide +kernel) rfl rfl ?_
    refine g6_4 (idx := 28) (q := 23) (by decide +kernel) fX6_28 rfl (by decide) (t6_4 hT) rfl ?_
    refine Z_aload_n (a := 0) (q := 24) (by decide +kernel) rfl rfl ?_
    refine g6_6 (idx := 35) (q := 27) (by decide +kernel) fX6_35 rfl (by decide) rfl ?_
    refine Z_bald (len := 300) (q := 28) (by decide +kernel) rfl (by decide) hin1 rfl ?_
    refine Z_bipush (a := 44) (v := 44) (q := 30) (by decide +kernel) (by decide +kernel) rfl ?_
    refine Z_icmp_ne (t := 37) (off := 7) (q := 33) (by decide +kernel) (by decide) rfl (fun hc => ?_) (fun hc => ?_)
    · replace h := h.1 hc
      refine Z_iconst (a := 5) (v := 5) (q := 38) (by decide +kernel) (by decide +kernel) rfl ?_
      refine p6_7 (idx := 38) (q := 41) (by decide +kernel) fX6_38 rfl (by decide) rfl ?_
      replace h := h _ rfl
      refine Z_aload_n (a := 0) (q := 42) (by decide +kernel) rfl rfl ?_
      refine Z_dup (q := 43) (by decide +kernel) rfl rfl ?_
      refine g6_6 (idx := 35) (q := 46) (by decide +kernel) fX6_35 rfl (by decide) rfl ?_
      refine Z_iconst (a := 1) (v := 1) (q := 47) (by decide +kernel) (by decide +kernel) rfl ?_
      refine Z_iadd (q := 48) (by decide +kernel) rfl ?_
      refine p6_6 (idx := 35) (q := 51) (by decide +kernel) fX6_35 rfl (by decide) rfl ?_
      replace h := h _ rfl
      exact Z_vret (by decide +kernel) rfl rfl ⟨rfl, h⟩
    · replace h := h.2 hc
      refine Z_iconst (a := 4) (v := 4) (q := 34) (by decide +kernel) (by decide +kernel) rfl ?_
      refine Z_goto (q := 38) (off := 4) (by decide +kernel) (by decide) ?_
      refine p6_7 (idx := 38) (q := 41) (by decide +kernel) fX6_38 rfl (by decide) rfl ?_
      replace h := h _ rfl
      refine Z_aload_n (a := 0) (q := 42) (by decide +kernel) rfl rfl ?_
      refine Z_dup (q := 43) (by decide +kernel) rfl rfl ?_
      refine g6_6 (idx := 35) (q := 46) (by decide +kernel) fX6_35 rfl (by decide) rfl ?_
      refine Z_iconst (a := 1) (v := 1) (q := 47) (by decide +kernel) (by decide +kernel) rfl ?_
      refine Z_iadd (q := 48) (by decide +kernel) rfl ?_
      refine p6_6 (idx := 35) (q := 51) (by decide +kernel) fX6_35 rfl (by decide) rfl ?_
      replace h := h _ rfl
      exact Z_vret (by decide +kernel) rfl rfl ⟨rfl, h⟩
  · replace h := h.2 hc
    refine Z_iconst (a := 3) (v := 3) (q := 16) (by decide +kernel) (by decide +kernel) rfl ?_
    refine Z_goto (q := 38) (off := 22) (by decide +kernel) (by decide) ?_
    refine p6_7 (idx := 38) (q := 41) (by decide +kernel) fX6_38 rfl (by decide) rfl ?_
    replace h := h _ rfl
    refine Z_aload_n (a := 0) (q := 42) (by decide +kernel) rfl rfl ?_
    refine Z_dup (q := 43) (by decide +kernel) rfl rfl ?_
    refine g6_6 (idx := 35) (q := 46) (by decide +kernel) fX6_35 rfl (by decide) rfl ?_
    refine Z_iconst (a := 1) (v := 1) (q := 47) (by decide +kernel) (by decide +kernel) rfl ?_
    refine Z_iadd (q := 48) (by decide +kernel) rfl ?_
    refine p6_6 (idx := 35) (q := 51) (by decide +kernel) fX6_35 rfl (by decide) rfl ?_
    replace h := h _ rfl
    exact Z_vret (by decide +kernel) rfl rfl ⟨rfl, h⟩
theorem eX6_isLetter {d : Nat} (x0 : Int32) {iv : zI} {rv : zR} {lv : zJ} {Q : Int32 → zI → zR → zJ → Prop} (h : Zi mX6_isLetter d 0 [some (.int x0)] [] iv rv lv Q) : Ci mX6_isLetter d [.int x0] iv rv lv Q := Ci.of (by decide +kernel) (by simp [Value.category]) (Nat.le_of_ble_eq_true rfl) rfl h
set_option maxRecDepth 4000 in
theorem bX6_isLetter_0 {d : Nat} (x0 : Int32) {iv : zI} {rv : zR} {lv : zJ} {Q : Int32 → zI → zR → zJ → Prop} (hT : zTop rv) 
    (h : (x0 < (97 : Int32) → Q (0 : Int32) iv rv lv) ∧ (¬ x0 < (97 : Int32) → ((122 : Int32) < x0 → Q (0 : Int32) iv rv lv) ∧ (¬ (122 : Int32) < x0 → Q (1 : Int32) iv rv lv))) :
    Zi mX6_isLetter d 0 [some (.int x0)] [] iv rv lv Q := by
  unfold Zi
  refine Z_iload_n (a := 0) (q := 1) (by decide +kernel) rfl rfl ?_
  refine Z_bipush (a := 97) (v := 97) (q := 3) (by decide +kernel) (by decide +kernel) rfl ?_
  refine Z_icmp_lt (t := 16) (off := 13) (q := 6) (by decide +kernel) (by decide) rfl (fun hc => ?_) (fun hc => ?_)
  · replace h := h.1 hc
    refine Z_iconst (a := 0) (v := 0) (q := 17) (by decide +kernel) (by decide +kernel) rfl ?_
    exact Z_iret (ty := .boolean) (by decide +kernel) rfl rfl rfl ⟨_, rfl, h⟩
  · replace h := h.2 hc
    refine Z_iload_n (a := 0) (q := 7) (by decide +kernel) rfl rfl ?_
    refine Z_bipush (a := 122) (v := 122) (q := 9) (by decide +kernel) (by decide +kernel) rfl ?_
    refine Z_icmp_gt (t := 16) (off := 7) (q := 12) (by decide +kernel) (by decide) rfl (fun hc => ?_) (fun hc => ?_)
    · replace h := h.1 hc
      refine Z_iconst (a := 0) (v := 0) (q := 17) (by decide +kernel) (by decide +kernel) rfl ?_
      exact Z_iret (ty := .boolean) (by decide +kernel) rfl rfl rfl ⟨_, rfl, h⟩
    · replace h := h.2 hc
      refine Z_iconst (a := 1) (v := 1) (q := 13) (by decide +kernel) (by decide +kernel) rfl ?_
      refine Z_goto (q := 17) (off := 4) (by decide +kernel) (by decide) ?_
      exact Z_iret (ty := .boolean) (by decide +kernel) rfl rfl rfl ⟨_, rfl, h⟩
theorem eX6_isDigit {d : Nat} (x0 : Int32) {iv : zI} {rv : zR} {lv : zJ} {Q : Int32 → zI → zR → zJ → Prop} (h : Zi mX6_isDigit d 0 [some (.int x0)] [] iv rv lv Q) : Ci mX6_isDigit d [.int x0] iv rv lv Q := Ci.of (by decide +kernel) (by simp [Value.category]) (Nat.le_of_ble_eq_true rfl) rfl h
set_option maxRecDepth 4000 in
theorem bX6_isDigit_0 {d : Nat} (x0 : Int32) {iv : zI} {rv : zR} {lv : zJ} {Q : Int32 → zI → zR → zJ → Prop} (hT : zTop rv) 
    (h : (x0 < (48 : Int32) → Q (0 : Int32) iv rv lv) ∧ (¬ x0 < (48 : Int32) → ((57 : Int32) < x0 → Q (0 : Int32) iv rv lv) ∧ (¬ (57 : Int32) < x0 → Q (1 : Int32) iv rv lv))) :
    Zi mX6_isDigit d 0 [some (.int x0)] [] iv rv lv Q := by
  unfold Zi
  refine Z_iload_n (a := 0) (q := 1) (by decide +kernel) rfl rfl ?_
  refine Z_bipush (a := 48) (v := 48) (q := 3) (by decide +kernel) (by decide +kernel) rfl ?_
  refine Z_icmp_lt (t := 16) (off := 13) (q := 6) (by decide +kernel) (by decide) rfl (fun hc => ?_) (fun hc => ?_)
  · replace h := h.1 hc
    refine Z_iconst (a := 0) (v := 0) (q := 17) (by decide +kernel) (by decide +kernel) rfl ?_
    exact Z_iret (ty := .boolean) (by decide +kernel) rfl rfl rfl ⟨_, rfl, h⟩
  · replace h := h.2 hc
    refine Z_iload_n (a := 0) (q := 7) (by decide +kernel) rfl rfl ?_
    refine Z_bipush (a := 57) (v := 57) (q := 9) (by decide +kernel) (by decide +kernel) rfl ?_
    refine Z_icmp_gt (t := 16) (off := 7) (q := 12) (by decide +kernel) (by decide) rfl (fun hc => ?_) (fun hc => ?_)
    · replace h := h.1 hc
      refine Z_iconst (a := 0) (v := 0) (q := 17) (by decide +kernel) (by decide +kernel) rfl ?_
      exact Z_iret (ty := .boolean) (by decide +kernel) rfl rfl rfl ⟨_, rfl, h⟩
    · replace h := h.2 hc
      refine Z_iconst (a := 1) (v := 1) (q := 13) (by decide +kernel) (by decide +kernel) rfl ?_
      refine Z_goto (q := 17) (off := 4) (by decide +kernel) (by decide) ?_
      exact Z_iret (ty := .boolean) (by decide +kernel) rfl rfl rfl ⟨_, rfl, h⟩
