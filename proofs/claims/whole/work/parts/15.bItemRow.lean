/-! BLOCKS of X3, by program. -/
theorem eX3_takeNumbers {d : Nat} (x0 : Nat) (x1 : Nat) {iv : zI} {rv : zR} {lv : zJ} {Q : zI → zR → zJ → Prop} (h : Zv mX3_takeNumbers (d + 1) 0 [some (.ref x0), some (.ref x1), none] [] iv rv lv Q) : Cv mX3_takeNumbers (d + 1) [.ref x0, .ref x1] iv rv lv Q := Cv.of (by decide +kernel) (by simp [Value.category]) (Nat.le_of_ble_eq_true rfl) rfl h
set_option maxRecDepth 4000 in
theorem bX3_takeNumbers_0 {d : Nat} (x0 : Nat) (x1 : Nat) {iv : zI} {rv : zR} {lv : zJ} {Q : zI → zR → zJ → Prop} (hT : zTop rv) (m_x0 : x0 ∈ zIts) (m_x1 : x1 ∈ zSts)
    (h : ∀ iv1 : zI, iv1 = zu iv x0 0 (0 : Int32) → Zv mX3_takeNumbers (d + 1) 7 [some (.ref x0), some (.ref x1), some (.int (0 : Int32))] [] iv1 rv lv Q) :
    Zv mX3_takeNumbers (d + 1) 0 [some (.ref x0), some (.ref x1), none] [] iv rv lv Q := by
  unfold Zv
  refine Z_aload_n (a := 0) (q := 1) (by decide +kernel) rfl rfl ?_
  refine Z_iconst (a := 0) (v := 0) (q := 2) (by decide +kernel) (by decide +kernel) rfl ?_
  refine p3_0 (idx := 9) (q := 5) (by decide +kernel) fX3_9 (hS3_0 m_x0) (hL3_0 m_x0) rfl ?_
  replace h := h _ rfl
  refine Z_iconst (a := 0) (v := 0) (q := 6) (by decide +kernel) (by decide +kernel) rfl ?_
  refine Z_istore_n (a := 2) (loc2 := [_, _, _]) (q := 7) (by decide +kernel) (by decide +kernel) rfl rfl rfl ?_
  exact h
set_option maxRecDepth 4000 in
theorem bX3_takeNumbers_7 {d : Nat} (x0 : Nat) (x1 : Nat) (x2 : Int32) {iv : zI} {rv : zR} {lv : zJ} {Q : zI → zR → zJ → Prop} (hT : zTop rv) (m_x0 : x0 ∈ zIts) (m_x1 : x1 ∈ zSts)
    (h : ((iv x1 0) ≤ x2 → Q iv rv lv) ∧ (¬ (iv x1 0) ≤ x2 → vp_in x2 10 ∧ (∃ Q2 : zI → zR → zJ → Prop, Cv mX3_insert d [.ref x0, .int (iv (x1 + 1) x2.toNatClampNeg), .int ((1 : Int32) <<< (x2 &&& 31)), .int (0 : Int32)] iv rv lv Q2 ∧ ∀ (iv3 : zI) (rv4 : zR) (lv5 : zJ), Q2 iv3 rv4 lv5 → zTop rv4 ∧ (Zv mX3_takeNumbers (d + 1) 7 [some (.ref x0), some (.ref x1), some (.int (x2 + 1))] [] iv3 rv4 lv5 Q)))) :
    Zv mX3_takeNumbers (d + 1) 7 [some (.ref x0), some (.ref x1), some (.int x2)] [] iv rv lv Q := by
  unfold Zv
  refine Z_iload_n (a := 2) (q := 8) (by decide +kernel) rfl rfl ?_
  refine Z_aload_n (a := 1) (q := 9) (by decide +kernel) rfl rfl ?_
  refine g9_0 (idx := 25) (q := 12) (by decide +kernel) fX3_25 (hS9_0 m_x1) (hL9_0 m_x1) rfl ?_
  refine Z_icmp_ge (t := 35) (off := 23) (q := 15) (by decide +kernel) (by decide) rfl (fun hc => ?_) (fun hc => ?_)
  · replace h := h.1 hc
    exact Z_vret (by decide +kernel) rfl rfl ⟨rfl, h⟩
  · replace h := h.2 hc
    refine Z_aload_n (a := 0) (q := 16) (by decide +kernel) rfl rfl ?_
    refine Z_aload_n (a := 1) (q := 17) (by decide +kernel) rfl rfl ?_
    refine g9_2 (idx := 28) (q := 20) (by decide +kernel) fX3_28 (hS9_0 m_x1) (hL9_0 m_x1) (t9_2 hT m_x1) rfl ?_
    refine Z_iload_n (a := 2) (q := 21) (by decide +kernel) rfl rfl ?_
    obtain ⟨hin1, h⟩ := h
    refine Z_iald (len := 10) (q := 22) (by decide +kernel) (hS9_1 m_x1) (hL9_1 m_x1) hin1 rfl ?_
    refine Z_iconst (a := 1) (v := 1) (q := 23) (by decide +kernel) (by decide +kernel) rfl ?_
    refine Z_iload_n (a := 2) (q := 24) (by decide +kernel) rfl rfl ?_
    refine Z_ishl (q := 25) (by decide +kernel) rfl ?_
    refine Z_iconst (a := 0) (v := 0) (q := 26) (by decide +kernel) (by decide +kernel) rfl ?_
    obtain ⟨Q2, hm, h⟩ := h
    refine Z_callVv (M2 := mX3_insert) (idx := 29) (d2 := d) (ci := 3) (As := [.int _, .int _, .int _]) (q := 29) (by decide +kernel) kX3_insert lX3_29 rfl (hS3_0 m_x0) (hL3_0 m_x0) rfl rfl (by decide +kernel) (Nat.le_of_ble_eq_true rfl) (Nat.le_refl _) hm rfl (fun iv3 rv4 lv5 hq => ?_)
    obtain ⟨hT6, h⟩ := h iv3 rv4 lv5 hq
    refine Z_iinc (a := 2) (b := 1) (v := _ + 1) (loc2 := [_, _, _]) (q := 32) (by decide +kernel) rfl (zinc _) (by decide +kernel) rfl rfl rfl ?_
    refine Z_goto (q := 7) (off := -25) (by decide +kernel) (by decide) ?_
    exact h
theorem eX3_copyFrom {d : Nat} (x0 : Nat) (x1 : Nat) {iv : zI} {rv : zR} {lv : zJ} {Q : zI → zR → zJ → Prop} (h : Zv mX3_copyFrom (d + 1) 0 [some (.ref x0), some (.ref x1)] [] iv rv lv Q) : Cv mX3_copyFrom (d + 1) [.ref x0, .ref x1] iv rv lv Q := Cv.of (by decide +kernel) (by simp [Value.category]) (Nat.le_of_ble_eq_true rfl) rfl h
set_option maxRecDepth 4000 in
theorem bX3_copyFrom_0 {d : Nat} (x0 : Nat) (x1 : Nat) {iv : zI} {rv : zR} {lv : zJ} {Q : zI → zR → zJ → Prop} (hT : zTop rv) (m_x0 : x0 ∈ zIts) (m_x1 : x1 ∈ zIts)
    (h : ∀ iv1 : zI, iv1 = zu iv x0 0 (iv x1 0) → (∀ iv2 : zI, iv2 = (fun a => if a = (x0 + 1) then va_cpy (iv1 (x1 + 1)) (iv1 (x0 + 1)) 0 0 10 else iv1 a) → (∀ iv3 : zI, iv3 = (fun a => if a = (x0 + 2) then va_cpy (iv2 (x1 + 2)) (iv2 (x0 + 2)) 0 0 10 else iv2 a) → (∀ iv4 : zI, iv4 = (fun a => if a = (x0 + 3) then va_cpy (iv3 (x1 + 3)) (iv3 (x0 + 3)) 0 0 10 else iv3 a) → Q iv4 rv lv)))) :
    Zv mX3_copyFrom (d + 1) 0 [some (.ref x0), some (.ref x1)] [] iv rv lv Q := by
  unfold Zv
  refine Z_aload_n (a := 0) (q := 1) (by decide +kernel) rfl rfl ?_
  refine Z_aload_n (a := 1) (q := 2) (by decide +kernel) rfl rfl ?_
  refine g3_0 (idx := 9) (q := 5) (by decide +kernel) fX3_9 (hS3_0 m_x1) (hL3_0 m_x1) rfl ?_
  refine p3_0 (idx := 9) (q := 8) (by decide +kernel) fX3_9 (hS3_0 m_x0) (hL3_0 m_x0) rfl ?_
  replace h := h _ rfl
  refine Z_aload_n (a := 1) (q := 9) (by decide +kernel) rfl rfl ?_
  refine g3_1 (idx := 15) (q := 12) (by decide +kernel) fX3_15 (hS3_0 m_x1) (hL3_0 m_x1) (t3_1 hT m_x1) rfl ?_
  refine Z_iconst (a := 0) (v := 0) (q := 13) (by decide +kernel) (by decide +kernel) rfl ?_
  refine Z_aload_n (a := 0) (q := 14) (by decide +kernel) rfl rfl ?_
  refine g3_1 (idx := 15) (q := 17) (by decide +kernel) fX3_15 (hS3_0 m_x0) (hL3_0 m_x0) (t3_1 hT m_x0) rfl ?_
  refine Z_iconst (a := 0) (v := 0) (q := 18) (by decide +kernel) (by decide +kernel) rfl ?_
  refine Z_bipush (a := 10) (v := 10) (q := 20) (by decide +kernel) (by decide +kernel) rfl ?_
  refine Z_copyi (idx := 33) (q := 23) (by decide +kernel) lX3_33 (hS3_1 m_x1) (hL3_1 m_x1) (hS3_1 m_x0) (hL3_1 m_x0) (by decide) (by decide) (by decide) (by decide) (by decide) (Nat.le_of_ble_eq_true rfl) (Nat.le_add_left 1 d) rfl ?_
  replace h := h _ rfl
  refine Z_aload_n (a := 1) (q := 24) (by decide +kernel) rfl rfl ?_
  refine g3_2 (idx := 19) (q := 27) (by decide +kernel) fX3_19 (hS3_0 m_x1) (hL3_0 m_x1) (t3_2 hT m_x1) rfl ?_
  refine Z_iconst (a := 0) (v := 0) (q := 28) (by decide +kernel) (by decide +kernel) rfl ?_
  refine Z_aload_n (a := 0) (q := 29) (by decide +kernel) rfl rfl ?_
  refine g3_2 (idx := 19) (q := 32) (by decide +kernel) fX3_19 (hS3_0 m_x0) (hL3_0 m_x0) (t3_2 hT m_x0) rfl ?_
  refine Z_iconst (a := 0) (v := 0) (q := 33) (by decide +kernel) (by decide +kernel) rfl ?_
  refine Z_bipush (a := 10) (v := 10) (q := 35) (by decide +kernel) (by decide +kernel) rfl ?_
  refine Z_copyi (idx := 33) (q := 38) (by decide +kernel) lX3_33 (hS3_2 m_x1) (hL3_2 m_x1) (hS3_2 m_x0) (hL3_2 m_x0) (by decide) (by decide) (by decide) (by decide) (by decide) (Nat.le_of_ble_eq_true rfl) (Nat.le_add_left 1 d) rfl ?_
  replace h := h _ rfl
  refine Z_aload_n (a := 1) (q := 39) (by decide +kernel) rfl rfl ?_
  refine g3_3 (idx := 22) (q := 42) (by decide +kernel) fX3_22 (hS3_0 m_x1) (hL3_0 m_x1) (t3_3 hT m_x1) rfl ?_
  refine Z_iconst (a := 0) (v := 0) (q := 43) (by decide +kernel) (by decide +kernel) rfl ?_
  refine Z_aload_n (a := 0) (q := 44) (by decide +kernel) rfl rfl ?_
  refine g3_3 (idx := 22) (q := 47) (by decide +kernel) fX3_22 (hS3_0 m_x0) (hL3_0 m_x0) (t3_3 hT m_x0) rfl ?_
  refine Z_iconst (a := 0) (v := 0) (q := 48) (by decide +kernel) (by decide +kernel) rfl ?_
  refine Z_bipush (a := 10) (v := 10) (q := 50) (by decide +kernel) (by decide +kernel) rfl ?_
  refine Z_copyi (idx := 33) (q := 53) (by decide +kernel) lX3_33 (hS3_3 m_x1) (hL3_3 m_x1) (hS3_3 m_x0) (hL3_3 m_x0) (by decide) (by decide) (by decide) (by decide) (by decide) (Nat.le_of_ble_eq_true rfl) (Nat.le_add_left 1 d) rfl ?_
  replace h := h _ rfl
  exact Z_vret (by decide +kernel) rfl rfl ⟨rfl, h⟩
theorem eX3_joinFirstTwo {d : Nat} (x0 : Nat) (x1 : Int32) {iv : zI} {rv : zR} {lv : zJ} {Q : zI → zR → zJ → Prop} (h : Zv mX3_joinFirstTwo (d + 1) 0 [some (.ref x0), some (.int x1), none, none, none] [] iv rv lv Q) : Cv mX3_joinFirstTwo (d + 1) [.ref x0, .int x1] iv rv lv Q := Cv.of (by decide +kernel) (by simp [Value.category]) (Nat.le_of_ble_eq_true rfl) rfl h
set_option maxRecDepth 4000 in
theorem bX3_joinFirstTwo_0 {d : Nat} (x0 : Nat) (x1 : Int32) {iv : zI} {rv : zR} {lv : zJ} {Q : zI → zR → zJ → Prop} (hT : zTop rv) (m_x0 : x0 ∈ zIts)
    (h : ((2 : Int32) ≤ (iv x0 0) → (x1 = 0 → Zv mX3_joinFirstTwo (d + 1) 42 [some (.ref x0), some (.int x1), none, none, none] [.int ((iv (x0 + 1) 0) - (iv (x0 + 1) 1))] iv rv lv Q) ∧ (¬ x1 = 0 → Zv mX3_joinFirstTwo (d + 1) 42 [some (.ref x0), some (.int x1), none, none, none] [.int ((iv (x0 + 1) 0) + (iv (x0 + 1) 1))] iv rv lv Q)) ∧ (¬ (2 : Int32) ≤ (iv x0 0) → Q iv rv lv)) :
    Zv mX3_joinFirstTwo (d + 1) 0 [some (.ref x0), some (.int x1), none, none, none] [] iv rv lv Q := by
  unfold Zv
  refine Z_aload_n (a := 0) (q := 1) (by decide +kernel) rfl rfl ?_
  refine g3_0 (idx := 9) (q := 4) (by decide +kernel) fX3_9 (hS3_0 m_x0) (hL3_0 m_x0) rfl ?_
  refine Z_iconst (a := 2) (v := 2) (q := 5) (by decide +kernel) (by decide +kernel) rfl ?_
  refine Z_icmp_ge (t := 9) (off := 4) (q := 8) (by decide +kernel) (by decide) rfl (fun hc => ?_) (fun hc => ?_)
  · replace h := h.1 hc
    refine Z_iload_n (a := 1) (q := 10) (by decide +kernel) rfl rfl ?_
    refine Z_if_eq (t := 29) (off := 19) (q := 13) (by decide +kernel) (by decide) rfl (fun hc => ?_) (fun hc => ?_)
    · replace h := h.1 hc
      refine Z_aload_n (a := 0) (q := 30) (by decide +kernel) rfl rfl ?_
      refine g3_1 (idx := 15) (q := 33) (by decide +kernel) fX3_15 (hS3_0 m_x0) (hL3_0 m_x0) (t3_1 hT m_x0) rfl ?_
      refine Z_iconst (a := 0) (v := 0) (q := 34) (by decide +kernel) (by decide +kernel) rfl ?_
      refine Z_iald (len := 10) (q := 35) (by decide +kernel) (hS3_1 m_x0) (hL3_1 m_x0) (by unfold vp_in; decide) rfl ?_
      refine Z_aload_n (a := 0) (q := 36) (by decide +kernel) rfl rfl ?_
      refine g3_1 (idx := 15) (q := 39) (by decide +kernel) fX3_15 (hS3_0 m_x0) (hL3_0 m_x0) (t3_1 hT m_x0) rfl ?_
      refine Z_iconst (a := 1) (v := 1) (q := 40) (by decide +kernel) (by decide +kernel) rfl ?_
      refine Z_iald (len := 10) (q := 41) (by decide +kernel) (hS3_1 m_x0) (hL3_1 m_x0) (by unfold vp_in; decide) rfl ?_
      refine Z_isub (q := 42) (by decide +kernel) rfl ?_
      exact h
    · replace h := h.2 hc
      refine Z_aload_n (a := 0) (q := 14) (by decide +kernel) rfl rfl ?_
      refine g3_1 (idx := 15) (q := 17) (by decide +kernel) fX3_15 (hS3_0 m_x0) (hL3_0 m_x0) (t3_1 hT m_x0) rfl ?_
      refine Z_iconst (a := 0) (v := 0) (q := 18) (by decide +kernel) (by decide +kernel) rfl ?_
      refine Z_iald (len := 10) (q := 19) (by decide +kernel) (hS3_1 m_x0) (hL3_1 m_x0) (by unfold vp_in; decide) rfl ?_
      refine Z_aload_n (a := 0) (q := 20) (by decide +kernel) rfl rfl ?_
      refine g3_1 (idx := 15) (q := 23) (by decide +kernel) fX3_15 (hS3_0 m_x0) (hL3_0 m_x0) (t3_1 hT m_x0) rfl ?_
      refine Z_iconst (a := 1) (v := 1) (q := 24) (by decide +kernel) (by decide +kernel) rfl ?_
      refine Z_iald (len := 10) (q := 25) (by decide +kernel) (hS3_1 m_x0) (hL3_1 m_x0) (by unfold vp_in; decide) rfl ?_
      refine Z_iadd (q := 26) (by decide +kernel) rfl ?_
      refine Z_goto (q := 42) (off := 16) (by decide +kernel) (by decide) ?_
      exact h
  · replace h := h.2 hc
    exact Z_vret (by decide +kernel) rfl rfl ⟨rfl, h⟩
set_option maxRecDepth 4000 in
theorem bX3_joinFirstTwo_42 {d : Nat} (x0 : Nat) (x1 : Int32) (y0 : Int32) {iv : zI} {rv : zR} {lv : zJ} {Q : zI → zR → zJ → Prop} (hT : zTop rv) (m_x0 : x0 ∈ zIts)
    (h : (x1 = 0 → Zv mX3_joinFirstTwo (d + 1) 68 [some (.ref x0), some (.int x1), some (.int y0), none, none] [.int (iv (x0 + 3) 1), .int (iv (x0 + 2) 0)] iv rv lv Q) ∧ (¬ x1 = 0 → Zv mX3_joinFirstTwo (d + 1) 68 [some (.ref x0), some (.int x1), some (.int y0), none, none] [.int (iv (x0 + 2) 1), .int (iv (x0 + 2) 0)] iv rv lv Q)) :
    Zv mX3_joinFirstTwo (d + 1) 42 [some (.ref x0), some (.int x1), none, none, none] [.int y0] iv rv lv Q := by
  unfold Zv
  refine Z_istore_n (a := 2) (loc2 := [_, _, _, _, _]) (q := 43) (by decide +kernel) (by decide +kernel) rfl rfl rfl ?_
  refine Z_aload_n (a := 0) (q := 44) (by decide +kernel) rfl rfl ?_
  refine g3_2 (idx := 19) (q := 47) (by decide +kernel) fX3_19 (hS3_0 m_x0) (hL3_0 m_x0) (t3_2 hT m_x0) rfl ?_
  refine Z_iconst (a := 0) (v := 0) (q := 48) (by decide +kernel) (by decide +kernel) rfl ?_
  refine Z_iald (len := 10) (q := 49) (by decide +kernel) (hS3_2 m_x0) (hL3_2 m_x0) (by unfold vp_in; decide) rfl ?_
  refine Z_iload_n (a := 1) (q := 50) (by decide +kernel) rfl rfl ?_
  refine Z_if_eq (t := 62) (off := 12) (q := 53) (by decide +kernel) (by decide) rfl (fun hc => ?_) (fun hc => ?_)
  · replace h := h.1 hc
    refine Z_aload_n (a := 0) (q := 63) (by decide +kernel) rfl rfl ?_
    refine g3_3 (idx := 22) (q := 66) (by decide +kernel) fX3_22 (hS3_0 m_x0) (hL3_0 m_x0) (t3_3 hT m_x0) rfl ?_
    refine Z_iconst (a := 1) (v := 1) (q := 67) (by decide +kernel) (by decide +kernel) rfl ?_
    refine Z_iald (len := 10) (q := 68) (by decide +kernel) (hS3_3 m_x0) (hL3_3 m_x0) (by unfold vp_in; decide) rfl ?_
    exact h
  · replace h := h.2 hc
    refine Z_aload_n (a := 0) (q := 54) (by decide +kernel) rfl rfl ?_
    refine g3_2 (idx := 19) (q := 57) (by decide +kernel) fX3_19 (hS3_0 m_x0) (hL3_0 m_x0) (t3_2 hT m_x0) rfl ?_
    refine Z_iconst (a := 1) (v := 1) (q := 58) (by decide +kernel) (by decide +kernel) rfl ?_
    refine Z_iald (len := 10) (q := 59) (by decide +kernel) (hS3_2 m_x0) (hL3_2 m_x0) (by unfold vp_in; decide) rfl ?_
    refine Z_goto (q := 68) (off := 9) (by decide +kernel) (by decide) ?_
    exact h
set_option maxRecDepth 4000 in
theorem bX3_joinFirstTwo_68 {d : Nat} (x0 : Nat) (x1 : Int32) (x2 : Int32) (y0 : Int32) (y1 : Int32) {iv : zI} {rv : zR} {lv : zJ} {Q : zI → zR → zJ → Prop} (hT : zTop rv) (m_x0 : x0 ∈ zIts)
    (h : (x1 = 0 → Zv mX3_joinFirstTwo (d + 1) 95 [some (.ref x0), some (.int x1), some (.int x2), some (.int (y1 ||| y0)), none] [.int (iv (x0 + 2) 1), .int (iv (x0 + 3) 0)] iv rv lv Q) ∧ (¬ x1 = 0 → Zv mX3_joinFirstTwo (d + 1) 95 [some (.ref x0), some (.int x1), some (.int x2), some (.int (y1 ||| y0)), none] [.int (iv (x0 + 3) 1), .int (iv (x0 + 3) 0)] iv rv lv Q)) :
    Zv mX3_joinFirstTwo (d + 1) 68 [some (.ref x0), some (.int x1), some (.int x2), none, none] [.int y0, .int y1] iv rv lv Q := by
  unfold Zv
  refine Z_ior (q := 69) (by decide +kernel) rfl ?_
  refine Z_istore_n (a := 3) (loc2 := [_, _, _, _, _]) (q := 70) (by decide +kernel) (by decide +kernel) rfl rfl rfl ?_
  refine Z_aload_n (a := 0) (q := 71) (by decide +kernel) rfl rfl ?_
  refine g3_3 (idx := 22) (q := 74) (by decide +kernel) fX3_22 (hS3_0 m_x0) (hL3_0 m_x0) (t3_3 hT m_x0) rfl ?_
  refine Z_iconst (a := 0) (v := 0) (q := 75) (by decide +kernel) (by decide +kernel) rfl ?_
  refine Z_iald (len := 10) (q := 76) (by decide +kernel) (hS3_3 m_x0) (hL3_3 m_x0) (by unfold vp_in; decide) rfl ?_
  refine Z_iload_n (a := 1) (q := 77) (by decide +kernel) rfl rfl ?_
  refine Z_if_eq (t := 89) (off := 12) (q := 80) (by decide +kernel) (by decide) rfl (fun hc => ?_) (fun hc => ?_)
  · replace h := h.1 hc
    refine Z_aload_n (a := 0) (q := 90) (by decide +kernel) rfl rfl ?_
    refine g3_2 (idx := 19) (q := 93) (by decide +kernel) fX3_19 (hS3_0 m_x0) (hL3_0 m_x0) (t3_2 hT m_x0) rfl ?_
    refine Z_iconst (a := 1) (v := 1) (q := 94) (by decide +kernel) (by decide +kernel) rfl ?_
    refine Z_iald (len := 10) (q := 95) (by decide +kernel) (hS3_2 m_x0) (hL3_2 m_x0) (by unfold vp_in; decide) rfl ?_
    exact h
  · replace h := h.2 hc
    refine Z_aload_n (a := 0) (q := 81) (by decide +kernel) rfl rfl ?_
    refine g3_3 (idx := 22) (q := 84) (by decide +kernel) fX3_22 (hS3_0 m_x0) (hL3_0 m_x0) (t3_3 hT m_x0) rfl ?_
    refine Z_iconst (a := 1) (v := 1) (q := 85) (by decide +kernel) (by decide +kernel) rfl ?_
    refine Z_iald (len := 10) (q := 86) (by decide +kernel) (hS3_3 m_x0) (hL3_3 m_x0) (by unfold vp_in; decide) rfl ?_
    refine Z_goto (q := 95) (off := 9) (by decide +kernel) (by decide) ?_
    exact h
set_option maxRecDepth 4000 in
theorem bX3_joinFirstTwo_95 {d : Nat} (x0 : Nat) (x1 : Int32) (x2 : Int32) (x3 : Int32) (y0 : Int32) (y1 : Int32) {iv : zI} {rv : zR} {lv : zJ} {Q : zI → zR → zJ → Prop} (hT : zTop rv) (m_x0 : x0 ∈ zIts)
    (h : ∀ iv1 : zI, iv1 = zu iv x0 0 ((iv x0 0) - (2 : Int32)) → ¬ (iv1 x0 0) < 0 ∧ 2 + (iv1 x0 0).toNatClampNeg ≤ 10 ∧ 0 + (iv1 x0 0).toNatClampNeg ≤ 10 ∧ (∀ iv2 : zI, iv2 = (fun a => if a = (x0 + 1) then va_cpy (iv1 (x0 + 1)) (iv1 (x0 + 1)) 2 0 (iv1 x0 0).toNatClampNeg else iv1 a) → ¬ (iv2 x0 0) < 0 ∧ 2 + (iv2 x0 0).toNatClampNeg ≤ 10 ∧ 0 + (iv2 x0 0).toNatClampNeg ≤ 10 ∧ (∀ iv6 : zI, iv6 = (fun a => if a = (x0 + 2) then va_cpy (iv2 (x0 + 2)) (iv2 (x0 + 2)) 2 0 (iv2 x0 0).toNatClampNeg else iv2 a) → ¬ (iv6 x0 0) < 0 ∧ 2 + (iv6 x0 0).toNatClampNeg ≤ 10 ∧ 0 + (iv6 x0 0).toNatClampNeg ≤ 10 ∧ (∀ iv10 : zI, iv10 = (fun a => if a = (x0 + 3) then va_cpy (iv6 (x0 + 3)) (iv6 (x0 + 3)) 2 0 (iv6 x0 0).toNatClampNeg else iv6 a) → ∃ Q14 : zI → zR → zJ → Prop, Cv mX3_insert d [.ref x0, .int x2, .int x3, .int (y1 ||| y0)] iv10 rv lv Q14 ∧ ∀ (iv15 : zI) (rv16 : zR) (lv17 : zJ), Q14 iv15 rv16 lv17 → zTop rv16 ∧ (Q iv15 rv16 lv17))))) :
    Zv mX3_joinFirstTwo (d + 1) 95 [some (.ref x0), some (.int x1), some (.int x2), some (.int x3), none] [.int y0, .int y1] iv rv lv Q := by
  unfold Zv
  refine Z_ior (q := 96) (by decide +kernel) rfl ?_
  refine Z_istore (a := 4) (loc2 := [_, _, _, _, _]) (q := 98) (by decide +kernel) (by decide +kernel) rfl rfl rfl ?_
  refine Z_aload_n (a := 0) (q := 99) (by decide +kernel) rfl rfl ?_
  refine Z_dup (q := 100) (by decide +kernel) rfl rfl ?_
  refine g3_0 (idx := 9) (q := 103) (by decide +kernel) fX3_9 (hS3_0 m_x0) (hL3_0 m_x0) rfl ?_
  refine Z_iconst (a := 2) (v := 2) (q := 104) (by decide +kernel) (by decide +kernel) rfl ?_
  refine Z_isub (q := 105) (by decide +kernel) rfl ?_
  refine p3_0 (idx := 9) (q := 108) (by decide +kernel) fX3_9 (hS3_0 m_x0) (hL3_0 m_x0) rfl ?_
  replace h := h _ rfl
  refine Z_aload_n (a := 0) (q := 109) (by decide +kernel) rfl rfl ?_
  refine g3_1 (idx := 15) (q := 112) (by decide +kernel) fX3_15 (hS3_0 m_x0) (hL3_0 m_x0) (t3_1 hT m_x0) rfl ?_
  refine Z_iconst (a := 2) (v := 2) (q := 113) (by decide +kernel) (by decide +kernel) rfl ?_
  refine Z_aload_n (a := 0) (q := 114) (by decide +kernel) rfl rfl ?_
  refine g3_1 (idx := 15) (q := 117) (by decide +kernel) fX3_15 (hS3_0 m_x0) (hL3_0 m_x0) (t3_1 hT m_x0) rfl ?_
  refine Z_iconst (a := 0) (v := 0) (q := 118) (by decide +kernel) (by decide +kernel) rfl ?_
  refine Z_aload_n (a := 0) (q := 119) (by decide +kernel) rfl rfl ?_
  refine g3_0 (idx := 9) (q := 122) (by decide +kernel) fX3_9 (hS3_0 m_x0) (hL3_0 m_x0) rfl ?_
  obtain ⟨b3, b4, b5, h⟩ := h
  refine Z_copyi (idx := 33) (q := 125) (by decide +kernel) lX3_33 (hS3_1 m_x0) (hL3_1 m_x0) (hS3_1 m_x0) (hL3_1 m_x0) (by decide) (by decide) b3 b4 b5 (Nat.le_of_ble_eq_true rfl) (Nat.le_add_left 1 d) rfl ?_
  replace h := h _ rfl
  refine Z_aload_n (a := 0) (q := 126) (by decide +kernel) rfl rfl ?_
  refine g3_2 (idx := 19) (q := 129) (by decide +kernel) fX3_19 (hS3_0 m_x0) (hL3_0 m_x0) (t3_2 hT m_x0) rfl ?_
  refine Z_iconst (a := 2) (v := 2) (q := 130) (by decide +kernel) (by decide +kernel) rfl ?_
  refine Z_aload_n (a := 0) (q := 131) (by decide +kernel) rfl rfl ?_
  refine g3_2 (idx := 19) (q := 134) (by decide +kernel) fX3_19 (hS3_0 m_x0) (hL3_0 m_x0) (t3_2 hT m_x0) rfl ?_
  refine Z_iconst (a := 0) (v := 0) (q := 135) (by decide +kernel) (by decide +kernel) rfl ?_
  refine Z_aload_n (a := 0) (q := 136) (by decide +kernel) rfl rfl ?_
  refine g3_0 (idx := 9) (q := 139) (by decide +kernel) fX3_9 (hS3_0 m_x0) (hL3_0 m_x0) rfl ?_
  obtain ⟨b7, b8, b9, h⟩ := h
  refine Z_copyi (idx := 33) (q := 142) (by decide +kernel) lX3_33 (hS3_2 m_x0) (hL3_2 m_x0) (hS3_2 m_x0) (hL3_2 m_x0) (by decide) (by decide) b7 b8 b9 (Nat.le_of_ble_eq_true rfl) (Nat.le_add_left 1 d) rfl ?_
  replace h := h _ rfl
  refine Z_aload_n (a := 0) (q := 143) (by decide +kernel) rfl rfl ?_
  refine g3_3 (idx := 22) (q := 146) (by decide +kernel) fX3_22 (hS3_0 m_x0) (hL3_0 m_x0) (t3_3 hT m_x0) rfl ?_
  refine Z_iconst (a := 2) (v := 2) (q := 147) (by decide +kernel) (by decide +kernel) rfl ?_
  refine Z_aload_n (a := 0) (q := 148) (by decide +kernel) rfl rfl ?_
  refine g3_3 (idx := 22) (q := 151) (by decide +kernel) fX3_22 (hS3_0 m_x0) (hL3_0 m_x0) (t3_3 hT m_x0) rfl ?_
  refine Z_iconst (a := 0) (v := 0) (q := 152) (by decide +kernel) (by decide +kernel) rfl ?_
  refine Z_aload_n (a := 0) (q := 153) (by decide +kernel) rfl rfl ?_
  refine g3_0 (idx := 9) (q := 156) (by decide +kernel) fX3_9 (hS3_0 m_x0) (hL3_0 m_x0) rfl ?_
  obtain ⟨b11, b12, b13, h⟩ := h
  refine Z_copyi (idx := 33) (q := 159) (by decide +kernel) lX3_33 (hS3_3 m_x0) (hL3_3 m_x0) (hS3_3 m_x0) (hL3_3 m_x0) (by decide) (by decide) b11 b12 b13 (Nat.le_of_ble_eq_true rfl) (Nat.le_add_left 1 d) rfl ?_
  replace h := h _ rfl
  refine Z_aload_n (a := 0) (q := 160) (by decide +kernel) rfl rfl ?_
  refine Z_iload_n (a := 2) (q := 161) (by decide +kernel) rfl rfl ?_
  refine Z_iload_n (a := 3) (q := 162) (by decide +kernel) rfl rfl ?_
  refine Z_iload (a := 4) (q := 164) (by decide +kernel) rfl rfl ?_
  obtain ⟨Q14, hm, h⟩ := h
  refine Z_callVv (M2 := mX3_insert) (idx := 29) (d2 := d) (ci := 3) (As := [.int _, .int _, .int _]) (q := 167) (by decide +kernel) kX3_insert lX3_29 rfl (hS3_0 m_x0) (hL3_0 m_x0) rfl rfl (by decide +kernel) (Nat.le_of_ble_eq_true rfl) (Nat.le_refl _) hm rfl (fun iv15 rv16 lv17 hq => ?_)
  obtain ⟨hT18, h⟩ := h iv15 rv16 lv17 hq
  exact Z_vret (by decide +kernel) rfl rfl ⟨rfl, h⟩
theorem eX3_insert {d : Nat} (x0 : Nat) (x1 : Int32) (x2 : Int32) (x3 : Int32) {iv : zI} {rv : zR} {lv : zJ} {Q : zI → zR → zJ → Prop} (h : Zv mX3_insert (d + 1) 0 [some (.ref x0), some (.int x1), some (.int x2), some (.int x3), none] [] iv rv lv Q) : Cv mX3_insert (d + 1) [.ref x0, .int x1, .int x2, .int x3] iv rv lv Q := Cv.of (by decide +kernel) (by simp [Value.category]) (Nat.le_of_ble_eq_true rfl) rfl h
set_option maxRecDepth 4000 in
theorem bX3_insert_0 {d : Nat} (x0 : Nat) (x1 : Int32) (x2 : Int32) (x3 : Int32) {iv : zI} {rv : zR} {lv : zJ} {Q : zI → zR → zJ → Prop} (hT : zTop rv) (m_x0 : x0 ∈ zIts)
    (h : ((iv x0 0) < (10 : Int32) → Zv mX3_insert (d + 1) 16 [some (.ref x0), some (.int x1), some (.int x2), some (.int x3), some (.int (iv x0 0))] [] iv rv lv Q) ∧ (¬ (iv x0 0) < (10 : Int32) → Q iv rv lv)) :
    Zv mX3_insert (d + 1) 0 [some (.ref x0), some (.int x1), some (.int x2), some (.int x3), none] [] iv rv lv Q := by
  unfold Zv
  refine Z_aload_n (a := 0) (q := 1) (by decide +kernel) rfl rfl ?_
  refine g3_0 (idx := 9) (q := 4) (by decide +kernel) fX3_9 (hS3_0 m_x0) (hL3_0 m_x0) rfl ?_
  refine Z_bipush (a := 10) (v := 10) (q := 6) (by decide +kernel) (by decide +kernel) rfl ?_
  refine Z_icmp_lt (t := 10) (off := 4) (q := 9) (by decide +kernel) (by decide) rfl (fun hc => ?_) (fun hc => ?_)
  · replace h := h.1 hc
    refine Z_aload_n (a := 0) (q := 11) (by decide +kernel) rfl rfl ?_
    refine g3_0 (idx := 9) (q := 14) (by decide +kernel) fX3_9 (hS3_0 m_x0) (hL3_0 m_x0) rfl ?_
    refine Z_istore (a := 4) (loc2 := [_, _, _, _, _]) (q := 16) (by decide +kernel) (by decide +kernel) rfl rfl rfl ?_
    exact h
  · replace h := h.2 hc
    exact Z_vret (by decide +kernel) rfl rfl ⟨rfl, h⟩
set_option maxRecDepth 4000 in
theorem bX3_insert_16 {d : Nat} (x0 : Nat) (x1 : Int32) (x2 : Int32) (x3 : Int32) (x4 : Int32) {iv : zI} {rv : zR} {lv : zJ} {Q : zI → zR → zJ → Prop} (hT : zTop rv) (m_x0 : x0 ∈ zIts)
    (h : (x4 ≤ 0 → Zv mX3_insert (d + 1) 93 [some (.ref x0), some (.int x1), some (.int x2), some (.int x3), some (.int x4)] [] iv rv lv Q) ∧ (¬ x4 ≤ 0 → ∃ Q1 : Int32 → zI → zR → zJ → Prop, Ci mX10_leastMember d [.int (x2 ||| x3)] iv rv lv Q1 ∧ ∀ (v6 : Int32) (iv2 : zI) (rv3 : zR) (lv4 : zJ), Q1 v6 iv2 rv3 lv4 → zTop rv3 ∧ (∃ Q7 : Int32 → zI → zR → zJ → Prop, Ci mX3_goesAhead d [.ref x0, .int x1, .int v6, .int (x4 - (1 : Int32))] iv2 rv3 lv4 Q7 ∧ ∀ (v12 : Int32) (iv8 : zI) (rv9 : zR) (lv10 : zJ), Q7 v12 iv8 rv9 lv10 → zTop rv9 ∧ ((v12 = 0 → Zv mX3_insert (d + 1) 93 [some (.ref x0), some (.int x1), some (.int x2), some (.int x3), some (.int x4)] [] iv8 rv9 lv10 Q) ∧ (¬ v12 = 0 → vp_in (x4 - (1 : Int32)) 10 ∧ (vp_in x4 10 ∧ (∀ iv15 : zI, iv15 = zu iv8 (x0 + 1) x4.toNatClampNeg (iv8 (x0 + 1) (x4 - (1 : Int32)).toNatClampNeg) → ∀ iv16 : zI, iv16 = zu iv15 (x0 + 2) x4.toNatClampNeg (iv15 (x0 + 2) (x4 - (1 : Int32)).toNatClampNeg) → ∀ iv17 : zI, iv17 = zu iv16 (x0 + 3) x4.toNatClampNeg (iv16 (x0 + 3) (x4 - (1 : Int32)).toNatClampNeg) → Zv mX3_insert (d + 1) 16 [some (.ref x0), some (.int x1), some (.int x2), some (.int x3), some (.int (x4 + -1))] [] iv17 rv9 lv10 Q))))))) :
    Zv mX3_insert (d + 1) 16 [some (.ref x0), some (.int x1), some (.int x2), some (.int x3), some (.int x4)] [] iv rv lv Q := by
  unfold Zv
  refine Z_iload (a := 4) (q := 18) (by decide +kernel) rfl rfl ?_
  refine Z_if_le (t := 93) (off := 75) (q := 21) (by decide +kernel) (by decide) rfl (fun hc => ?_) (fun hc => ?_)
  · replace h := h.1 hc
    exact h
  · replace h := h.2 hc
    refine Z_aload_n (a := 0) (q := 22) (by decide +kernel) rfl rfl ?_
    refine Z_iload_n (a := 1) (q := 23) (by decide +kernel) rfl rfl ?_
    refine Z_iload_n (a := 2) (q := 24) (by decide +kernel) rfl rfl ?_
    refine Z_iload_n (a := 3) (q := 25) (by decide +kernel) rfl rfl ?_
    refine Z_ior (q := 26) (by decide +kernel) rfl ?_
    obtain ⟨Q1, hm, h⟩ := h
    refine Z_callSNi (M2 := mX10_leastMember) (idx := 39) (d2 := d) (As := [.int _]) (q := 29) (by decide +kernel) kX10_leastMember nX3_39 rfl rfl (by decide +kernel) (Nat.le_of_ble_eq_true rfl) (Nat.le_refl _) hm rfl (fun v6 iv2 rv3 lv4 hq => ?_)
    obtain ⟨hT5, h⟩ := h v6 iv2 rv3 lv4 hq
    refine Z_iload (a := 4) (q := 31) (by decide +kernel) rfl rfl ?_
    refine Z_iconst (a := 1) (v := 1) (q := 32) (by decide +kernel) (by decide +kernel) rfl ?_
    refine Z_isub (q := 33) (by decide +kernel) rfl ?_
    obtain ⟨Q7, hm, h⟩ := h
    refine Z_callVi (M2 := mX3_goesAhead) (idx := 43) (d2 := d) (ci := 3) (As := [.int _, .int _, .int _]) (q := 36) (by decide +kernel) kX3_goesAhead lX3_43 rfl (hS3_0 m_x0) (hL3_0 m_x0) rfl rfl (by decide +kernel) (Nat.le_of_ble_eq_true rfl) (Nat.le_refl _) hm rfl (fun v12 iv8 rv9 lv10 hq => ?_)
    obtain ⟨hT11, h⟩ := h v12 iv8 rv9 lv10 hq
    refine Z_if_eq (t := 93) (off := 57) (q := 39) (by decide +kernel) (by decide) rfl (fun hc => ?_) (fun hc => ?_)
    · replace h := h.1 hc
      exact h
    · replace h := h.2 hc
      refine Z_aload_n (a := 0) (q := 40) (by decide +kernel) rfl rfl ?_
      refine g3_1 (idx := 15) (q := 43) (by decide +kernel) fX3_15 (hS3_0 m_x0) (hL3_0 m_x0) (t3_1 hT11 m_x0) rfl ?_
      refine Z_iload (a := 4) (q := 45) (by decide +kernel) rfl rfl ?_
      refine Z_aload_n (a := 0) (q := 46) (by decide +kernel) rfl rfl ?_
      refine g3_1 (idx := 15) (q := 49) (by decide +kernel) fX3_15 (hS3_0 m_x0) (hL3_0 m_x0) (t3_1 hT11 m_x0) rfl ?_
      refine Z_iload (a := 4) (q := 51) (by decide +kernel) rfl rfl ?_
      refine Z_iconst (a := 1) (v := 1) (q := 52) (by decide +kernel) (by decide +kernel) rfl ?_
      refine Z_isub (q := 53) (by decide +kernel) rfl ?_
      obtain ⟨hin13, h⟩ := h
      refine Z_iald (len := 10) (q := 54) (by decide +kernel) (hS3_1 m_x0) (hL3_1 m_x0) hin13 rfl ?_
      obtain ⟨hin14, h⟩ := h
      refine Z_iast (len := 10) (q := 55) (by decide +kernel) (hS3_1 m_x0) (hL3_1 m_x0) hin14 rfl ?_
      replace h := h _ rfl
      refine Z_aload_n (a := 0) (q := 56) (by decide +kernel) rfl rfl ?_
      refine g3_2 (idx := 19) (q := 59) (by decide +kernel) fX3_19 (hS3_0 m_x0) (hL3_0 m_x0) (t3_2 hT11 m_x0) rfl ?_
      refine Z_iload (a := 4) (q := 61) (by decide +kernel) rfl rfl ?_
      refine Z_aload_n (a := 0) (q := 62) (by decide +kernel) rfl rfl ?_
      refine g3_2 (idx := 19) (q := 65) (by decide +kernel) fX3_19 (hS3_0 m_x0) (hL3_0 m_x0) (t3_2 hT11 m_x0) rfl ?_
      refine Z_iload (a := 4) (q := 67) (by decide +kernel) rfl rfl ?_
      refine Z_iconst (a := 1) (v := 1) (q := 68) (by decide +kernel) (by decide +kernel) rfl ?_
      refine Z_isub (q := 69) (by decide +kernel) rfl ?_
      refine Z_iald (len := 10) (q := 70) (by decide +kernel) (hS3_2 m_x0) (hL3_2 m_x0) hin13 rfl ?_
      refine Z_iast (len := 10) (q := 71) (by decide +kernel) (hS3_2 m_x0) (hL3_2 m_x0) hin14 rfl ?_
      replace h := h _ rfl
      refine Z_aload_n (a := 0) (q := 72) (by decide +kernel) rfl rfl ?_
      refine g3_3 (idx := 22) (q := 75) (by decide +kernel) fX3_22 (hS3_0 m_x0) (hL3_0 m_x0) (t3_3 hT11 m_x0) rfl ?_
      refine Z_iload (a := 4) (q := 77) (by decide +kernel) rfl rfl ?_
      refine Z_aload_n (a := 0) (q := 78) (by decide +kernel) rfl rfl ?_
      refine g3_3 (idx := 22) (q := 81) (by decide +kernel) fX3_22 (hS3_0 m_x0) (hL3_0 m_x0) (t3_3 hT11 m_x0) rfl ?_
      refine Z_iload (a := 4) (q := 83) (by decide +kernel) rfl rfl ?_
      refine Z_iconst (a := 1) (v := 1) (q := 84) (by decide +kernel) (by decide +kernel) rfl ?_
      refine Z_isub (q := 85) (by decide +kernel) rfl ?_
      refine Z_iald (len := 10) (q := 86) (by decide +kernel) (hS3_3 m_x0) (hL3_3 m_x0) hin13 rfl ?_
      refine Z_iast (len := 10) (q := 87) (by decide +kernel) (hS3_3 m_x0) (hL3_3 m_x0) hin14 rfl ?_
      replace h := h _ rfl
      refine Z_iinc (a := 4) (b := -1) (v := _ + -1) (loc2 := [_, _, _, _, _]) (q := 90) (by decide +kernel) rfl (zdec _) (by decide +kernel) rfl rfl rfl ?_
      refine Z_goto (q := 16) (off := -74) (by decide +kernel) (by decide) ?_
      exact h
set_option maxRecDepth 4000 in
theorem bX3_insert_93 {d : Nat} (x0 : Nat) (x1 : Int32) (x2 : Int32) (x3 : Int32) (x4 : Int32) {iv : zI} {rv : zR} {lv : zJ} {Q : zI → zR → zJ → Prop} (hT : zTop rv) (m_x0 : x0 ∈ zIts)
    (h : vp_in x4 10 ∧ (∀ iv2 : zI, iv2 = zu iv (x0 + 1) x4.toNatClampNeg x1 → ∀ iv3 : zI, iv3 = zu iv2 (x0 + 2) x4.toNatClampNeg x2 → ∀ iv4 : zI, iv4 = zu iv3 (x0 + 3) x4.toNatClampNeg x3 → ∀ iv5 : zI, iv5 = zu iv4 x0 0 ((iv4 x0 0) + (1 : Int32)) → Q iv5 rv lv)) :
    Zv mX3_insert (d + 1) 93 [some (.ref x0), some (.int x1), some (.int x2), some (.int x3), some (.int x4)] [] iv rv lv Q := by
  unfold Zv
  refine Z_aload_n (a := 0) (q := 94) (by decide +kernel) rfl rfl ?_
  refine g3_1 (idx := 15) (q := 97) (by decide +kernel) fX3_15 (hS3_0 m_x0) (hL3_0 m_x0) (t3_1 hT m_x0) rfl ?_
  refine Z_iload (a := 4) (q := 99) (by decide +kernel) rfl rfl ?_
  refine Z_iload_n (a := 1) (q := 100) (by decide +kernel) rfl rfl ?_
  obtain ⟨hin1, h⟩ := h
  refine Z_iast (len := 10) (q := 101) (by decide +kernel) (hS3_1 m_x0) (hL3_1 m_x0) hin1 rfl ?_
  replace h := h _ rfl
  refine Z_aload_n (a := 0) (q := 102) (by decide +kernel) rfl rfl ?_
  refine g3_2 (idx := 19) (q := 105) (by decide +kernel) fX3_19 (hS3_0 m_x0) (hL3_0 m_x0) (t3_2 hT m_x0) rfl ?_
  refine Z_iload (a := 4) (q := 107) (by decide +kernel) rfl rfl ?_
  refine Z_iload_n (a := 2) (q := 108) (by decide +kernel) rfl rfl ?_
  refine Z_iast (len := 10) (q := 109) (by decide +kernel) (hS3_2 m_x0) (hL3_2 m_x0) hin1 rfl ?_
  replace h := h _ rfl
  refine Z_aload_n (a := 0) (q := 110) (by decide +kernel) rfl rfl ?_
  refine g3_3 (idx := 22) (q := 113) (by decide +kernel) fX3_22 (hS3_0 m_x0) (hL3_0 m_x0) (t3_3 hT m_x0) rfl ?_
  refine Z_iload (a := 4) (q := 115) (by decide +kernel) rfl rfl ?_
  refine Z_iload_n (a := 3) (q := 116) (by decide +kernel) rfl rfl ?_
  refine Z_iast (len := 10) (q := 117) (by decide +kernel) (hS3_3 m_x0) (hL3_3 m_x0) hin1 rfl ?_
  replace h := h _ rfl
  refine Z_aload_n (a := 0) (q := 118) (by decide +kernel) rfl rfl ?_
  refine Z_dup (q := 119) (by decide +kernel) rfl rfl ?_
  refine g3_0 (idx := 9) (q := 122) (by decide +kernel) fX3_9 (hS3_0 m_x0) (hL3_0 m_x0) rfl ?_
  refine Z_iconst (a := 1) (v := 1) (q := 123) (by decide +kernel) (by decide +kernel) rfl ?_
  refine Z_iadd (q := 124) (by decide +kernel) rfl ?_
  refine p3_0 (idx := 9) (q := 127) (by decide +kernel) fX3_9 (hS3_0 m_x0) (hL3_0 m_x0) rfl ?_
  replace h := h _ rfl
  exact Z_vret (by decide +kernel) rfl rfl ⟨rfl, h⟩
theorem eX3_goesAhead {d : Nat} (x0 : Nat) (x1 : Int32) (x2 : Int32) (x3 : Int32) {iv : zI} {rv : zR} {lv : zJ} {Q : Int32 → zI → zR → zJ → Prop} (h : Zi mX3_goesAhead (d + 1) 0 [some (.ref x0), some (.int x1), some (.int x2), some (.int x3)] [] iv rv lv Q) : Ci mX3_goesAhead (d + 1) [.ref x0, .int x1, .int x2, .int x3] iv rv lv Q := Ci.of (by decide +kernel) (by simp [Value.category]) (Nat.le_of_ble_eq_true rfl) rfl h
set_option maxRecDepth 4000 in
theorem bX3_goesAhead_0 {d : Nat} (x0 : Nat) (x1 : Int32) (x2 : Int32) (x3 : Int32) {iv : zI} {rv : zR} {lv : zJ} {Q : Int32 → zI → zR → zJ → Prop} (hT : zTop rv) (m_x0 : x0 ∈ zIts)
    (h : vp_in x3 10 ∧ (((iv (x0 + 1) x3.toNatClampNeg) < x1 → Q (1 : Int32) iv rv lv) ∧ (¬ (iv (x0 + 1) x3.toNatClampNeg) < x1 → (¬ x1 = (iv (x0 + 1) x3.toNatClampNeg) → Q (0 : Int32) iv rv lv) ∧ (x1 = (iv (x0 + 1) x3.toNatClampNeg) → ∃ Q2 : Int32 → zI → zR → zJ → Prop, Ci mX10_leastMember d [.int ((iv (x0 + 2) x3.toNatClampNeg) ||| (iv (x0 + 3) x3.toNatClampNeg))] iv rv lv Q2 ∧ ∀ (v7 : Int32) (iv3 : zI) (rv4 : zR) (lv5 : zJ), Q2 v7 iv3 rv4 lv5 → zTop rv4 ∧ ((v7 ≤ x2 → Q (0 : Int32) iv3 rv4 lv5) ∧ (¬ v7 ≤ x2 → Q (1 : Int32) iv3 rv4 lv5)))))) :
    Zi mX3_goesAhead (d + 1) 0 [some (.ref x0), some (.int x1), some (.int x2), some (.int x3)] [] iv rv lv Q := by
  unfold Zi
  refine Z_iload_n (a := 1) (q := 1) (by decide +kernel) rfl rfl ?_
  refine Z_aload_n (a := 0) (q := 2) (by decide +kernel) rfl rfl ?_
  refine g3_1 (idx := 15) (q := 5) (by decide +kernel) fX3_15 (hS3_0 m_x0) (hL3_0 m_x0) (t3_1 hT m_x0) rfl ?_
  refine Z_iload_n (a := 3) (q := 6) (by decide +kernel) rfl rfl ?_
  obtain ⟨hin1, h⟩ := h
  refine Z_iald (len := 10) (q := 7) (by decide +kernel) (hS3_1 m_x0) (hL3_1 m_x0) hin1 rfl ?_
  refine Z_icmp_gt (t := 40) (off := 33) (q := 10) (by decide +kernel) (by decide) rfl (fun hc => ?_) (fun hc => ?_)
  · replace h := h.1 hc
    refine Z_iconst (a := 1) (v := 1) (q := 41) (by decide +kernel) (by decide +kernel) rfl ?_
    refine Z_goto (q := 45) (off := 4) (by decide +kernel) (by decide) ?_
    exact Z_iret (ty := .boolean) (by decide +kernel) rfl rfl rfl ⟨_, rfl, h⟩
  · replace h := h.2 hc
    refine Z_iload_n (a := 1) (q := 11) (by decide +kernel) rfl rfl ?_
    refine Z_aload_n (a := 0) (q := 12) (by decide +kernel) rfl rfl ?_
    refine g3_1 (idx := 15) (q := 15) (by decide +kernel) fX3_15 (hS3_0 m_x0) (hL3_0 m_x0) (t3_1 hT m_x0) rfl ?_
    refine Z_iload_n (a := 3) (q := 16) (by decide +kernel) rfl rfl ?_
    refine Z_iald (len := 10) (q := 17) (by decide +kernel) (hS3_1 m_x0) (hL3_1 m_x0) hin1 rfl ?_
    refine Z_icmp_ne (t := 44) (off := 27) (q := 20) (by decide +kernel) (by decide) rfl (fun hc => ?_) (fun hc => ?_)
    · replace h := h.1 hc
      refine Z_iconst (a := 0) (v := 0) (q := 45) (by decide +kernel) (by decide +kernel) rfl ?_
      exact Z_iret (ty := .boolean) (by decide +kernel) rfl rfl rfl ⟨_, rfl, h⟩
    · replace h := h.2 hc
      refine Z_iload_n (a := 2) (q := 21) (by decide +kernel) rfl rfl ?_
      refine Z_aload_n (a := 0) (q := 22) (by decide +kernel) rfl rfl ?_
      refine g3_2 (idx := 19) (q := 25) (by decide +kernel) fX3_19 (hS3_0 m_x0) (hL3_0 m_x0) (t3_2 hT m_x0) rfl ?_
      refine Z_iload_n (a := 3) (q := 26) (by decide +kernel) rfl rfl ?_
      refine Z_iald (len := 10) (q := 27) (by decide +kernel) (hS3_2 m_x0) (hL3_2 m_x0) hin1 rfl ?_
      refine Z_aload_n (a := 0) (q := 28) (by decide +kernel) rfl rfl ?_
      refine g3_3 (idx := 22) (q := 31) (by decide +kernel) fX3_22 (hS3_0 m_x0) (hL3_0 m_x0) (t3_3 hT m_x0) rfl ?_
      refine Z_iload_n (a := 3) (q := 32) (by decide +kernel) rfl rfl ?_
      refine Z_iald (len := 10) (q := 33) (by decide +kernel) (hS3_3 m_x0) (hL3_3 m_x0) hin1 rfl ?_
      refine Z_ior (q := 34) (by decide +kernel) rfl ?_
      obtain ⟨Q2, hm, h⟩ := h
      refine Z_callSNi (M2 := mX10_leastMember) (idx := 39) (d2 := d) (As := [.int _]) (q := 37) (by decide +kernel) kX10_leastMember nX3_39 rfl rfl (by decide +kernel) (Nat.le_of_ble_eq_true rfl) (Nat.le_refl _) hm rfl (fun v7 iv3 rv4 lv5 hq => ?_)
      obtain ⟨hT6, h⟩ := h v7 iv3 rv4 lv5 hq
      refine Z_icmp_ge (t := 44) (off := 7) (q := 40) (by decide +kernel) (by decide) rfl (fun hc => ?_) (fun hc => ?_)
      · replace h := h.1 hc
        refine Z_iconst (a := 0) (v := 0) (q := 45) (by decide +kernel) (by decide +kernel) rfl ?_
        exact Z_iret (ty := .boolean) (by decide +kernel) rfl rfl rfl ⟨_, rfl, h⟩
      · replace h := h.2 hc
        refine Z_iconst (a := 1) (v := 1) (q := 41) (by decide +kernel) (by decide +kernel) rfl ?_
        refine Z_goto (q := 45) (off := 4) (by decide +kernel) (by decide) ?_
        exact Z_iret (ty := .boolean) (by decide +kernel) rfl rfl rfl ⟨_, rfl, h⟩
theorem eX3_firstLessOthers {d : Nat} (x0 : Nat) {iv : zI} {rv : zR} {lv : zJ} {Q : Int32 → zI → zR → zJ → Prop} (h : Zi mX3_firstLessOthers d 0 [some (.ref x0), none, none] [] iv rv lv Q) : Ci mX3_firstLessOthers d [.ref x0] iv rv lv Q := Ci.of (by decide +kernel) (by simp [Value.category]) (Nat.le_of_ble_eq_true rfl) rfl h
set_option maxRecDepth 4000 in
theorem bX3_firstLessOthers_0 {d : Nat} (x0 : Nat) {iv : zI} {rv : zR} {lv : zJ} {Q : Int32 → zI → zR → zJ → Prop} (hT : zTop rv) (m_x0 : x0 ∈ zIts)
    (h : Zi mX3_firstLessOthers d 9 [some (.ref x0), some (.int (iv (x0 + 1) 0)), some (.int (1 : Int32))] [] iv rv lv Q) :
    Zi mX3_firstLessOthers d 0 [some (.ref x0), none, none] [] iv rv lv Q := by
  unfold Zi
  refine Z_aload_n (a := 0) (q := 1) (by decide +kernel) rfl rfl ?_
  refine g3_1 (idx := 15) (q := 4) (by decide +kernel) fX3_15 (hS3_0 m_x0) (hL3_0 m_x0) (t3_1 hT m_x0) rfl ?_
  refine Z_iconst (a := 0) (v := 0) (q := 5) (by decide +kernel) (by decide +kernel) rfl ?_
  refine Z_iald (len := 10) (q := 6) (by decide +kernel) (hS3_1 m_x0) (hL3_1 m_x0) (by unfold vp_in; decide) rfl ?_
  refine Z_istore_n (a := 1) (loc2 := [_, _, _]) (q := 7) (by decide +kernel) (by decide +kernel) rfl rfl rfl ?_
  refine Z_iconst (a := 1) (v := 1) (q := 8) (by decide +kernel) (by decide +kernel) rfl ?_
  refine Z_istore_n (a := 2) (loc2 := [_, _, _]) (q := 9) (by decide +kernel) (by decide +kernel) rfl rfl rfl ?_
  exact h
set_option maxRecDepth 4000 in
theorem bX3_firstLessOthers_9 {d : Nat} (x0 : Nat) (x1 : Int32) (x2 : Int32) {iv : zI} {rv : zR} {lv : zJ} {Q : Int32 → zI → zR → zJ → Prop} (hT : zTop rv) (m_x0 : x0 ∈ zIts)
    (h : ((iv x0 0) ≤ x2 → Q x1 iv rv lv) ∧ (¬ (iv x0 0) ≤ x2 → vp_in x2 10 ∧ (Zi mX3_firstLessOthers d 9 [some (.ref x0), some (.int (x1 - (iv (x0 + 1) x2.toNatClampNeg))), some (.int (x2 + 1))] [] iv rv lv Q))) :
    Zi mX3_firstLessOthers d 9 [some (.ref x0), some (.int x1), some (.int x2)] [] iv rv lv Q := by
  unfold Zi
  refine Z_iload_n (a := 2) (q := 10) (by decide +kernel) rfl rfl ?_
  refine Z_aload_n (a := 0) (q := 11) (by decide +kernel) rfl rfl ?_
  refine g3_0 (idx := 9) (q := 14) (by decide +kernel) fX3_9 (hS3_0 m_x0) (hL3_0 m_x0) rfl ?_
  refine Z_icmp_ge (t := 32) (off := 18) (q := 17) (by decide +kernel) (by decide) rfl (fun hc => ?_) (fun hc => ?_)
  · replace h := h.1 hc
    refine Z_iload_n (a := 1) (q := 33) (by decide +kernel) rfl rfl ?_
    exact Z_iret (ty := .int) (by decide +kernel) rfl rfl rfl ⟨_, rfl, h⟩
  · replace h := h.2 hc
    refine Z_iload_n (a := 1) (q := 18) (by decide +kernel) rfl rfl ?_
    refine Z_aload_n (a := 0) (q := 19) (by decide +kernel) rfl rfl ?_
    refine g3_1 (idx := 15) (q := 22) (by decide +kernel) fX3_15 (hS3_0 m_x0) (hL3_0 m_x0) (t3_1 hT m_x0) rfl ?_
    refine Z_iload_n (a := 2) (q := 23) (by decide +kernel) rfl rfl ?_
    obtain ⟨hin1, h⟩ := h
    refine Z_iald (len := 10) (q := 24) (by decide +kernel) (hS3_1 m_x0) (hL3_1 m_x0) hin1 rfl ?_
    refine Z_isub (q := 25) (by decide +kernel) rfl ?_
    refine Z_istore_n (a := 1) (loc2 := [_, _, _]) (q := 26) (by decide +kernel) (by decide +kernel) rfl rfl rfl ?_
    refine Z_iinc (a := 2) (b := 1) (v := _ + 1) (loc2 := [_, _, _]) (q := 29) (by decide +kernel) rfl (zinc _) (by decide +kernel) rfl rfl rfl ?_
    refine Z_goto (q := 9) (off := -20) (by decide +kernel) (by decide) ?_
    exact h
theorem eX3_leafFirstSide {d : Nat} (x0 : Nat) {iv : zI} {rv : zR} {lv : zJ} {Q : Int32 → zI → zR → zJ → Prop} (h : Zi mX3_leafFirstSide d 0 [some (.ref x0), none, none] [] iv rv lv Q) : Ci mX3_leafFirstSide d [.ref x0] iv rv lv Q := Ci.of (by decide +kernel) (by simp [Value.category]) (Nat.le_of_ble_eq_true rfl) rfl h
set_option maxRecDepth 4000 in
theorem bX3_leafFirstSide_0 {d : Nat} (x0 : Nat) {iv : zI} {rv : zR} {lv : zJ} {Q : Int32 → zI → zR → zJ → Prop} (hT : zTop rv) (m_x0 : x0 ∈ zIts)
    (h : Zi mX3_leafFirstSide d 9 [some (.ref x0), some (.int (iv (x0 + 2) 0)), some (.int (1 : Int32))] [] iv rv lv Q) :
    Zi mX3_leafFirstSide d 0 [some (.ref x0), none, none] [] iv rv lv Q := by
  unfold Zi
  refine Z_aload_n (a := 0) (q := 1) (by decide +kernel) rfl rfl ?_
  refine g3_2 (idx := 19) (q := 4) (by decide +kernel) fX3_19 (hS3_0 m_x0) (hL3_0 m_x0) (t3_2 hT m_x0) rfl ?_
  refine Z_iconst (a := 0) (v := 0) (q := 5) (by decide +kernel) (by decide +kernel) rfl ?_
  refine Z_iald (len := 10) (q := 6) (by decide +kernel) (hS3_2 m_x0) (hL3_2 m_x0) (by unfold vp_in; decide) rfl ?_
  refine Z_istore_n (a := 1) (loc2 := [_, _, _]) (q := 7) (by decide +kernel) (by decide +kernel) rfl rfl rfl ?_
  refine Z_iconst (a := 1) (v := 1) (q := 8) (by decide +kernel) (by decide +kernel) rfl ?_
  refine Z_istore_n (a := 2) (loc2 := [_, _, _]) (q := 9) (by decide +kernel) (by decide +kernel) rfl rfl rfl ?_
  exact h
set_option maxRecDepth 4000 in
theorem bX3_leafFirstSide_9 {d : Nat} (x0 : Nat) (x1 : Int32) (x2 : Int32) {iv : zI} {rv : zR} {lv : zJ} {Q : Int32 → zI → zR → zJ → Prop} (hT : zTop rv) (m_x0 : x0 ∈ zIts)
    (h : ((iv x0 0) ≤ x2 → Q x1 iv rv lv) ∧ (¬ (iv x0 0) ≤ x2 → vp_in x2 10 ∧ (Zi mX3_leafFirstSide d 9 [some (.ref x0), some (.int (x1 ||| (iv (x0 + 3) x2.toNatClampNeg))), some (.int (x2 + 1))] [] iv rv lv Q))) :
    Zi mX3_leafFirstSide d 9 [some (.ref x0), some (.int x1), some (.int x2)] [] iv rv lv Q := by
  unfold Zi
  refine Z_iload_n (a := 2) (q := 10) (by decide +kernel) rfl rfl ?_
  refine Z_aload_n (a := 0) (q := 11) (by decide +kernel) rfl rfl ?_
  refine g3_0 (idx := 9) (q := 14) (by decide +kernel) fX3_9 (hS3_0 m_x0) (hL3_0 m_x0) rfl ?_
  refine Z_icmp_ge (t := 32) (off := 18) (q := 17) (by decide +kernel) (by decide) rfl (fun hc => ?_) (fun hc => ?_)
  · replace h := h.1 hc
    refine Z_iload_n (a := 1) (q := 33) (by decide +kernel) rfl rfl ?_
    exact Z_iret (ty := .int) (by decide +kernel) rfl rfl rfl ⟨_, rfl, h⟩
  · replace h := h.2 hc
    refine Z_iload_n (a := 1) (q := 18) (by decide +kernel) rfl rfl ?_
    refine Z_aload_n (a := 0) (q := 19) (by decide +kernel) rfl rfl ?_
    refine g3_3 (idx := 22) (q := 22) (by decide +kernel) fX3_22 (hS3_0 m_x0) (hL3_0 m_x0) (t3_3 hT m_x0) rfl ?_
    refine Z_iload_n (a := 2) (q := 23) (by decide +kernel) rfl rfl ?_
    obtain ⟨hin1, h⟩ := h
    refine Z_iald (len := 10) (q := 24) (by decide +kernel) (hS3_3 m_x0) (hL3_3 m_x0) hin1 rfl ?_
    refine Z_ior (q := 25) (by decide +kernel) rfl ?_
    refine Z_istore_n (a := 1) (loc2 := [_, _, _]) (q := 26) (by decide +kernel) (by decide +kernel) rfl rfl rfl ?_
    refine Z_iinc (a := 2) (b := 1) (v := _ + 1) (loc2 := [_, _, _]) (q := 29) (by decide +kernel) rfl (zinc _) (by decide +kernel) rfl rfl rfl ?_
    refine Z_goto (q := 9) (off := -20) (by decide +kernel) (by decide) ?_
    exact h
