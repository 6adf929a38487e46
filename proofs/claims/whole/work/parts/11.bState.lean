/-! BLOCKS of X9, by program. -/
theorem eX9_copyFrom {d : Nat} (x0 : Nat) (x1 : Nat) {iv : zI} {rv : zR} {lv : zJ} {Q : zI → zR → zJ → Prop} (h : Zv mX9_copyFrom (d + 1) 0 [some (.ref x0), some (.ref x1)] [] iv rv lv Q) : Cv mX9_copyFrom (d + 1) [.ref x0, .ref x1] iv rv lv Q := Cv.of (by decide +kernel) (by simp [Value.category]) (Nat.le_of_ble_eq_true rfl) rfl h
set_option maxRecDepth 4000 in
theorem bX9_copyFrom_0 {d : Nat} (x0 : Nat) (x1 : Nat) {iv : zI} {rv : zR} {lv : zJ} {Q : zI → zR → zJ → Prop} (hT : zTop rv) (m_x0 : x0 ∈ zSts) (m_x1 : x1 ∈ zSts)
    (h : ∀ iv1 : zI, iv1 = zu iv x0 0 (iv x1 0) → ∀ iv2 : zI, iv2 = zu iv1 x0 1 (iv1 x1 1) → (∀ iv3 : zI, iv3 = (fun a => if a = (x0 + 1) then va_cpy (iv2 (x1 + 1)) (iv2 (x0 + 1)) 0 0 10 else iv2 a) → (∀ iv4 : zI, iv4 = (fun a => if a = (x0 + 2) then va_cpy (iv3 (x1 + 2)) (iv3 (x0 + 2)) 0 0 10 else iv3 a) → (∀ iv5 : zI, iv5 = (fun a => if a = (x0 + 3) then va_cpy (iv4 (x1 + 3)) (iv4 (x0 + 3)) 0 0 10 else iv4 a) → (∀ iv6 : zI, iv6 = (fun a => if a = (x0 + 4) then va_cpy (iv5 (x1 + 4)) (iv5 (x0 + 4)) 0 0 10 else iv5 a) → Q iv6 rv lv))))) :
    Zv mX9_copyFrom (d + 1) 0 [some (.ref x0), some (.ref x1)] [] iv rv lv Q := by
  unfold Zv
  refine Z_aload_n (a := 0) (q := 1) (by decide +kernel) rfl rfl ?_
  refine Z_aload_n (a := 1) (q := 2) (by decide +kernel) rfl rfl ?_
  refine g9_0 (idx := 9) (q := 5) (by decide +kernel) fX9_9 (hS9_0 m_x1) (hL9_0 m_x1) rfl ?_
  refine p9_0 (idx := 9) (q := 8) (by decide +kernel) fX9_9 (hS9_0 m_x0) (hL9_0 m_x0) rfl ?_
  replace h := h _ rfl
  refine Z_aload_n (a := 0) (q := 9) (by decide +kernel) rfl rfl ?_
  refine Z_aload_n (a := 1) (q := 10) (by decide +kernel) rfl rfl ?_
  refine g9_1 (idx := 15) (q := 13) (by decide +kernel) fX9_15 (hS9_0 m_x1) (hL9_0 m_x1) rfl ?_
  refine p9_1 (idx := 15) (q := 16) (by decide +kernel) fX9_15 (hS9_0 m_x0) (hL9_0 m_x0) rfl ?_
  replace h := h _ rfl
  refine Z_aload_n (a := 1) (q := 17) (by decide +kernel) rfl rfl ?_
  refine g9_2 (idx := 18) (q := 20) (by decide +kernel) fX9_18 (hS9_0 m_x1) (hL9_0 m_x1) (t9_2 hT m_x1) rfl ?_
  refine Z_iconst (a := 0) (v := 0) (q := 21) (by decide +kernel) (by decide +kernel) rfl ?_
  refine Z_aload_n (a := 0) (q := 22) (by decide +kernel) rfl rfl ?_
  refine g9_2 (idx := 18) (q := 25) (by decide +kernel) fX9_18 (hS9_0 m_x0) (hL9_0 m_x0) (t9_2 hT m_x0) rfl ?_
  refine Z_iconst (a := 0) (v := 0) (q := 26) (by decide +kernel) (by decide +kernel) rfl ?_
  refine Z_bipush (a := 10) (v := 10) (q := 28) (by decide +kernel) (by decide +kernel) rfl ?_
  refine Z_copyi (idx := 31) (q := 31) (by decide +kernel) lX9_31 (hS9_1 m_x1) (hL9_1 m_x1) (hS9_1 m_x0) (hL9_1 m_x0) (by decide) (by decide) (by decide) (by decide) (by decide) (Nat.le_of_ble_eq_true rfl) (Nat.le_add_left 1 d) rfl ?_
  replace h := h _ rfl
  refine Z_aload_n (a := 1) (q := 32) (by decide +kernel) rfl rfl ?_
  refine g9_3 (idx := 22) (q := 35) (by decide +kernel) fX9_22 (hS9_0 m_x1) (hL9_0 m_x1) (t9_3 hT m_x1) rfl ?_
  refine Z_iconst (a := 0) (v := 0) (q := 36) (by decide +kernel) (by decide +kernel) rfl ?_
  refine Z_aload_n (a := 0) (q := 37) (by decide +kernel) rfl rfl ?_
  refine g9_3 (idx := 22) (q := 40) (by decide +kernel) fX9_22 (hS9_0 m_x0) (hL9_0 m_x0) (t9_3 hT m_x0) rfl ?_
  refine Z_iconst (a := 0) (v := 0) (q := 41) (by decide +kernel) (by decide +kernel) rfl ?_
  refine Z_bipush (a := 10) (v := 10) (q := 43) (by decide +kernel) (by decide +kernel) rfl ?_
  refine Z_copyi (idx := 31) (q := 46) (by decide +kernel) lX9_31 (hS9_2 m_x1) (hL9_2 m_x1) (hS9_2 m_x0) (hL9_2 m_x0) (by decide) (by decide) (by decide) (by decide) (by decide) (Nat.le_of_ble_eq_true rfl) (Nat.le_add_left 1 d) rfl ?_
  replace h := h _ rfl
  refine Z_aload_n (a := 1) (q := 47) (by decide +kernel) rfl rfl ?_
  refine g9_4 (idx := 25) (q := 50) (by decide +kernel) fX9_25 (hS9_0 m_x1) (hL9_0 m_x1) (t9_4 hT m_x1) rfl ?_
  refine Z_iconst (a := 0) (v := 0) (q := 51) (by decide +kernel) (by decide +kernel) rfl ?_
  refine Z_aload_n (a := 0) (q := 52) (by decide +kernel) rfl rfl ?_
  refine g9_4 (idx := 25) (q := 55) (by decide +kernel) fX9_25 (hS9_0 m_x0) (hL9_0 m_x0) (t9_4 hT m_x0) rfl ?_
  refine Z_iconst (a := 0) (v := 0) (q := 56) (by decide +kernel) (by decide +kernel) rfl ?_
  refine Z_bipush (a := 10) (v := 10) (q := 58) (by decide +kernel) (by decide +kernel) rfl ?_
  refine Z_copyi (idx := 31) (q := 61) (by decide +kernel) lX9_31 (hS9_3 m_x1) (hL9_3 m_x1) (hS9_3 m_x0) (hL9_3 m_x0) (by decide) (by decide) (by decide) (by decide) (by decide) (Nat.le_of_ble_eq_true rfl) (Nat.le_add_left 1 d) rfl ?_
  replace h := h _ rfl
  refine Z_aload_n (a := 1) (q := 62) (by decide +kernel) rfl rfl ?_
  refine g9_5 (idx := 28) (q := 65) (by decide +kernel) fX9_28 (hS9_0 m_x1) (hL9_0 m_x1) (t9_5 hT m_x1) rfl ?_
  refine Z_iconst (a := 0) (v := 0) (q := 66) (by decide +kernel) (by decide +kernel) rfl ?_
  refine Z_aload_n (a := 0) (q := 67) (by decide +kernel) rfl rfl ?_
  refine g9_5 (idx := 28) (q := 70) (by decide +kernel) fX9_28 (hS9_0 m_x0) (hL9_0 m_x0) (t9_5 hT m_x0) rfl ?_
  refine Z_iconst (a := 0) (v := 0) (q := 71) (by decide +kernel) (by decide +kernel) rfl ?_
  refine Z_bipush (a := 10) (v := 10) (q := 73) (by decide +kernel) (by decide +kernel) rfl ?_
  refine Z_copyi (idx := 31) (q := 76) (by decide +kernel) lX9_31 (hS9_4 m_x1) (hL9_4 m_x1) (hS9_4 m_x0) (hL9_4 m_x0) (by decide) (by decide) (by decide) (by decide) (by decide) (Nat.le_of_ble_eq_true rfl) (Nat.le_add_left 1 d) rfl ?_
  replace h := h _ rfl
  exact Z_vret (by decide +kernel) rfl rfl ⟨rfl, h⟩
theorem eX9_empty {d : Nat} (x0 : Nat) {iv : zI} {rv : zR} {lv : zJ} {Q : zI → zR → zJ → Prop} (h : Zv mX9_empty d 0 [some (.ref x0)] [] iv rv lv Q) : Cv mX9_empty d [.ref x0] iv rv lv Q := Cv.of (by decide +kernel) (by simp [Value.category]) (Nat.le_of_ble_eq_true rfl) rfl h
set_option maxRecDepth 4000 in
theorem bX9_empty_0 {d : Nat} (x0 : Nat) {iv : zI} {rv : zR} {lv : zJ} {Q : zI → zR → zJ → Prop} (hT : zTop rv) (m_x0 : x0 ∈ zSts)
    (h : ∀ iv1 : zI, iv1 = zu iv x0 0 (0 : Int32) → ∀ iv2 : zI, iv2 = zu iv1 x0 1 (2 : Int32) → Q iv2 rv lv) :
    Zv mX9_empty d 0 [some (.ref x0)] [] iv rv lv Q := by
  unfold Zv
  refine Z_aload_n (a := 0) (q := 1) (by decide +kernel) rfl rfl ?_
  refine Z_iconst (a := 0) (v := 0) (q := 2) (by decide +kernel) (by decide +kernel) rfl ?_
  refine p9_0 (idx := 9) (q := 5) (by decide +kernel) fX9_9 (hS9_0 m_x0) (hL9_0 m_x0) rfl ?_
  replace h := h _ rfl
  refine Z_aload_n (a := 0) (q := 6) (by decide +kernel) rfl rfl ?_
  refine Z_iconst (a := 2) (v := 2) (q := 7) (by decide +kernel) (by decide +kernel) rfl ?_
  refine p9_1 (idx := 15) (q := 10) (by decide +kernel) fX9_15 (hS9_0 m_x0) (hL9_0 m_x0) rfl ?_
  replace h := h _ rfl
  exact Z_vret (by decide +kernel) rfl rfl ⟨rfl, h⟩
theorem eX9_append {d : Nat} (x0 : Nat) (x1 : Int32) {iv : zI} {rv : zR} {lv : zJ} {Q : zI → zR → zJ → Prop} (h : Zv mX9_append d 0 [some (.ref x0), some (.int x1)] [] iv rv lv Q) : Cv mX9_append d [.ref x0, .int x1] iv rv lv Q := Cv.of (by decide +kernel) (by simp [Value.category]) (Nat.le_of_ble_eq_true rfl) rfl h
set_option maxRecDepth 4000 in
theorem bX9_append_0 {d : Nat} (x0 : Nat) (x1 : Int32) {iv : zI} {rv : zR} {lv : zJ} {Q : zI → zR → zJ → Prop} (hT : zTop rv) (m_x0 : x0 ∈ zSts)
    (h : ((10 : Int32) ≤ (iv x0 0) → Q iv rv lv) ∧ (¬ (10 : Int32) ≤ (iv x0 0) → vp_in (iv x0 0) 10 ∧ (∀ iv2 : zI, iv2 = zu iv (x0 + 1) (iv x0 0).toNatClampNeg x1 → vp_in (iv2 x0 0) 10 ∧ (∀ iv4 : zI, iv4 = zu iv2 (x0 + 2) (iv2 x0 0).toNatClampNeg (-2 : Int32) → vp_in (iv4 x0 0) 10 ∧ (∀ iv6 : zI, iv6 = zu iv4 (x0 + 3) (iv4 x0 0).toNatClampNeg (0 : Int32) → ∀ iv7 : zI, iv7 = zu iv6 x0 0 ((iv6 x0 0) + (1 : Int32)) → Q iv7 rv lv))))) :
    Zv mX9_append d 0 [some (.ref x0), some (.int x1)] [] iv rv lv Q := by
  unfold Zv
  refine Z_aload_n (a := 0) (q := 1) (by decide +kernel) rfl rfl ?_
  refine g9_0 (idx := 9) (q := 4) (by decide +kernel) fX9_9 (hS9_0 m_x0) (hL9_0 m_x0) rfl ?_
  refine Z_bipush (a := 10) (v := 10) (q := 6) (by decide +kernel) (by decide +kernel) rfl ?_
  refine Z_icmp_ge (t := 50) (off := 44) (q := 9) (by decide +kernel) (by decide) rfl (fun hc => ?_) (fun hc => ?_)
  · replace h := h.1 hc
    exact Z_vret (by decide +kernel) rfl rfl ⟨rfl, h⟩
  · replace h := h.2 hc
    refine Z_aload_n (a := 0) (q := 10) (by decide +kernel) rfl rfl ?_
    refine g9_2 (idx := 18) (q := 13) (by decide +kernel) fX9_18 (hS9_0 m_x0) (hL9_0 m_x0) (t9_2 hT m_x0) rfl ?_
    refine Z_aload_n (a := 0) (q := 14) (by decide +kernel) rfl rfl ?_
    refine g9_0 (idx := 9) (q := 17) (by decide +kernel) fX9_9 (hS9_0 m_x0) (hL9_0 m_x0) rfl ?_
    refine Z_iload_n (a := 1) (q := 18) (by decide +kernel) rfl rfl ?_
    obtain ⟨hin1, h⟩ := h
    refine Z_iast (len := 10) (q := 19) (by decide +kernel) (hS9_1 m_x0) (hL9_1 m_x0) hin1 rfl ?_
    replace h := h _ rfl
    refine Z_aload_n (a := 0) (q := 20) (by decide +kernel) rfl rfl ?_
    refine g9_3 (idx := 22) (q := 23) (by decide +kernel) fX9_22 (hS9_0 m_x0) (hL9_0 m_x0) (t9_3 hT m_x0) rfl ?_
    refine Z_aload_n (a := 0) (q := 24) (by decide +kernel) rfl rfl ?_
    refine g9_0 (idx := 9) (q := 27) (by decide +kernel) fX9_9 (hS9_0 m_x0) (hL9_0 m_x0) rfl ?_
    refine Z_bipush (a := -2) (v := -2) (q := 29) (by decide +kernel) (by decide +kernel) rfl ?_
    obtain ⟨hin3, h⟩ := h
    refine Z_iast (len := 10) (q := 30) (by decide +kernel) (hS9_2 m_x0) (hL9_2 m_x0) hin3 rfl ?_
    replace h := h _ rfl
    refine Z_aload_n (a := 0) (q := 31) (by decide +kernel) rfl rfl ?_
    refine g9_4 (idx := 25) (q := 34) (by decide +kernel) fX9_25 (hS9_0 m_x0) (hL9_0 m_x0) (t9_4 hT m_x0) rfl ?_
    refine Z_aload_n (a := 0) (q := 35) (by decide +kernel) rfl rfl ?_
    refine g9_0 (idx := 9) (q := 38) (by decide +kernel) fX9_9 (hS9_0 m_x0) (hL9_0 m_x0) rfl ?_
    refine Z_iconst (a := 0) (v := 0) (q := 39) (by decide +kernel) (by decide +kernel) rfl ?_
    obtain ⟨hin5, h⟩ := h
    refine Z_iast (len := 10) (q := 40) (by decide +kernel) (hS9_3 m_x0) (hL9_3 m_x0) hin5 rfl ?_
    replace h := h _ rfl
    refine Z_aload_n (a := 0) (q := 41) (by decide +kernel) rfl rfl ?_
    refine Z_dup (q := 42) (by decide +kernel) rfl rfl ?_
    refine g9_0 (idx := 9) (q := 45) (by decide +kernel) fX9_9 (hS9_0 m_x0) (hL9_0 m_x0) rfl ?_
    refine Z_iconst (a := 1) (v := 1) (q := 46) (by decide +kernel) (by decide +kernel) rfl ?_
    refine Z_iadd (q := 47) (by decide +kernel) rfl ?_
    refine p9_0 (idx := 9) (q := 50) (by decide +kernel) fX9_9 (hS9_0 m_x0) (hL9_0 m_x0) rfl ?_
    replace h := h _ rfl
    exact Z_vret (by decide +kernel) rfl rfl ⟨rfl, h⟩
theorem eX9_remove {d : Nat} (x0 : Nat) (x1 : Int32) {iv : zI} {rv : zR} {lv : zJ} {Q : zI → zR → zJ → Prop} (h : Zv mX9_remove (d + 1) 0 [some (.ref x0), some (.int x1), none] [] iv rv lv Q) : Cv mX9_remove (d + 1) [.ref x0, .int x1] iv rv lv Q := Cv.of (by decide +kernel) (by simp [Value.category]) (Nat.le_of_ble_eq_true rfl) rfl h
set_option maxRecDepth 4000 in
theorem bX9_remove_0 {d : Nat} (x0 : Nat) (x1 : Int32) {iv : zI} {rv : zR} {lv : zJ} {Q : zI → zR → zJ → Prop} (hT : zTop rv) (m_x0 : x0 ∈ zSts)
    (h : Zv mX9_remove (d + 1) 2 [some (.ref x0), some (.int x1), some (.int (0 : Int32))] [] iv rv lv Q) :
    Zv mX9_remove (d + 1) 0 [some (.ref x0), some (.int x1), none] [] iv rv lv Q := by
  unfold Zv
  refine Z_iconst (a := 0) (v := 0) (q := 1) (by decide +kernel) (by decide +kernel) rfl ?_
  refine Z_istore_n (a := 2) (loc2 := [_, _, _]) (q := 2) (by decide +kernel) (by decide +kernel) rfl rfl rfl ?_
  exact h
set_option maxRecDepth 4000 in
theorem bX9_remove_2 {d : Nat} (x0 : Nat) (x1 : Int32) (x2 : Int32) {iv : zI} {rv : zR} {lv : zJ} {Q : zI → zR → zJ → Prop} (hT : zTop rv) (m_x0 : x0 ∈ zSts)
    (h : ((iv x0 0) ≤ x2 → Zv mX9_remove (d + 1) 34 [some (.ref x0), some (.int x1), some (.int x1)] [] iv rv lv Q) ∧ (¬ (iv x0 0) ≤ x2 → vp_in x2 10 ∧ (∃ Q2 : Int32 → zI → zR → zJ → Prop, Ci mX9_withoutBit d [.int (iv (x0 + 3) x2.toNatClampNeg), .int x1] iv rv lv Q2 ∧ ∀ (v7 : Int32) (iv3 : zI) (rv4 : zR) (lv5 : zJ), Q2 v7 iv3 rv4 lv5 → zTop rv4 ∧ (∀ iv8 : zI, iv8 = zu iv3 (x0 + 3) x2.toNatClampNeg v7 → Zv mX9_remove (d + 1) 2 [some (.ref x0), some (.int x1), some (.int (x2 + 1))] [] iv8 rv4 lv5 Q)))) :
    Zv mX9_remove (d + 1) 2 [some (.ref x0), some (.int x1), some (.int x2)] [] iv rv lv Q := by
  unfold Zv
  refine Z_iload_n (a := 2) (q := 3) (by decide +kernel) rfl rfl ?_
  refine Z_aload_n (a := 0) (q := 4) (by decide +kernel) rfl rfl ?_
  refine g9_0 (idx := 9) (q := 7) (by decide +kernel) fX9_9 (hS9_0 m_x0) (hL9_0 m_x0) rfl ?_
  refine Z_icmp_ge (t := 32) (off := 25) (q := 10) (by decide +kernel) (by decide) rfl (fun hc => ?_) (fun hc => ?_)
  · replace h := h.1 hc
    refine Z_iload_n (a := 1) (q := 33) (by decide +kernel) rfl rfl ?_
    refine Z_istore_n (a := 2) (loc2 := [_, _, _]) (q := 34) (by decide +kernel) (by decide +kernel) rfl rfl rfl ?_
    exact h
  · replace h := h.2 hc
    refine Z_aload_n (a := 0) (q := 11) (by decide +kernel) rfl rfl ?_
    refine g9_4 (idx := 25) (q := 14) (by decide +kernel) fX9_25 (hS9_0 m_x0) (hL9_0 m_x0) (t9_4 hT m_x0) rfl ?_
    refine Z_iload_n (a := 2) (q := 15) (by decide +kernel) rfl rfl ?_
    refine Z_aload_n (a := 0) (q := 16) (by decide +kernel) rfl rfl ?_
    refine g9_4 (idx := 25) (q := 19) (by decide +kernel) fX9_25 (hS9_0 m_x0) (hL9_0 m_x0) (t9_4 hT m_x0) rfl ?_
    refine Z_iload_n (a := 2) (q := 20) (by decide +kernel) rfl rfl ?_
    obtain ⟨hin1, h⟩ := h
    refine Z_iald (len := 10) (q := 21) (by decide +kernel) (hS9_3 m_x0) (hL9_3 m_x0) hin1 rfl ?_
    refine Z_iload_n (a := 1) (q := 22) (by decide +kernel) rfl rfl ?_
    obtain ⟨Q2, hm, h⟩ := h
    refine Z_callSi (M2 := mX9_withoutBit) (idx := 37) (d2 := d) (As := [.int _, .int _]) (q := 25) (by decide +kernel) kX9_withoutBit lX9_37 rfl rfl (by decide +kernel) (Nat.le_of_ble_eq_true rfl) (Nat.le_refl _) hm rfl (fun v7 iv3 rv4 lv5 hq => ?_)
    obtain ⟨hT6, h⟩ := h v7 iv3 rv4 lv5 hq
    refine Z_iast (len := 10) (q := 26) (by decide +kernel) (hS9_3 m_x0) (hL9_3 m_x0) hin1 rfl ?_
    replace h := h _ rfl
    refine Z_iinc (a := 2) (b := 1) (v := _ + 1) (loc2 := [_, _, _]) (q := 29) (by decide +kernel) rfl (zinc _) (by decide +kernel) rfl rfl rfl ?_
    refine Z_goto (q := 2) (off := -27) (by decide +kernel) (by decide) ?_
    exact h
set_option maxRecDepth 4000 in
theorem bX9_remove_34 {d : Nat} (x0 : Nat) (x1 : Int32) (x2 : Int32) {iv : zI} {rv : zR} {lv : zJ} {Q : zI → zR → zJ → Prop} (hT : zTop rv) (m_x0 : x0 ∈ zSts)
    (h : (((iv x0 0) - (1 : Int32)) ≤ x2 → ∀ iv1 : zI, iv1 = zu iv x0 0 ((iv x0 0) - (1 : Int32)) → Q iv1 rv lv) ∧ (¬ ((iv x0 0) - (1 : Int32)) ≤ x2 → vp_in (x2 + (1 : Int32)) 10 ∧ (vp_in x2 10 ∧ (∀ iv4 : zI, iv4 = zu iv (x0 + 1) x2.toNatClampNeg (iv (x0 + 1) (x2 + (1 : Int32)).toNatClampNeg) → ∀ iv5 : zI, iv5 = zu iv4 (x0 + 2) x2.toNatClampNeg (iv4 (x0 + 2) (x2 + (1 : Int32)).toNatClampNeg) → ∀ iv6 : zI, iv6 = zu iv5 (x0 + 3) x2.toNatClampNeg (iv5 (x0 + 3) (x2 + (1 : Int32)).toNatClampNeg) → Zv mX9_remove (d + 1) 34 [some (.ref x0), some (.int x1), some (.int (x2 + 1))] [] iv6 rv lv Q)))) :
    Zv mX9_remove (d + 1) 34 [some (.ref x0), some (.int x1), some (.int x2)] [] iv rv lv Q := by
  unfold Zv
  refine Z_iload_n (a := 2) (q := 35) (by decide +kernel) rfl rfl ?_
  refine Z_aload_n (a := 0) (q := 36) (by decide +kernel) rfl rfl ?_
  refine g9_0 (idx := 9) (q := 39) (by decide +kernel) fX9_9 (hS9_0 m_x0) (hL9_0 m_x0) rfl ?_
  refine Z_iconst (a := 1) (v := 1) (q := 40) (by decide +kernel) (by decide +kernel) rfl ?_
  refine Z_isub (q := 41) (by decide +kernel) rfl ?_
  refine Z_icmp_ge (t := 92) (off := 51) (q := 44) (by decide +kernel) (by decide) rfl (fun hc => ?_) (fun hc => ?_)
  · replace h := h.1 hc
    refine Z_aload_n (a := 0) (q := 93) (by decide +kernel) rfl rfl ?_
    refine Z_dup (q := 94) (by decide +kernel) rfl rfl ?_
    refine g9_0 (idx := 9) (q := 97) (by decide +kernel) fX9_9 (hS9_0 m_x0) (hL9_0 m_x0) rfl ?_
    refine Z_iconst (a := 1) (v := 1) (q := 98) (by decide +kernel) (by decide +kernel) rfl ?_
    refine Z_isub (q := 99) (by decide +kernel) rfl ?_
    refine p9_0 (idx := 9) (q := 102) (by decide +kernel) fX9_9 (hS9_0 m_x0) (hL9_0 m_x0) rfl ?_
    replace h := h _ rfl
    exact Z_vret (by decide +kernel) rfl rfl ⟨rfl, h⟩
  · replace h := h.2 hc
    refine Z_aload_n (a := 0) (q := 45) (by decide +kernel) rfl rfl ?_
    refine g9_2 (idx := 18) (q := 48) (by decide +kernel) fX9_18 (hS9_0 m_x0) (hL9_0 m_x0) (t9_2 hT m_x0) rfl ?_
    refine Z_iload_n (a := 2) (q := 49) (by decide +kernel) rfl rfl ?_
    refine Z_aload_n (a := 0) (q := 50) (by decide +kernel) rfl rfl ?_
    refine g9_2 (idx := 18) (q := 53) (by decide +kernel) fX9_18 (hS9_0 m_x0) (hL9_0 m_x0) (t9_2 hT m_x0) rfl ?_
    refine Z_iload_n (a := 2) (q := 54) (by decide +kernel) rfl rfl ?_
    refine Z_iconst (a := 1) (v := 1) (q := 55) (by decide +kernel) (by decide +kernel) rfl ?_
    refine Z_iadd (q := 56) (by decide +kernel) rfl ?_
    obtain ⟨hin2, h⟩ := h
    refine Z_iald (len := 10) (q := 57) (by decide +kernel) (hS9_1 m_x0) (hL9_1 m_x0) hin2 rfl ?_
    obtain ⟨hin3, h⟩ := h
    refine Z_iast (len := 10) (q := 58) (by decide +kernel) (hS9_1 m_x0) (hL9_1 m_x0) hin3 rfl ?_
    replace h := h _ rfl
    refine Z_aload_n (a := 0) (q := 59) (by decide +kernel) rfl rfl ?_
    refine g9_3 (idx := 22) (q := 62) (by decide +kernel) fX9_22 (hS9_0 m_x0) (hL9_0 m_x0) (t9_3 hT m_x0) rfl ?_
    refine Z_iload_n (a := 2) (q := 63) (by decide +kernel) rfl rfl ?_
    refine Z_aload_n (a := 0) (q := 64) (by decide +kernel) rfl rfl ?_
    refine g9_3 (idx := 22) (q := 67) (by decide +kernel) fX9_22 (hS9_0 m_x0) (hL9_0 m_x0) (t9_3 hT m_x0) rfl ?_
    refine Z_iload_n (a := 2) (q := 68) (by decide +kernel) rfl rfl ?_
    refine Z_iconst (a := 1) (v := 1) (q := 69) (by decide +kernel) (by decide +kernel) rfl ?_
    refine Z_iadd (q := 70) (by decide +kernel) rfl ?_
    refine Z_iald (len := 10) (q := 71) (by decide +kernel) (hS9_2 m_x0) (hL9_2 m_x0) hin2 rfl ?_
    refine Z_iast (len := 10) (q := 72) (by decide +kernel) (hS9_2 m_x0) (hL9_2 m_x0) hin3 rfl ?_
    replace h := h _ rfl
    refine Z_aload_n (a := 0) (q := 73) (by decide +kernel) rfl rfl ?_
    refine g9_4 (idx := 25) (q := 76) (by decide +kernel) fX9_25 (hS9_0 m_x0) (hL9_0 m_x0) (t9_4 hT m_x0) rfl ?_
    refine Z_iload_n (a := 2) (q := 77) (by decide +kernel) rfl rfl ?_
    refine Z_aload_n (a := 0) (q := 78) (by decide +kernel) rfl rfl ?_
    refine g9_4 (idx := 25) (q := 81) (by decide +kernel) fX9_25 (hS9_0 m_x0) (hL9_0 m_x0) (t9_4 hT m_x0) rfl ?_
    refine Z_iload_n (a := 2) (q := 82) (by decide +kernel) rfl rfl ?_
    refine Z_iconst (a := 1) (v := 1) (q := 83) (by decide +kernel) (by decide +kernel) rfl ?_
    refine Z_iadd (q := 84) (by decide +kernel) rfl ?_
    refine Z_iald (len := 10) (q := 85) (by decide +kernel) (hS9_3 m_x0) (hL9_3 m_x0) hin2 rfl ?_
    refine Z_iast (len := 10) (q := 86) (by decide +kernel) (hS9_3 m_x0) (hL9_3 m_x0) hin3 rfl ?_
    replace h := h _ rfl
    refine Z_iinc (a := 2) (b := 1) (v := _ + 1) (loc2 := [_, _, _]) (q := 89) (by decide +kernel) rfl (zinc _) (by decide +kernel) rfl rfl rfl ?_
    refine Z_goto (q := 34) (off := -55) (by decide +kernel) (by decide) ?_
    exact h
theorem eX9_withoutBit {d : Nat} (x0 : Int32) (x1 : Int32) {iv : zI} {rv : zR} {lv : zJ} {Q : Int32 → zI → zR → zJ → Prop} (h : Zi mX9_withoutBit d 0 [some (.int x0), some (.int x1), none, none] [] iv rv lv Q) : Ci mX9_withoutBit d [.int x0, .int x1] iv rv lv Q := Ci.of (by decide +kernel) (by simp [Value.category]) (Nat.le_of_ble_eq_true rfl) rfl h
set_option maxRecDepth 4000 in
theorem bX9_withoutBit_0 {d : Nat} (x0 : Int32) (x1 : Int32) {iv : zI} {rv : zR} {lv : zJ} {Q : Int32 → zI → zR → zJ → Prop} (hT : zTop rv) 
    (h : Q ((x0 &&& (((1 : Int32) <<< (x1 &&& 31)) - (1 : Int32))) ||| ((x0 >>> ((x1 + (1 : Int32)) &&& 31)) <<< (x1 &&& 31))) iv rv lv) :
    Zi mX9_withoutBit d 0 [some (.int x0), some (.int x1), none, none] [] iv rv lv Q := by
  unfold Zi
  refine Z_iload_n (a := 0) (q := 1) (by decide +kernel) rfl rfl ?_
  refine Z_iconst (a := 1) (v := 1) (q := 2) (by decide +kernel) (by decide +kernel) rfl ?_
  refine Z_iload_n (a := 1) (q := 3) (by decide +kernel) rfl rfl ?_
  refine Z_ishl (q := 4) (by decide +kernel) rfl ?_
  refine Z_iconst (a := 1) (v := 1) (q := 5) (by decide +kernel) (by decide +kernel) rfl ?_
  refine Z_isub (q := 6) (by decide +kernel) rfl ?_
  refine Z_iand (q := 7) (by decide +kernel) rfl ?_
  refine Z_istore_n (a := 2) (loc2 := [_, _, _, _]) (q := 8) (by decide +kernel) (by decide +kernel) rfl rfl rfl ?_
  refine Z_iload_n (a := 0) (q := 9) (by decide +kernel) rfl rfl ?_
  refine Z_iload_n (a := 1) (q := 10) (by decide +kernel) rfl rfl ?_
  refine Z_iconst (a := 1) (v := 1) (q := 11) (by decide +kernel) (by decide +kernel) rfl ?_
  refine Z_iadd (q := 12) (by decide +kernel) rfl ?_
  refine Z_ishr (q := 13) (by decide +kernel) rfl ?_
  refine Z_istore_n (a := 3) (loc2 := [_, _, _, _]) (q := 14) (by decide +kernel) (by decide +kernel) rfl rfl rfl ?_
  refine Z_iload_n (a := 2) (q := 15) (by decide +kernel) rfl rfl ?_
  refine Z_iload_n (a := 3) (q := 16) (by decide +kernel) rfl rfl ?_
  refine Z_iload_n (a := 1) (q := 17) (by decide +kernel) rfl rfl ?_
  refine Z_ishl (q := 18) (by decide +kernel) rfl ?_
  refine Z_ior (q := 19) (by decide +kernel) rfl ?_
  exact Z_iret (ty := .int) (by decide +kernel) rfl rfl rfl ⟨_, rfl, h⟩
theorem eX9_layBySize {d : Nat} (x0 : Nat) (x1 : Nat) {iv : zI} {rv : zR} {lv : zJ} {Q : zI → zR → zJ → Prop} (h : Zv mX9_layBySize (d + 1) 0 [some (.ref x0), some (.ref x1), none, none, none] [] iv rv lv Q) : Cv mX9_layBySize (d + 1) [.ref x0, .ref x1] iv rv lv Q := Cv.of (by decide +kernel) (by simp [Value.category]) (Nat.le_of_ble_eq_true rfl) rfl h
set_option maxRecDepth 4000 in
theorem bX9_layBySize_0 {d : Nat} (x0 : Nat) (x1 : Nat) {iv : zI} {rv : zR} {lv : zJ} {Q : zI → zR → zJ → Prop} (hT : zTop rv) (m_x0 : x0 ∈ zSts) (m_x1 : x1 ∈ zSts)
    (h : Zv mX9_layBySize (d + 1) 2 [some (.ref x0), some (.ref x1), some (.int (0 : Int32)), none, none] [] iv rv lv Q) :
    Zv mX9_layBySize (d + 1) 0 [some (.ref x0), some (.ref x1), none, none, none] [] iv rv lv Q := by
  unfold Zv
  refine Z_iconst (a := 0) (v := 0) (q := 1) (by decide +kernel) (by decide +kernel) rfl ?_
  refine Z_istore_n (a := 2) (loc2 := [_, _, _, _, _]) (q := 2) (by decide +kernel) (by decide +kernel) rfl rfl rfl ?_
  exact h
set_option maxRecDepth 4000 in
theorem bX9_layBySize_2 {d : Nat} (x0 : Nat) (x1 : Nat) (x2 : Int32) {iv : zI} {rv : zR} {lv : zJ} {Q : zI → zR → zJ → Prop} (hT : zTop rv) (m_x0 : x0 ∈ zSts) (m_x1 : x1 ∈ zSts)
    (h : ((iv x0 0) ≤ x2 → Q iv rv lv) ∧ (¬ (iv x0 0) ≤ x2 → vp_in x2 10 ∧ (vp_in (iv (x1 + 4) x2.toNatClampNeg) 10 ∧ (∀ iv3 : zI, iv3 = zu iv (x0 + 1) x2.toNatClampNeg (iv (x1 + 1) (iv (x1 + 4) x2.toNatClampNeg).toNatClampNeg) → ∀ iv4 : zI, iv4 = zu iv3 (x0 + 2) x2.toNatClampNeg (iv3 (x1 + 2) (iv (x1 + 4) x2.toNatClampNeg).toNatClampNeg) → ∀ iv5 : zI, iv5 = zu iv4 (x0 + 3) x2.toNatClampNeg (0 : Int32) → Zv mX9_layBySize (d + 1) 51 [some (.ref x0), some (.ref x1), some (.int x2), some (.int (iv (x1 + 4) x2.toNatClampNeg)), some (.int (0 : Int32))] [] iv5 rv lv Q)))) :
    Zv mX9_layBySize (d + 1) 2 [some (.ref x0), some (.ref x1), some (.int x2), none, none] [] iv rv lv Q := by
  unfold Zv
  refine Z_iload_n (a := 2) (q := 3) (by decide +kernel) rfl rfl ?_
  refine Z_aload_n (a := 0) (q := 4) (by decide +kernel) rfl rfl ?_
  refine g9_0 (idx := 9) (q := 7) (by decide +kernel) fX9_9 (hS9_0 m_x0) (hL9_0 m_x0) rfl ?_
  refine Z_icmp_ge (t := 100) (off := 93) (q := 10) (by decide +kernel) (by decide) rfl (fun hc => ?_) (fun hc => ?_)
  · replace h := h.1 hc
    exact Z_vret (by decide +kernel) rfl rfl ⟨rfl, h⟩
  · replace h := h.2 hc
    refine Z_aload_n (a := 1) (q := 11) (by decide +kernel) rfl rfl ?_
    refine g9_5 (idx := 28) (q := 14) (by decide +kernel) fX9_28 (hS9_0 m_x1) (hL9_0 m_x1) (t9_5 hT m_x1) rfl ?_
    refine Z_iload_n (a := 2) (q := 15) (by decide +kernel) rfl rfl ?_
    obtain ⟨hin1, h⟩ := h
    refine Z_iald (len := 10) (q := 16) (by decide +kernel) (hS9_4 m_x1) (hL9_4 m_x1) hin1 rfl ?_
    refine Z_istore_n (a := 3) (loc2 := [_, _, _, _, _]) (q := 17) (by decide +kernel) (by decide +kernel) rfl rfl rfl ?_
    refine Z_aload_n (a := 0) (q := 18) (by decide +kernel) rfl rfl ?_
    refine g9_2 (idx := 18) (q := 21) (by decide +kernel) fX9_18 (hS9_0 m_x0) (hL9_0 m_x0) (t9_2 hT m_x0) rfl ?_
    refine Z_iload_n (a := 2) (q := 22) (by decide +kernel) rfl rfl ?_
    refine Z_aload_n (a := 1) (q := 23) (by decide +kernel) rfl rfl ?_
    refine g9_2 (idx := 18) (q := 26) (by decide +kernel) fX9_18 (hS9_0 m_x1) (hL9_0 m_x1) (t9_2 hT m_x1) rfl ?_
    refine Z_iload_n (a := 3) (q := 27) (by decide +kernel) rfl rfl ?_
    obtain ⟨hin2, h⟩ := h
    refine Z_iald (len := 10) (q := 28) (by decide +kernel) (hS9_1 m_x1) (hL9_1 m_x1) hin2 rfl ?_
    refine Z_iast (len := 10) (q := 29) (by decide +kernel) (hS9_1 m_x0) (hL9_1 m_x0) hin1 rfl ?_
    replace h := h _ rfl
    refine Z_aload_n (a := 0) (q := 30) (by decide +kernel) rfl rfl ?_
    refine g9_3 (idx := 22) (q := 33) (by decide +kernel) fX9_22 (hS9_0 m_x0) (hL9_0 m_x0) (t9_3 hT m_x0) rfl ?_
    refine Z_iload_n (a := 2) (q := 34) (by decide +kernel) rfl rfl ?_
    refine Z_aload_n (a := 1) (q := 35) (by decide +kernel) rfl rfl ?_
    refine g9_3 (idx := 22) (q := 38) (by decide +kernel) fX9_22 (hS9_0 m_x1) (hL9_0 m_x1) (t9_3 hT m_x1) rfl ?_
    refine Z_iload_n (a := 3) (q := 39) (by decide +kernel) rfl rfl ?_
    refine Z_iald (len := 10) (q := 40) (by decide +kernel) (hS9_2 m_x1) (hL9_2 m_x1) hin2 rfl ?_
    refine Z_iast (len := 10) (q := 41) (by decide +kernel) (hS9_2 m_x0) (hL9_2 m_x0) hin1 rfl ?_
    replace h := h _ rfl
    refine Z_aload_n (a := 0) (q := 42) (by decide +kernel) rfl rfl ?_
    refine g9_4 (idx := 25) (q := 45) (by decide +kernel) fX9_25 (hS9_0 m_x0) (hL9_0 m_x0) (t9_4 hT m_x0) rfl ?_
    refine Z_iload_n (a := 2) (q := 46) (by decide +kernel) rfl rfl ?_
    refine Z_iconst (a := 0) (v := 0) (q := 47) (by decide +kernel) (by decide +kernel) rfl ?_
    refine Z_iast (len := 10) (q := 48) (by decide +kernel) (hS9_3 m_x0) (hL9_3 m_x0) hin1 rfl ?_
    replace h := h _ rfl
    refine Z_iconst (a := 0) (v := 0) (q := 49) (by decide +kernel) (by decide +kernel) rfl ?_
    refine Z_istore (a := 4) (loc2 := [_, _, _, _, _]) (q := 51) (by decide +kernel) (by decide +kernel) rfl rfl rfl ?_
    exact h
set_option maxRecDepth 4000 in
theorem bX9_layBySize_51 {d : Nat} (x0 : Nat) (x1 : Nat) (x2 : Int32) (x3 : Int32) (x4 : Int32) {iv : zI} {rv : zR} {lv : zJ} {Q : zI → zR → zJ → Prop} (hT : zTop rv) (m_x0 : x0 ∈ zSts) (m_x1 : x1 ∈ zSts)
    (h : ((iv x0 0) ≤ x4 → Zv mX9_layBySize (d + 1) 2 [some (.ref x0), some (.ref x1), some (.int (x2 + 1)), none, none] [] iv rv lv Q) ∧ (¬ (iv x0 0) ≤ x4 → vp_in x4 10 ∧ (∃ Q2 : Int32 → zI → zR → zJ → Prop, Ci mX9_areApart d [.ref x1, .int x3, .int (iv (x1 + 4) x4.toNatClampNeg)] iv rv lv Q2 ∧ ∀ (v7 : Int32) (iv3 : zI) (rv4 : zR) (lv5 : zJ), Q2 v7 iv3 rv4 lv5 → zTop rv4 ∧ ((v7 = 0 → Zv mX9_layBySize (d + 1) 51 [some (.ref x0), some (.ref x1), some (.int x2), some (.int x3), some (.int (x4 + 1))] [] iv3 rv4 lv5 Q) ∧ (¬ v7 = 0 → vp_in x2 10 ∧ (∀ iv9 : zI, iv9 = zu iv3 (x0 + 3) x2.toNatClampNeg ((iv3 (x0 + 3) x2.toNatClampNeg) ||| ((1 : Int32) <<< (x4 &&& 31))) → Zv mX9_layBySize (d + 1) 51 [some (.ref x0), some (.ref x1), some (.int x2), some (.int x3), some (.int (x4 + 1))] [] iv9 rv4 lv5 Q)))))) :
    Zv mX9_layBySize (d + 1) 51 [some (.ref x0), some (.ref x1), some (.int x2), some (.int x3), some (.int x4)] [] iv rv lv Q := by
  unfold Zv
  refine Z_iload (a := 4) (q := 53) (by decide +kernel) rfl rfl ?_
  refine Z_aload_n (a := 0) (q := 54) (by decide +kernel) rfl rfl ?_
  refine g9_0 (idx := 9) (q := 57) (by decide +kernel) fX9_9 (hS9_0 m_x0) (hL9_0 m_x0) rfl ?_
  refine Z_icmp_ge (t := 94) (off := 37) (q := 60) (by decide +kernel) (by decide) rfl (fun hc => ?_) (fun hc => ?_)
  · replace h := h.1 hc
    refine Z_iinc (a := 2) (b := 1) (v := _ + 1) (loc2 := [_, _, _, _, _]) (q := 97) (by decide +kernel) rfl (zinc _) (by decide +kernel) rfl rfl rfl ?_
    refine Z_goto (q := 2) (off := -95) (by decide +kernel) (by decide) ?_
    exact Z_forget h (And.intro rfl (And.intro rfl (And.intro rfl trivial)))
  · replace h := h.2 hc
    refine Z_aload_n (a := 1) (q := 61) (by decide +kernel) rfl rfl ?_
    refine Z_iload_n (a := 3) (q := 62) (by decide +kernel) rfl rfl ?_
    refine Z_aload_n (a := 1) (q := 63) (by decide +kernel) rfl rfl ?_
    refine g9_5 (idx := 28) (q := 66) (by decide +kernel) fX9_28 (hS9_0 m_x1) (hL9_0 m_x1) (t9_5 hT m_x1) rfl ?_
    refine Z_iload (a := 4) (q := 68) (by decide +kernel) rfl rfl ?_
    obtain ⟨hin1, h⟩ := h
    refine Z_iald (len := 10) (q := 69) (by decide +kernel) (hS9_4 m_x1) (hL9_4 m_x1) hin1 rfl ?_
    obtain ⟨Q2, hm, h⟩ := h
    refine Z_callVi (M2 := mX9_areApart) (idx := 41) (d2 := d) (ci := 9) (As := [.int _, .int _]) (q := 72) (by decide +kernel) kX9_areApart lX9_41 rfl (hS9_0 m_x1) (hL9_0 m_x1) rfl rfl (by decide +kernel) (Nat.le_of_ble_eq_true rfl) (Nat.le_refl _) hm rfl (fun v7 iv3 rv4 lv5 hq => ?_)
    obtain ⟨hT6, h⟩ := h v7 iv3 rv4 lv5 hq
    refine Z_if_eq (t := 88) (off := 16) (q := 75) (by decide +kernel) (by decide) rfl (fun hc => ?_) (fun hc => ?_)
    · replace h := h.1 hc
      refine Z_iinc (a := 4) (b := 1) (v := _ + 1) (loc2 := [_, _, _, _, _]) (q := 91) (by decide +kernel) rfl (zinc _) (by decide +kernel) rfl rfl rfl ?_
      refine Z_goto (q := 51) (off := -40) (by decide +kernel) (by decide) ?_
      exact h
    · replace h := h.2 hc
      refine Z_aload_n (a := 0) (q := 76) (by decide +kernel) rfl rfl ?_
      refine g9_4 (idx := 25) (q := 79) (by decide +kernel) fX9_25 (hS9_0 m_x0) (hL9_0 m_x0) (t9_4 hT6 m_x0) rfl ?_
      refine Z_iload_n (a := 2) (q := 80) (by decide +kernel) rfl rfl ?_
      refine Z_dup2 (q := 81) (by decide +kernel) rfl rfl rfl ?_
      obtain ⟨hin8, h⟩ := h
      refine Z_iald (len := 10) (q := 82) (by decide +kernel) (hS9_3 m_x0) (hL9_3 m_x0) hin8 rfl ?_
      refine Z_iconst (a := 1) (v := 1) (q := 83) (by decide +kernel) (by decide +kernel) rfl ?_
      refine Z_iload (a := 4) (q := 85) (by decide +kernel) rfl rfl ?_
      refine Z_ishl (q := 86) (by decide +kernel) rfl ?_
      refine Z_ior (q := 87) (by decide +kernel) rfl ?_
      refine Z_iast (len := 10) (q := 88) (by decide +kernel) (hS9_3 m_x0) (hL9_3 m_x0) hin8 rfl ?_
      replace h := h _ rfl
      refine Z_iinc (a := 4) (b := 1) (v := _ + 1) (loc2 := [_, _, _, _, _]) (q := 91) (by decide +kernel) rfl (zinc _) (by decide +kernel) rfl rfl rfl ?_
      refine Z_goto (q := 51) (off := -40) (by decide +kernel) (by decide) ?_
      exact h
theorem eX9_orderBySize {d : Nat} (x0 : Nat) {iv : zI} {rv : zR} {lv : zJ} {Q : zI → zR → zJ → Prop} (h : Zv mX9_orderBySize d 0 [some (.ref x0), none, none] [] iv rv lv Q) : Cv mX9_orderBySize d [.ref x0] iv rv lv Q := Cv.of (by decide +kernel) (by simp [Value.category]) (Nat.le_of_ble_eq_true rfl) rfl h
set_option maxRecDepth 4000 in
theorem bX9_orderBySize_0 {d : Nat} (x0 : Nat) {iv : zI} {rv : zR} {lv : zJ} {Q : zI → zR → zJ → Prop} (hT : zTop rv) (m_x0 : x0 ∈ zSts)
    (h : Zv mX9_orderBySize d 2 [some (.ref x0), some (.int (0 : Int32)), none] [] iv rv lv Q) :
    Zv mX9_orderBySize d 0 [some (.ref x0), none, none] [] iv rv lv Q := by
  unfold Zv
  refine Z_iconst (a := 0) (v := 0) (q := 1) (by decide +kernel) (by decide +kernel) rfl ?_
  refine Z_istore_n (a := 1) (loc2 := [_, _, _]) (q := 2) (by decide +kernel) (by decide +kernel) rfl rfl rfl ?_
  exact h
set_option maxRecDepth 4000 in
theorem bX9_orderBySize_2 {d : Nat} (x0 : Nat) (x1 : Int32) {iv : zI} {rv : zR} {lv : zJ} {Q : zI → zR → zJ → Prop} (hT : zTop rv) (m_x0 : x0 ∈ zSts)
    (h : ((iv x0 0) ≤ x1 → Q iv rv lv) ∧ (¬ (iv x0 0) ≤ x1 → Zv mX9_orderBySize d 12 [some (.ref x0), some (.int x1), some (.int x1)] [] iv rv lv Q)) :
    Zv mX9_orderBySize d 2 [some (.ref x0), some (.int x1), none] [] iv rv lv Q := by
  unfold Zv
  refine Z_iload_n (a := 1) (q := 3) (by decide +kernel) rfl rfl ?_
  refine Z_aload_n (a := 0) (q := 4) (by decide +kernel) rfl rfl ?_
  refine g9_0 (idx := 9) (q := 7) (by decide +kernel) fX9_9 (hS9_0 m_x0) (hL9_0 m_x0) rfl ?_
  refine Z_icmp_ge (t := 71) (off := 64) (q := 10) (by decide +kernel) (by decide) rfl (fun hc => ?_) (fun hc => ?_)
  · replace h := h.1 hc
    exact Z_vret (by decide +kernel) rfl rfl ⟨rfl, h⟩
  · replace h := h.2 hc
    refine Z_iload_n (a := 1) (q := 11) (by decide +kernel) rfl rfl ?_
    refine Z_istore_n (a := 2) (loc2 := [_, _, _]) (q := 12) (by decide +kernel) (by decide +kernel) rfl rfl rfl ?_
    exact h
set_option maxRecDepth 4000 in
theorem bX9_orderBySize_12 {d : Nat} (x0 : Nat) (x1 : Int32) (x2 : Int32) {iv : zI} {rv : zR} {lv : zJ} {Q : zI → zR → zJ → Prop} (hT : zTop rv) (m_x0 : x0 ∈ zSts)
    (h : (x2 ≤ 0 → vp_in x2 10 ∧ (∀ iv2 : zI, iv2 = zu iv (x0 + 4) x2.toNatClampNeg x1 → Zv mX9_orderBySize d 2 [some (.ref x0), some (.int (x1 + 1)), none] [] iv2 rv lv Q)) ∧ (¬ x2 ≤ 0 → vp_in (x2 - (1 : Int32)) 10 ∧ (vp_in (iv (x0 + 4) (x2 - (1 : Int32)).toNatClampNeg) 10 ∧ (vp_in x1 10 ∧ (((iv (x0 + 1) x1.toNatClampNeg) ≤ (iv (x0 + 1) (iv (x0 + 4) (x2 - (1 : Int32)).toNatClampNeg).toNatClampNeg) → vp_in x2 10 ∧ (∀ iv7 : zI, iv7 = zu iv (x0 + 4) x2.toNatClampNeg x1 → Zv mX9_orderBySize d 2 [some (.ref x0), some (.int (x1 + 1)), none] [] iv7 rv lv Q)) ∧ (¬ (iv (x0 + 1) x1.toNatClampNeg) ≤ (iv (x0 + 1) (iv (x0 + 4) (x2 - (1 : Int32)).toNatClampNeg).toNatClampNeg) → vp_in x2 10 ∧ (∀ iv9 : zI, iv9 = zu iv (x0 + 4) x2.toNatClampNeg (iv (x0 + 4) (x2 - (1 : Int32)).toNatClampNeg) → Zv mX9_orderBySize d 12 [some (.ref x0), some (.int x1), some (.int (x2 + -1))] [] iv9 rv lv Q))))))) :
    Zv mX9_orderBySize d 12 [some (.ref x0), some (.int x1), some (.int x2)] [] iv rv lv Q := by
  unfold Zv
  refine Z_iload_n (a := 2) (q := 13) (by decide +kernel) rfl rfl ?_
  refine Z_if_le (t := 58) (off := 45) (q := 16) (by decide +kernel) (by decide) rfl (fun hc => ?_) (fun hc => ?_)
  · replace h := h.1 hc
    refine Z_aload_n (a := 0) (q := 59) (by decide +kernel) rfl rfl ?_
    refine g9_5 (idx := 28) (q := 62) (by decide +kernel) fX9_28 (hS9_0 m_x0) (hL9_0 m_x0) (t9_5 hT m_x0) rfl ?_
    refine Z_iload_n (a := 2) (q := 63) (by decide +kernel) rfl rfl ?_
    refine Z_iload_n (a := 1) (q := 64) (by decide +kernel) rfl rfl ?_
    obtain ⟨hin1, h⟩ := h
    refine Z_iast (len := 10) (q := 65) (by decide +kernel) (hS9_4 m_x0) (hL9_4 m_x0) hin1 rfl ?_
    replace h := h _ rfl
    refine Z_iinc (a := 1) (b := 1) (v := _ + 1) (loc2 := [_, _, _]) (q := 68) (by decide +kernel) rfl (zinc _) (by decide +kernel) rfl rfl rfl ?_
    refine Z_goto (q := 2) (off := -66) (by decide +kernel) (by decide) ?_
    exact Z_forget h (And.intro rfl (And.intro rfl trivial))
  · replace h := h.2 hc
    refine Z_aload_n (a := 0) (q := 17) (by decide +kernel) rfl rfl ?_
    refine g9_2 (idx := 18) (q := 20) (by decide +kernel) fX9_18 (hS9_0 m_x0) (hL9_0 m_x0) (t9_2 hT m_x0) rfl ?_
    refine Z_aload_n (a := 0) (q := 21) (by decide +kernel) rfl rfl ?_
    refine g9_5 (idx := 28) (q := 24) (by decide +kernel) fX9_28 (hS9_0 m_x0) (hL9_0 m_x0) (t9_5 hT m_x0) rfl ?_
    refine Z_iload_n (a := 2) (q := 25) (by decide +kernel) rfl rfl ?_
    refine Z_iconst (a := 1) (v := 1) (q := 26) (by decide +kernel) (by decide +kernel) rfl ?_
    refine Z_isub (q := 27) (by decide +kernel) rfl ?_
    obtain ⟨hin3, h⟩ := h
    refine Z_iald (len := 10) (q := 28) (by decide +kernel) (hS9_4 m_x0) (hL9_4 m_x0) hin3 rfl ?_
    obtain ⟨hin4, h⟩ := h
    refine Z_iald (len := 10) (q := 29) (by decide +kernel) (hS9_1 m_x0) (hL9_1 m_x0) hin4 rfl ?_
    refine Z_aload_n (a := 0) (q := 30) (by decide +kernel) rfl rfl ?_
    refine g9_2 (idx := 18) (q := 33) (by decide +kernel) fX9_18 (hS9_0 m_x0) (hL9_0 m_x0) (t9_2 hT m_x0) rfl ?_
    refine Z_iload_n (a := 1) (q := 34) (by decide +kernel) rfl rfl ?_
    obtain ⟨hin5, h⟩ := h
    refine Z_iald (len := 10) (q := 35) (by decide +kernel) (hS9_1 m_x0) (hL9_1 m_x0) hin5 rfl ?_
    refine Z_icmp_ge (t := 58) (off := 23) (q := 38) (by decide +kernel) (by decide) rfl (fun hc => ?_) (fun hc => ?_)
    · replace h := h.1 hc
      refine Z_aload_n (a := 0) (q := 59) (by decide +kernel) rfl rfl ?_
      refine g9_5 (idx := 28) (q := 62) (by decide +kernel) fX9_28 (hS9_0 m_x0) (hL9_0 m_x0) (t9_5 hT m_x0) rfl ?_
      refine Z_iload_n (a := 2) (q := 63) (by decide +kernel) rfl rfl ?_
      refine Z_iload_n (a := 1) (q := 64) (by decide +kernel) rfl rfl ?_
      obtain ⟨hin6, h⟩ := h
      refine Z_iast (len := 10) (q := 65) (by decide +kernel) (hS9_4 m_x0) (hL9_4 m_x0) hin6 rfl ?_
      replace h := h _ rfl
      refine Z_iinc (a := 1) (b := 1) (v := _ + 1) (loc2 := [_, _, _]) (q := 68) (by decide +kernel) rfl (zinc _) (by decide +kernel) rfl rfl rfl ?_
      refine Z_goto (q := 2) (off := -66) (by decide +kernel) (by decide) ?_
      exact Z_forget h (And.intro rfl (And.intro rfl trivial))
    · replace h := h.2 hc
      refine Z_aload_n (a := 0) (q := 39) (by decide +kernel) rfl rfl ?_
      refine g9_5 (idx := 28) (q := 42) (by decide +kernel) fX9_28 (hS9_0 m_x0) (hL9_0 m_x0) (t9_5 hT m_x0) rfl ?_
      refine Z_iload_n (a := 2) (q := 43) (by decide +kernel) rfl rfl ?_
      refine Z_aload_n (a := 0) (q := 44) (by decide +kernel) rfl rfl ?_
      refine g9_5 (idx := 28) (q := 47) (by decide +kernel) fX9_28 (hS9_0 m_x0) (hL9_0 m_x0) (t9_5 hT m_x0) rfl ?_
      refine Z_iload_n (a := 2) (q := 48) (by decide +kernel) rfl rfl ?_
      refine Z_iconst (a := 1) (v := 1) (q := 49) (by decide +kernel) (by decide +kernel) rfl ?_
      refine Z_isub (q := 50) (by decide +kernel) rfl ?_
      refine Z_iald (len := 10) (q := 51) (by decide +kernel) (hS9_4 m_x0) (hL9_4 m_x0) hin3 rfl ?_
      obtain ⟨hin8, h⟩ := h
      refine Z_iast (len := 10) (q := 52) (by decide +kernel) (hS9_4 m_x0) (hL9_4 m_x0) hin8 rfl ?_
      replace h := h _ rfl
      refine Z_iinc (a := 2) (b := -1) (v := _ + -1) (loc2 := [_, _, _]) (q := 55) (by decide +kernel) rfl (zdec _) (by decide +kernel) rfl rfl rfl ?_
      refine Z_goto (q := 12) (off := -43) (by decide +kernel) (by decide) ?_
      exact h
theorem eX9_placeBySize {d : Nat} (x0 : Nat) (x1 : Int32) {iv : zI} {rv : zR} {lv : zJ} {Q : Int32 → zI → zR → zJ → Prop} (h : Zi mX9_placeBySize d 0 [some (.ref x0), some (.int x1), none] [] iv rv lv Q) : Ci mX9_placeBySize d [.ref x0, .int x1] iv rv lv Q := Ci.of (by decide +kernel) (by simp [Value.category]) (Nat.le_of_ble_eq_true rfl) rfl h
set_option maxRecDepth 4000 in
theorem bX9_placeBySize_0 {d : Nat} (x0 : Nat) (x1 : Int32) {iv : zI} {rv : zR} {lv : zJ} {Q : Int32 → zI → zR → zJ → Prop} (hT : zTop rv) (m_x0 : x0 ∈ zSts)
    (h : Zi mX9_placeBySize d 2 [some (.ref x0), some (.int x1), some (.int (0 : Int32))] [] iv rv lv Q) :
    Zi mX9_placeBySize d 0 [some (.ref x0), some (.int x1), none] [] iv rv lv Q := by
  unfold Zi
  refine Z_iconst (a := 0) (v := 0) (q := 1) (by decide +kernel) (by decide +kernel) rfl ?_
  refine Z_istore_n (a := 2) (loc2 := [_, _, _]) (q := 2) (by decide +kernel) (by decide +kernel) rfl rfl rfl ?_
  exact h
set_option maxRecDepth 4000 in
theorem bX9_placeBySize_2 {d : Nat} (x0 : Nat) (x1 : Int32) (x2 : Int32) {iv : zI} {rv : zR} {lv : zJ} {Q : Int32 → zI → zR → zJ → Prop} (hT : zTop rv) (m_x0 : x0 ∈ zSts)
    (h : ((iv x0 0) ≤ x2 → Q (-1 : Int32) iv rv lv) ∧ (¬ (iv x0 0) ≤ x2 → vp_in x2 10 ∧ ((¬ (iv (x0 + 4) x2.toNatClampNeg) = x1 → Zi mX9_placeBySize d 2 [some (.ref x0), some (.int x1), some (.int (x2 + 1))] [] iv rv lv Q) ∧ ((iv (x0 + 4) x2.toNatClampNeg) = x1 → Q x2 iv rv lv)))) :
    Zi mX9_placeBySize d 2 [some (.ref x0), some (.int x1), some (.int x2)] [] iv rv lv Q := by
  unfold Zi
  refine Z_iload_n (a := 2) (q := 3) (by decide +kernel) rfl rfl ?_
  refine Z_aload_n (a := 0) (q := 4) (by decide +kernel) rfl rfl ?_
  refine g9_0 (idx := 9) (q := 7) (by decide +kernel) fX9_9 (hS9_0 m_x0) (hL9_0 m_x0) rfl ?_
  refine Z_icmp_ge (t := 28) (off := 21) (q := 10) (by decide +kernel) (by decide) rfl (fun hc => ?_) (fun hc => ?_)
  · replace h := h.1 hc
    refine Z_iconst (a := -1) (v := -1) (q := 29) (by decide +kernel) (by decide +kernel) rfl ?_
    exact Z_iret (ty := .int) (by decide +kernel) rfl rfl rfl ⟨_, rfl, h⟩
  · replace h := h.2 hc
    refine Z_aload_n (a := 0) (q := 11) (by decide +kernel) rfl rfl ?_
    refine g9_5 (idx := 28) (q := 14) (by decide +kernel) fX9_28 (hS9_0 m_x0) (hL9_0 m_x0) (t9_5 hT m_x0) rfl ?_
    refine Z_iload_n (a := 2) (q := 15) (by decide +kernel) rfl rfl ?_
    obtain ⟨hin1, h⟩ := h
    refine Z_iald (len := 10) (q := 16) (by decide +kernel) (hS9_4 m_x0) (hL9_4 m_x0) hin1 rfl ?_
    refine Z_iload_n (a := 1) (q := 17) (by decide +kernel) rfl rfl ?_
    refine Z_icmp_ne (t := 22) (off := 5) (q := 20) (by decide +kernel) (by decide) rfl (fun hc => ?_) (fun hc => ?_)
    · replace h := h.1 hc
      refine Z_iinc (a := 2) (b := 1) (v := _ + 1) (loc2 := [_, _, _]) (q := 25) (by decide +kernel) rfl (zinc _) (by decide +kernel) rfl rfl rfl ?_
      refine Z_goto (q := 2) (off := -23) (by decide +kernel) (by decide) ?_
      exact h
    · replace h := h.2 hc
      refine Z_iload_n (a := 2) (q := 21) (by decide +kernel) rfl rfl ?_
      exact Z_iret (ty := .int) (by decide +kernel) rfl rfl rfl ⟨_, rfl, h⟩
theorem eX9_areApart {d : Nat} (x0 : Nat) (x1 : Int32) (x2 : Int32) {iv : zI} {rv : zR} {lv : zJ} {Q : Int32 → zI → zR → zJ → Prop} (h : Zi mX9_areApart d 0 [some (.ref x0), some (.int x1), some (.int x2)] [] iv rv lv Q) : Ci mX9_areApart d [.ref x0, .int x1, .int x2] iv rv lv Q := Ci.of (by decide +kernel) (by simp [Value.category]) (Nat.le_of_ble_eq_true rfl) rfl h
set_option maxRecDepth 4000 in
theorem bX9_areApart_0 {d : Nat} (x0 : Nat) (x1 : Int32) (x2 : Int32) {iv : zI} {rv : zR} {lv : zJ} {Q : Int32 → zI → zR → zJ → Prop} (hT : zTop rv) (m_x0 : x0 ∈ zSts)
    (h : vp_in x1 10 ∧ ((¬ (((iv (x0 + 3) x1.toNatClampNeg) >>> (x2 &&& 31)) &&& (1 : Int32)) = (1 : Int32) → Q (0 : Int32) iv rv lv) ∧ ((((iv (x0 + 3) x1.toNatClampNeg) >>> (x2 &&& 31)) &&& (1 : Int32)) = (1 : Int32) → Q (1 : Int32) iv rv lv))) :
    Zi mX9_areApart d 0 [some (.ref x0), some (.int x1), some (.int x2)] [] iv rv lv Q := by
  unfold Zi
  refine Z_aload_n (a := 0) (q := 1) (by decide +kernel) rfl rfl ?_
  refine g9_4 (idx := 25) (q := 4) (by decide +kernel) fX9_25 (hS9_0 m_x0) (hL9_0 m_x0) (t9_4 hT m_x0) rfl ?_
  refine Z_iload_n (a := 1) (q := 5) (by decide +kernel) rfl rfl ?_
  obtain ⟨hin1, h⟩ := h
  refine Z_iald (len := 10) (q := 6) (by decide +kernel) (hS9_3 m_x0) (hL9_3 m_x0) hin1 rfl ?_
  refine Z_iload_n (a := 2) (q := 7) (by decide +kernel) rfl rfl ?_
  refine Z_ishr (q := 8) (by decide +kernel) rfl ?_
  refine Z_iconst (a := 1) (v := 1) (q := 9) (by decide +kernel) (by decide +kernel) rfl ?_
  refine Z_iand (q := 10) (by decide +kernel) rfl ?_
  refine Z_iconst (a := 1) (v := 1) (q := 11) (by decide +kernel) (by decide +kernel) rfl ?_
  refine Z_icmp_ne (t := 18) (off := 7) (q := 14) (by decide +kernel) (by decide) rfl (fun hc => ?_) (fun hc => ?_)
  · replace h := h.1 hc
    refine Z_iconst (a := 0) (v := 0) (q := 19) (by decide +kernel) (by decide +kernel) rfl ?_
    exact Z_iret (ty := .boolean) (by decide +kernel) rfl rfl rfl ⟨_, rfl, h⟩
  · replace h := h.2 hc
    refine Z_iconst (a := 1) (v := 1) (q := 15) (by decide +kernel) (by decide +kernel) rfl ?_
    refine Z_goto (q := 19) (off := 4) (by decide +kernel) (by decide) ?_
    exact Z_iret (ty := .boolean) (by decide +kernel) rfl rfl rfl ⟨_, rfl, h⟩
theorem eX9_toggleApart {d : Nat} (x0 : Nat) (x1 : Int32) (x2 : Int32) {iv : zI} {rv : zR} {lv : zJ} {Q : zI → zR → zJ → Prop} (h : Zv mX9_toggleApart d 0 [some (.ref x0), some (.int x1), some (.int x2)] [] iv rv lv Q) : Cv mX9_toggleApart d [.ref x0, .int x1, .int x2] iv rv lv Q := Cv.of (by decide +kernel) (by simp [Value.category]) (Nat.le_of_ble_eq_true rfl) rfl h
set_option maxRecDepth 4000 in
theorem bX9_toggleApart_0 {d : Nat} (x0 : Nat) (x1 : Int32) (x2 : Int32) {iv : zI} {rv : zR} {lv : zJ} {Q : zI → zR → zJ → Prop} (hT : zTop rv) (m_x0 : x0 ∈ zSts)
    (h : vp_in x1 10 ∧ (∀ iv2 : zI, iv2 = zu iv (x0 + 3) x1.toNatClampNeg ((iv (x0 + 3) x1.toNatClampNeg) ^^^ ((1 : Int32) <<< (x2 &&& 31))) → vp_in x2 10 ∧ (∀ iv4 : zI, iv4 = zu iv2 (x0 + 3) x2.toNatClampNeg ((iv2 (x0 + 3) x2.toNatClampNeg) ^^^ ((1 : Int32) <<< (x1 &&& 31))) → Q iv4 rv lv))) :
    Zv mX9_toggleApart d 0 [some (.ref x0), some (.int x1), some (.int x2)] [] iv rv lv Q := by
  unfold Zv
  refine Z_aload_n (a := 0) (q := 1) (by decide +kernel) rfl rfl ?_
  refine g9_4 (idx := 25) (q := 4) (by decide +kernel) fX9_25 (hS9_0 m_x0) (hL9_0 m_x0) (t9_4 hT m_x0) rfl ?_
  refine Z_iload_n (a := 1) (q := 5) (by decide +kernel) rfl rfl ?_
  refine Z_dup2 (q := 6) (by decide +kernel) rfl rfl rfl ?_
  obtain ⟨hin1, h⟩ := h
  refine Z_iald (len := 10) (q := 7) (by decide +kernel) (hS9_3 m_x0) (hL9_3 m_x0) hin1 rfl ?_
  refine Z_iconst (a := 1) (v := 1) (q := 8) (by decide +kernel) (by decide +kernel) rfl ?_
  refine Z_iload_n (a := 2) (q := 9) (by decide +kernel) rfl rfl ?_
  refine Z_ishl (q := 10) (by decide +kernel) rfl ?_
  refine Z_ixor (q := 11) (by decide +kernel) rfl ?_
  refine Z_iast (len := 10) (q := 12) (by decide +kernel) (hS9_3 m_x0) (hL9_3 m_x0) hin1 rfl ?_
  replace h := h _ rfl
  refine Z_aload_n (a := 0) (q := 13) (by decide +kernel) rfl rfl ?_
  refine g9_4 (idx := 25) (q := 16) (by decide +kernel) fX9_25 (hS9_0 m_x0) (hL9_0 m_x0) (t9_4 hT m_x0) rfl ?_
  refine Z_iload_n (a := 2) (q := 17) (by decide +kernel) rfl rfl ?_
  refine Z_dup2 (q := 18) (by decide +kernel) rfl rfl rfl ?_
  obtain ⟨hin3, h⟩ := h
  refine Z_iald (len := 10) (q := 19) (by decide +kernel) (hS9_3 m_x0) (hL9_3 m_x0) hin3 rfl ?_
  refine Z_iconst (a := 1) (v := 1) (q := 20) (by decide +kernel) (by decide +kernel) rfl ?_
  refine Z_iload_n (a := 1) (q := 21) (by decide +kernel) rfl rfl ?_
  refine Z_ishl (q := 22) (by decide +kernel) rfl ?_
  refine Z_ixor (q := 23) (by decide +kernel) rfl ?_
  refine Z_iast (len := 10) (q := 24) (by decide +kernel) (hS9_3 m_x0) (hL9_3 m_x0) hin3 rfl ?_
  replace h := h _ rfl
  exact Z_vret (by decide +kernel) rfl rfl ⟨rfl, h⟩
theorem eX9_pairs {d : Nat} (x0 : Nat) {iv : zI} {rv : zR} {lv : zJ} {Q : Int32 → zI → zR → zJ → Prop} (h : Zi mX9_pairs (d + 1) 0 [some (.ref x0), none, none] [] iv rv lv Q) : Ci mX9_pairs (d + 1) [.ref x0] iv rv lv Q := Ci.of (by decide +kernel) (by simp [Value.category]) (Nat.le_of_ble_eq_true rfl) rfl h
set_option maxRecDepth 4000 in
theorem bX9_pairs_0 {d : Nat} (x0 : Nat) {iv : zI} {rv : zR} {lv : zJ} {Q : Int32 → zI → zR → zJ → Prop} (hT : zTop rv) (m_x0 : x0 ∈ zSts)
    (h : Zi mX9_pairs (d + 1) 4 [some (.ref x0), some (.int (0 : Int32)), some (.int (0 : Int32))] [] iv rv lv Q) :
    Zi mX9_pairs (d + 1) 0 [some (.ref x0), none, none] [] iv rv lv Q := by
  unfold Zi
  refine Z_iconst (a := 0) (v := 0) (q := 1) (by decide +kernel) (by decide +kernel) rfl ?_
  refine Z_istore_n (a := 1) (loc2 := [_, _, _]) (q := 2) (by decide +kernel) (by decide +kernel) rfl rfl rfl ?_
  refine Z_iconst (a := 0) (v := 0) (q := 3) (by decide +kernel) (by decide +kernel) rfl ?_
  refine Z_istore_n (a := 2) (loc2 := [_, _, _]) (q := 4) (by decide +kernel) (by decide +kernel) rfl rfl rfl ?_
  exact h
set_option maxRecDepth 4000 in
theorem bX9_pairs_4 {d : Nat} (x0 : Nat) (x1 : Int32) (x2 : Int32) {iv : zI} {rv : zR} {lv : zJ} {Q : Int32 → zI → zR → zJ → Prop} (hT : zTop rv) (m_x0 : x0 ∈ zSts)
    (h : ((iv x0 0) ≤ x2 → Q (x1 / (2 : Int32)) iv rv lv) ∧ (¬ (iv x0 0) ≤ x2 → vp_in x2 10 ∧ (∃ Q2 : Int32 → zI → zR → zJ → Prop, Ci mBC d [.int (iv (x0 + 3) x2.toNatClampNeg)] iv rv lv Q2 ∧ ∀ (v7 : Int32) (iv3 : zI) (rv4 : zR) (lv5 : zJ), Q2 v7 iv3 rv4 lv5 → zTop rv4 ∧ (Zi mX9_pairs (d + 1) 4 [some (.ref x0), some (.int (x1 + v7)), some (.int (x2 + 1))] [] iv3 rv4 lv5 Q)))) :
    Zi mX9_pairs (d + 1) 4 [some (.ref x0), some (.int x1), some (.int x2)] [] iv rv lv Q := by
  unfold Zi
  refine Z_iload_n (a := 2) (q := 5) (by decide +kernel) rfl rfl ?_
  refine Z_aload_n (a := 0) (q := 6) (by decide +kernel) rfl rfl ?_
  refine g9_0 (idx := 9) (q := 9) (by decide +kernel) fX9_9 (hS9_0 m_x0) (hL9_0 m_x0) rfl ?_
  refine Z_icmp_ge (t := 30) (off := 21) (q := 12) (by decide +kernel) (by decide) rfl (fun hc => ?_) (fun hc => ?_)
  · replace h := h.1 hc
    refine Z_iload_n (a := 1) (q := 31) (by decide +kernel) rfl rfl ?_
    refine Z_iconst (a := 2) (v := 2) (q := 32) (by decide +kernel) (by decide +kernel) rfl ?_
    refine Z_idiv (q := 33) (by decide +kernel) (by decide) rfl ?_
    exact Z_iret (ty := .int) (by decide +kernel) rfl rfl rfl ⟨_, rfl, h⟩
  · replace h := h.2 hc
    refine Z_iload_n (a := 1) (q := 13) (by decide +kernel) rfl rfl ?_
    refine Z_aload_n (a := 0) (q := 14) (by decide +kernel) rfl rfl ?_
    refine g9_4 (idx := 25) (q := 17) (by decide +kernel) fX9_25 (hS9_0 m_x0) (hL9_0 m_x0) (t9_4 hT m_x0) rfl ?_
    refine Z_iload_n (a := 2) (q := 18) (by decide +kernel) rfl rfl ?_
    obtain ⟨hin1, h⟩ := h
    refine Z_iald (len := 10) (q := 19) (by decide +kernel) (hS9_3 m_x0) (hL9_3 m_x0) hin1 rfl ?_
    obtain ⟨Q2, hm, h⟩ := h
    refine Z_callSi (M2 := mBC) (idx := 45) (d2 := d) (As := [.int _]) (q := 22) (by decide +kernel) kBC lX9_45 rfl rfl (by decide +kernel) (Nat.le_of_ble_eq_true rfl) (Nat.le_refl _) hm rfl (fun v7 iv3 rv4 lv5 hq => ?_)
    obtain ⟨hT6, h⟩ := h v7 iv3 rv4 lv5 hq
    refine Z_iadd (q := 23) (by decide +kernel) rfl ?_
    refine Z_istore_n (a := 1) (loc2 := [_, _, _]) (q := 24) (by decide +kernel) (by decide +kernel) rfl rfl rfl ?_
    refine Z_iinc (a := 2) (b := 1) (v := _ + 1) (loc2 := [_, _, _]) (q := 27) (by decide +kernel) rfl (zinc _) (by decide +kernel) rfl rfl rfl ?_
    refine Z_goto (q := 4) (off := -23) (by decide +kernel) (by decide) ?_
    exact h
theorem eX9_keptCount {d : Nat} (x0 : Nat) {iv : zI} {rv : zR} {lv : zJ} {Q : Int32 → zI → zR → zJ → Prop} (h : Zi mX9_keptCount d 0 [some (.ref x0), none, none] [] iv rv lv Q) : Ci mX9_keptCount d [.ref x0] iv rv lv Q := Ci.of (by decide +kernel) (by simp [Value.category]) (Nat.le_of_ble_eq_true rfl) rfl h
set_option maxRecDepth 4000 in
theorem bX9_keptCount_0 {d : Nat} (x0 : Nat) {iv : zI} {rv : zR} {lv : zJ} {Q : Int32 → zI → zR → zJ → Prop} (hT : zTop rv) (m_x0 : x0 ∈ zSts)
    (h : Zi mX9_keptCount d 4 [some (.ref x0), some (.int (0 : Int32)), some (.int (0 : Int32))] [] iv rv lv Q) :
    Zi mX9_keptCount d 0 [some (.ref x0), none, none] [] iv rv lv Q := by
  unfold Zi
  refine Z_iconst (a := 0) (v := 0) (q := 1) (by decide +kernel) (by decide +kernel) rfl ?_
  refine Z_istore_n (a := 1) (loc2 := [_, _, _]) (q := 2) (by decide +kernel) (by decide +kernel) rfl rfl rfl ?_
  refine Z_iconst (a := 0) (v := 0) (q := 3) (by decide +kernel) (by decide +kernel) rfl ?_
  refine Z_istore_n (a := 2) (loc2 := [_, _, _]) (q := 4) (by decide +kernel) (by decide +kernel) rfl rfl rfl ?_
  exact h
set_option maxRecDepth 4000 in
theorem bX9_keptCount_4 {d : Nat} (x0 : Nat) (x1 : Int32) (x2 : Int32) {iv : zI} {rv : zR} {lv : zJ} {Q : Int32 → zI → zR → zJ → Prop} (hT : zTop rv) (m_x0 : x0 ∈ zSts)
    (h : ((iv x0 0) ≤ x2 → Q x1 iv rv lv) ∧ (¬ (iv x0 0) ≤ x2 → vp_in x2 10 ∧ (((iv (x0 + 2) x2.toNatClampNeg) = (-2 : Int32) → Zi mX9_keptCount d 4 [some (.ref x0), some (.int x1), some (.int (x2 + 1))] [] iv rv lv Q) ∧ (¬ (iv (x0 + 2) x2.toNatClampNeg) = (-2 : Int32) → Zi mX9_keptCount d 4 [some (.ref x0), some (.int (x1 + 1)), some (.int (x2 + 1))] [] iv rv lv Q)))) :
    Zi mX9_keptCount d 4 [some (.ref x0), some (.int x1), some (.int x2)] [] iv rv lv Q := by
  unfold Zi
  refine Z_iload_n (a := 2) (q := 5) (by decide +kernel) rfl rfl ?_
  refine Z_aload_n (a := 0) (q := 6) (by decide +kernel) rfl rfl ?_
  refine g9_0 (idx := 9) (q := 9) (by decide +kernel) fX9_9 (hS9_0 m_x0) (hL9_0 m_x0) rfl ?_
  refine Z_icmp_ge (t := 32) (off := 23) (q := 12) (by decide +kernel) (by decide) rfl (fun hc => ?_) (fun hc => ?_)
  · replace h := h.1 hc
    refine Z_iload_n (a := 1) (q := 33) (by decide +kernel) rfl rfl ?_
    exact Z_iret (ty := .int) (by decide +kernel) rfl rfl rfl ⟨_, rfl, h⟩
  · replace h := h.2 hc
    refine Z_aload_n (a := 0) (q := 13) (by decide +kernel) rfl rfl ?_
    refine g9_3 (idx := 22) (q := 16) (by decide +kernel) fX9_22 (hS9_0 m_x0) (hL9_0 m_x0) (t9_3 hT m_x0) rfl ?_
    refine Z_iload_n (a := 2) (q := 17) (by decide +kernel) rfl rfl ?_
    obtain ⟨hin1, h⟩ := h
    refine Z_iald (len := 10) (q := 18) (by decide +kernel) (hS9_2 m_x0) (hL9_2 m_x0) hin1 rfl ?_
    refine Z_bipush (a := -2) (v := -2) (q := 20) (by decide +kernel) (by decide +kernel) rfl ?_
    refine Z_icmp_eq (t := 26) (off := 6) (q := 23) (by decide +kernel) (by decide) rfl (fun hc => ?_) (fun hc => ?_)
    · replace h := h.1 hc
      refine Z_iinc (a := 2) (b := 1) (v := _ + 1) (loc2 := [_, _, _]) (q := 29) (by decide +kernel) rfl (zinc _) (by decide +kernel) rfl rfl rfl ?_
      refine Z_goto (q := 4) (off := -25) (by decide +kernel) (by decide) ?_
      exact h
    · replace h := h.2 hc
      refine Z_iinc (a := 1) (b := 1) (v := _ + 1) (loc2 := [_, _, _]) (q := 26) (by decide +kernel) rfl (zinc _) (by decide +kernel) rfl rfl rfl ?_
      refine Z_iinc (a := 2) (b := 1) (v := _ + 1) (loc2 := [_, _, _]) (q := 29) (by decide +kernel) rfl (zinc _) (by decide +kernel) rfl rfl rfl ?_
      refine Z_goto (q := 4) (off := -25) (by decide +kernel) (by decide) ?_
      exact h
theorem eX9_total {d : Nat} (x0 : Nat) {iv : zI} {rv : zR} {lv : zJ} {Q : Int32 → zI → zR → zJ → Prop} (h : Zi mX9_total d 0 [some (.ref x0), none, none] [] iv rv lv Q) : Ci mX9_total d [.ref x0] iv rv lv Q := Ci.of (by decide +kernel) (by simp [Value.category]) (Nat.le_of_ble_eq_true rfl) rfl h
set_option maxRecDepth 4000 in
theorem bX9_total_0 {d : Nat} (x0 : Nat) {iv : zI} {rv : zR} {lv : zJ} {Q : Int32 → zI → zR → zJ → Prop} (hT : zTop rv) (m_x0 : x0 ∈ zSts)
    (h : Zi mX9_total d 4 [some (.ref x0), some (.int (0 : Int32)), some (.int (0 : Int32))] [] iv rv lv Q) :
    Zi mX9_total d 0 [some (.ref x0), none, none] [] iv rv lv Q := by
  unfold Zi
  refine Z_iconst (a := 0) (v := 0) (q := 1) (by decide +kernel) (by decide +kernel) rfl ?_
  refine Z_istore_n (a := 1) (loc2 := [_, _, _]) (q := 2) (by decide +kernel) (by decide +kernel) rfl rfl rfl ?_
  refine Z_iconst (a := 0) (v := 0) (q := 3) (by decide +kernel) (by decide +kernel) rfl ?_
  refine Z_istore_n (a := 2) (loc2 := [_, _, _]) (q := 4) (by decide +kernel) (by decide +kernel) rfl rfl rfl ?_
  exact h
set_option maxRecDepth 4000 in
theorem bX9_total_4 {d : Nat} (x0 : Nat) (x1 : Int32) (x2 : Int32) {iv : zI} {rv : zR} {lv : zJ} {Q : Int32 → zI → zR → zJ → Prop} (hT : zTop rv) (m_x0 : x0 ∈ zSts)
    (h : ((iv x0 0) ≤ x2 → Q x1 iv rv lv) ∧ (¬ (iv x0 0) ≤ x2 → vp_in x2 10 ∧ (Zi mX9_total d 4 [some (.ref x0), some (.int (x1 + (iv (x0 + 1) x2.toNatClampNeg))), some (.int (x2 + 1))] [] iv rv lv Q))) :
    Zi mX9_total d 4 [some (.ref x0), some (.int x1), some (.int x2)] [] iv rv lv Q := by
  unfold Zi
  refine Z_iload_n (a := 2) (q := 5) (by decide +kernel) rfl rfl ?_
  refine Z_aload_n (a := 0) (q := 6) (by decide +kernel) rfl rfl ?_
  refine g9_0 (idx := 9) (q := 9) (by decide +kernel) fX9_9 (hS9_0 m_x0) (hL9_0 m_x0) rfl ?_
  refine Z_icmp_ge (t := 27) (off := 18) (q := 12) (by decide +kernel) (by decide) rfl (fun hc => ?_) (fun hc => ?_)
  · replace h := h.1 hc
    refine Z_iload_n (a := 1) (q := 28) (by decide +kernel) rfl rfl ?_
    exact Z_iret (ty := .int) (by decide +kernel) rfl rfl rfl ⟨_, rfl, h⟩
  · replace h := h.2 hc
    refine Z_iload_n (a := 1) (q := 13) (by decide +kernel) rfl rfl ?_
    refine Z_aload_n (a := 0) (q := 14) (by decide +kernel) rfl rfl ?_
    refine g9_2 (idx := 18) (q := 17) (by decide +kernel) fX9_18 (hS9_0 m_x0) (hL9_0 m_x0) (t9_2 hT m_x0) rfl ?_
    refine Z_iload_n (a := 2) (q := 18) (by decide +kernel) rfl rfl ?_
    obtain ⟨hin1, h⟩ := h
    refine Z_iald (len := 10) (q := 19) (by decide +kernel) (hS9_1 m_x0) (hL9_1 m_x0) hin1 rfl ?_
    refine Z_iadd (q := 20) (by decide +kernel) rfl ?_
    refine Z_istore_n (a := 1) (loc2 := [_, _, _]) (q := 21) (by decide +kernel) (by decide +kernel) rfl rfl rfl ?_
    refine Z_iinc (a := 2) (b := 1) (v := _ + 1) (loc2 := [_, _, _]) (q := 24) (by decide +kernel) rfl (zinc _) (by decide +kernel) rfl rfl rfl ?_
    refine Z_goto (q := 4) (off := -20) (by decide +kernel) (by decide) ?_
    exact h
