/-! BLOCKS of X8, by program. -/
theorem eX8_prepare {d : Nat} (x1 : Nat) (x2 : Int32) {iv : zI} {rv : zR} {lv : zJ} {Q : zI → zR → zJ → Prop} (h : Zv mX8_prepare (d + 1) 0 [some (.ref 155), some (.ref x1), some (.int x2), none] [] iv rv lv Q) : Cv mX8_prepare (d + 1) [.ref 155, .ref x1, .int x2] iv rv lv Q := Cv.of (by decide +kernel) (by simp [Value.category]) (Nat.le_of_ble_eq_true rfl) rfl h
set_option maxRecDepth 4000 in
theorem bX8_prepare_0 {d : Nat} (x1 : Nat) (x2 : Int32) {iv : zI} {rv : zR} {lv : zJ} {Q : zI → zR → zJ → Prop} (hT : zTop rv) (m_x1 : x1 ∈ zSts)
    (h : (¬ (iv 155 3) = x2 → ∀ iv1 : zI, iv1 = zu iv 155 3 x2 → ∃ r2 : Nat, rv 155 0 = some r2 ∧ zSH r2 = (0, 1024) ∧ r2 < 200 ∧ (∀ iv3 : zI, iv3 = zu iv1 r2 0 (0 : Int32) → ∀ iv4 : zI, iv4 = zu iv3 155 2 (1 : Int32) → Zv mX8_prepare (d + 1) 28 [some (.ref 155), some (.ref x1), some (.int x2), some (.int (0 : Int32))] [] iv4 rv lv Q)) ∧ ((iv 155 3) = x2 → Q iv rv lv)) :
    Zv mX8_prepare (d + 1) 0 [some (.ref 155), some (.ref x1), some (.int x2), none] [] iv rv lv Q := by
  unfold Zv
  refine Z_aload_n (a := 0) (q := 1) (by decide +kernel) rfl rfl ?_
  refine g8_3 (idx := 22) (q := 4) (by decide +kernel) fX8_22 rfl (by decide) rfl ?_
  refine Z_iload_n (a := 2) (q := 5) (by decide +kernel) rfl rfl ?_
  refine Z_icmp_ne (t := 9) (off := 4) (q := 8) (by decide +kernel) (by decide) rfl (fun hc => ?_) (fun hc => ?_)
  · replace h := h.1 hc
    refine Z_aload_n (a := 0) (q := 10) (by decide +kernel) rfl rfl ?_
    refine Z_iload_n (a := 2) (q := 11) (by decide +kernel) rfl rfl ?_
    refine p8_3 (idx := 22) (q := 14) (by decide +kernel) fX8_22 rfl (by decide) rfl ?_
    replace h := h _ rfl
    refine Z_aload_n (a := 0) (q := 15) (by decide +kernel) rfl rfl ?_
    obtain ⟨r2, hrr2, hsr2, har2, h⟩ := h
    refine g8_0 (idx := 11) (q := 18) (by decide +kernel) fX8_11 rfl (by decide) hrr2 rfl ?_
    refine Z_iconst (a := 0) (v := 0) (q := 19) (by decide +kernel) (by decide +kernel) rfl ?_
    refine Z_iconst (a := 0) (v := 0) (q := 20) (by decide +kernel) (by decide +kernel) rfl ?_
    refine Z_iast (len := 1024) (q := 21) (by decide +kernel) hsr2 har2 (by unfold vp_in; decide) rfl ?_
    replace h := h _ rfl
    refine Z_aload_n (a := 0) (q := 22) (by decide +kernel) rfl rfl ?_
    refine Z_iconst (a := 1) (v := 1) (q := 23) (by decide +kernel) (by decide +kernel) rfl ?_
    refine p8_2 (idx := 18) (q := 26) (by decide +kernel) fX8_18 rfl (by decide) rfl ?_
    replace h := h _ rfl
    refine Z_iconst (a := 0) (v := 0) (q := 27) (by decide +kernel) (by decide +kernel) rfl ?_
    refine Z_istore_n (a := 3) (loc2 := [_, _, _, _]) (q := 28) (by decide +kernel) (by decide +kernel) rfl rfl rfl ?_
    exact h
  · replace h := h.2 hc
    exact Z_vret (by decide +kernel) rfl rfl ⟨rfl, h⟩
set_option maxRecDepth 4000 in
theorem bX8_prepare_28 {d : Nat} (x1 : Nat) (x2 : Int32) (x3 : Int32) {iv : zI} {rv : zR} {lv : zJ} {Q : zI → zR → zJ → Prop} (hT : zTop rv) (m_x1 : x1 ∈ zSts)
    (h : ((iv x1 0) ≤ x3 → Q iv rv lv) ∧ (¬ (iv x1 0) ≤ x3 → vp_in x3 10 ∧ (∃ Q2 : zI → zR → zJ → Prop, Cv mX8_mergeWith d [.ref 155, .int ((((iv (x1 + 1) x3.toNatClampNeg) <<< ((14 : Int32) &&& 31)) + (1024 : Int32)) + ((1 : Int32) <<< (x3 &&& 31)))] iv rv lv Q2 ∧ ∀ (iv3 : zI) (rv4 : zR) (lv5 : zJ), Q2 iv3 rv4 lv5 → zTop rv4 ∧ (Zv mX8_prepare (d + 1) 28 [some (.ref 155), some (.ref x1), some (.int x2), some (.int (x3 + 1))] [] iv3 rv4 lv5 Q)))) :
    Zv mX8_prepare (d + 1) 28 [some (.ref 155), some (.ref x1), some (.int x2), some (.int x3)] [] iv rv lv Q := by
  unfold Zv
  refine Z_iload_n (a := 3) (q := 29) (by decide +kernel) rfl rfl ?_
  refine Z_aload_n (a := 1) (q := 30) (by decide +kernel) rfl rfl ?_
  refine g9_0 (idx := 25) (q := 33) (by decide +kernel) fX8_25 (hS9_0 m_x1) (hL9_0 m_x1) rfl ?_
  refine Z_icmp_ge (t := 63) (off := 30) (q := 36) (by decide +kernel) (by decide) rfl (fun hc => ?_) (fun hc => ?_)
  · replace h := h.1 hc
    exact Z_vret (by decide +kernel) rfl rfl ⟨rfl, h⟩
  · replace h := h.2 hc
    refine Z_aload_n (a := 0) (q := 37) (by decide +kernel) rfl rfl ?_
    refine Z_aload_n (a := 1) (q := 38) (by decide +kernel) rfl rfl ?_
    refine g9_2 (idx := 30) (q := 41) (by decide +kernel) fX8_30 (hS9_0 m_x1) (hL9_0 m_x1) (t9_2 hT m_x1) rfl ?_
    refine Z_iload_n (a := 3) (q := 42) (by decide +kernel) rfl rfl ?_
    obtain ⟨hin1, h⟩ := h
    refine Z_iald (len := 10) (q := 43) (by decide +kernel) (hS9_1 m_x1) (hL9_1 m_x1) hin1 rfl ?_
    refine Z_bipush (a := 14) (v := 14) (q := 45) (by decide +kernel) (by decide +kernel) rfl ?_
    refine Z_ishl (q := 46) (by decide +kernel) rfl ?_
    refine Z_sipush (a := 1024) (v := 1024) (q := 49) (by decide +kernel) (by decide +kernel) rfl ?_
    refine Z_iadd (q := 50) (by decide +kernel) rfl ?_
    refine Z_iconst (a := 1) (v := 1) (q := 51) (by decide +kernel) (by decide +kernel) rfl ?_
    refine Z_iload_n (a := 3) (q := 52) (by decide +kernel) rfl rfl ?_
    refine Z_ishl (q := 53) (by decide +kernel) rfl ?_
    refine Z_iadd (q := 54) (by decide +kernel) rfl ?_
    obtain ⟨Q2, hm, h⟩ := h
    refine Z_callVv (M2 := mX8_mergeWith) (idx := 33) (d2 := d) (ci := 8) (As := [.int _]) (q := 57) (by decide +kernel) kX8_mergeWith lX8_33 rfl rfl (by decide) rfl rfl (by decide +kernel) (Nat.le_of_ble_eq_true rfl) (Nat.le_refl _) hm rfl (fun iv3 rv4 lv5 hq => ?_)
    obtain ⟨hT6, h⟩ := h iv3 rv4 lv5 hq
    refine Z_iinc (a := 3) (b := 1) (v := _ + 1) (loc2 := [_, _, _, _]) (q := 60) (by decide +kernel) rfl (zinc _) (by decide +kernel) rfl rfl rfl ?_
    refine Z_goto (q := 28) (off := -32) (by decide +kernel) (by decide) ?_
    exact h
theorem eX8_mergeWith {d : Nat} (x1 : Int32) {iv : zI} {rv : zR} {lv : zJ} {Q : zI → zR → zJ → Prop} (h : Zv mX8_mergeWith d 0 [some (.ref 155), some (.int x1), none, none, none, none] [] iv rv lv Q) : Cv mX8_mergeWith d [.ref 155, .int x1] iv rv lv Q := Cv.of (by decide +kernel) (by simp [Value.category]) (Nat.le_of_ble_eq_true rfl) rfl h
set_option maxRecDepth 4000 in
theorem bX8_mergeWith_0 {d : Nat} (x1 : Int32) {iv : zI} {rv : zR} {lv : zJ} {Q : zI → zR → zJ → Prop} (hT : zTop rv) 
    (h : (((2 : Int32) * (iv 155 2)) ≤ (1024 : Int32) → Zv mX8_mergeWith d 23 [some (.ref 155), some (.int x1), some (.int ((2 : Int32) * (iv 155 2))), some (.int (0 : Int32)), some (.int (0 : Int32)), some (.int (0 : Int32))] [] iv rv lv Q) ∧ (¬ ((2 : Int32) * (iv 155 2)) ≤ (1024 : Int32) → Q iv rv lv)) :
    Zv mX8_mergeWith d 0 [some (.ref 155), some (.int x1), none, none, none, none] [] iv rv lv Q := by
  unfold Zv
  refine Z_iconst (a := 2) (v := 2) (q := 1) (by decide +kernel) (by decide +kernel) rfl ?_
  refine Z_aload_n (a := 0) (q := 2) (by decide +kernel) rfl rfl ?_
  refine g8_2 (idx := 18) (q := 5) (by decide +kernel) fX8_18 rfl (by decide) rfl ?_
  refine Z_imul (q := 6) (by decide +kernel) rfl ?_
  refine Z_istore_n (a := 2) (loc2 := [_, _, _, _, _, _]) (q := 7) (by decide +kernel) (by decide +kernel) rfl rfl rfl ?_
  refine Z_iload_n (a := 2) (q := 8) (by decide +kernel) rfl rfl ?_
  refine Z_sipush (a := 1024) (v := 1024) (q := 11) (by decide +kernel) (by decide +kernel) rfl ?_
  refine Z_icmp_le (t := 15) (off := 4) (q := 14) (by decide +kernel) (by decide) rfl (fun hc => ?_) (fun hc => ?_)
  · replace h := h.1 hc
    refine Z_iconst (a := 0) (v := 0) (q := 16) (by decide +kernel) (by decide +kernel) rfl ?_
    refine Z_istore_n (a := 3) (loc2 := [_, _, _, _, _, _]) (q := 17) (by decide +kernel) (by decide +kernel) rfl rfl rfl ?_
    refine Z_iconst (a := 0) (v := 0) (q := 18) (by decide +kernel) (by decide +kernel) rfl ?_
    refine Z_istore (a := 4) (loc2 := [_, _, _, _, _, _]) (q := 20) (by decide +kernel) (by decide +kernel) rfl rfl rfl ?_
    refine Z_iconst (a := 0) (v := 0) (q := 21) (by decide +kernel) (by decide +kernel) rfl ?_
    refine Z_istore (a := 5) (loc2 := [_, _, _, _, _, _]) (q := 23) (by decide +kernel) (by decide +kernel) rfl rfl rfl ?_
    exact h
  · replace h := h.2 hc
    exact Z_vret (by decide +kernel) rfl rfl ⟨rfl, h⟩
set_option maxRecDepth 4000 in
theorem bX8_mergeWith_23 {d : Nat} (x1 : Int32) (x2 : Int32) (x3 : Int32) (x4 : Int32) (x5 : Int32) {iv : zI} {rv : zR} {lv : zJ} {Q : zI → zR → zJ → Prop} (hT : zTop rv) 
    (h : (x2 ≤ x5 → ∃ r1 : Nat, rv 155 1 = some r1 ∧ zSH r1 = (0, 1024) ∧ r1 < 200 ∧ (∃ r2 : Nat, rv 155 0 = some r2 ∧ zSH r2 = (0, 1024) ∧ r2 < 200 ∧ (∀ rv3 : zR, rv3 = zu rv 155 1 (some r2) → zTop rv3 ∧ (∀ rv5 : zR, rv5 = zu rv3 155 0 (some r1) → zTop rv5 ∧ (∀ iv7 : zI, iv7 = zu iv 155 2 x2 → Q iv7 rv5 lv))))) ∧ (¬ x2 ≤ x5 → ((iv 155 2) ≤ x4 → ∃ r8 : Nat, rv 155 1 = some r8 ∧ zSH r8 = (0, 1024) ∧ r8 < 200 ∧ (∃ r9 : Nat, rv 155 0 = some r9 ∧ zSH r9 = (0, 1024) ∧ r9 < 200 ∧ (vp_in x3 1024 ∧ (vp_in x5 1024 ∧ (∀ iv12 : zI, iv12 = zu iv r8 x5.toNatClampNeg (iv r9 x3.toNatClampNeg) → Zv mX8_mergeWith d 23 [some (.ref 155), some (.int x1), some (.int x2), some (.int (x3 + 1)), some (.int x4), some (.int (x5 + 1))] [] iv12 rv lv Q))))) ∧ (¬ (iv 155 2) ≤ x4 → ((iv 155 2) ≤ x3 → ∃ r13 : Nat, rv 155 1 = some r13 ∧ zSH r13 = (0, 1024) ∧ r13 < 200 ∧ (∃ r14 : Nat, rv 155 0 = some r14 ∧ zSH r14 = (0, 1024) ∧ r14 < 200 ∧ (vp_in x4 1024 ∧ (vp_in x5 1024 ∧ (∀ iv17 : zI, iv17 = zu iv r13 x5.toNatClampNeg ((iv r14 x4.toNatClampNeg) + x1) → Zv mX8_mergeWith d 23 [some (.ref 155), some (.int x1), some (.int x2), some (.int x3), some (.int (x4 + 1)), some (.int (x5 + 1))] [] iv17 rv lv Q))))) ∧ (¬ (iv 155 2) ≤ x3 → ∃ r18 : Nat, rv 155 0 = some r18 ∧ zSH r18 = (0, 1024) ∧ r18 < 200 ∧ (vp_in x3 1024 ∧ (∃ r20 : Nat, rv 155 0 = some r20 ∧ zSH r20 = (0, 1024) ∧ r20 < 200 ∧ (vp_in x4 1024 ∧ ((((iv r20 x4.toNatClampNeg) + x1) ≤ (iv r18 x3.toNatClampNeg) → ∃ r22 : Nat, rv 155 1 = some r22 ∧ zSH r22 = (0, 1024) ∧ r22 < 200 ∧ (∃ r23 : Nat, rv 155 0 = some r23 ∧ zSH r23 = (0, 1024) ∧ r23 < 200 ∧ (vp_in x5 1024 ∧ (∀ iv25 : zI, iv25 = zu iv r22 x5.toNatClampNeg ((iv r23 x4.toNatClampNeg) + x1) → Zv mX8_mergeWith d 23 [some (.ref 155), some (.int x1), some (.int x2), some (.int x3), some (.int (x4 + 1)), some (.int (x5 + 1))] [] iv25 rv lv Q)))) ∧ (¬ ((iv r20 x4.toNatClampNeg) + x1) ≤ (iv r18 x3.toNatClampNeg) → ∃ r26 : Nat, rv 155 1 = some r26 ∧ zSH r26 = (0, 1024) ∧ r26 < 200 ∧ (∃ r27 : Nat, rv 155 0 = some r27 ∧ zSH r27 = (0, 1024) ∧ r27 < 200 ∧ (vp_in x5 1024 ∧ (∀ iv29 : zI, iv29 = zu iv r26 x5.toNatClampNeg (iv r27 x3.toNatClampNeg) → Zv mX8_mergeWith d 23 [some (.ref 155), some (.int x1), some (.int x2), some (.int (x3 + 1)), some (.int x4), some (.int (x5 + 1))] [] iv29 rv lv Q)))))))))))) :
    Zv mX8_mergeWith d 23 [some (.ref 155), some (.int x1), some (.int x2), some (.int x3), some (.int x4), some (.int x5)] [] iv rv lv Q := by
  unfold Zv
  refine Z_iload (a := 5) (q := 25) (by decide +kernel) rfl rfl ?_
  refine Z_iload_n (a := 2) (q := 26) (by decide +kernel) rfl rfl ?_
  refine Z_icmp_ge (t := 108) (off := 82) (q := 29) (by decide +kernel) (by decide) rfl (fun hc => ?_) (fun hc => ?_)
  · replace h := h.1 hc
    refine Z_aload_n (a := 0) (q := 109) (by decide +kernel) rfl rfl ?_
    obtain ⟨r1, hrr1, hsr1, har1, h⟩ := h
    refine g8_1 (idx := 15) (q := 112) (by decide +kernel) fX8_15 rfl (by decide) hrr1 rfl ?_
    refine Z_astore (a := 5) (loc2 := [_, _, _, _, _, _]) (q := 114) (by decide +kernel) (by decide +kernel) rfl rfl rfl ?_
    refine Z_aload_n (a := 0) (q := 115) (by decide +kernel) rfl rfl ?_
    refine Z_aload_n (a := 0) (q := 116) (by decide +kernel) rfl rfl ?_
    obtain ⟨r2, hrr2, hsr2, har2, h⟩ := h
    refine g8_0 (idx := 11) (q := 119) (by decide +kernel) fX8_11 rfl (by decide) hrr2 rfl ?_
    refine p8_1 (idx := 15) (q := 122) (by decide +kernel) fX8_15 rfl (by decide) rfl ?_
    replace h := h _ rfl
    obtain ⟨hT4, h⟩ := h
    refine Z_aload_n (a := 0) (q := 123) (by decide +kernel) rfl rfl ?_
    refine Z_aload (a := 5) (q := 125) (by decide +kernel) rfl rfl ?_
    refine p8_0 (idx := 11) (q := 128) (by decide +kernel) fX8_11 rfl (by decide) rfl ?_
    replace h := h _ rfl
    obtain ⟨hT6, h⟩ := h
    refine Z_aload_n (a := 0) (q := 129) (by decide +kernel) rfl rfl ?_
    refine Z_iload_n (a := 2) (q := 130) (by decide +kernel) rfl rfl ?_
    refine p8_2 (idx := 18) (q := 133) (by decide +kernel) fX8_18 rfl (by decide) rfl ?_
    replace h := h _ rfl
    exact Z_vret (by decide +kernel) rfl rfl ⟨rfl, h⟩
  · replace h := h.2 hc
    refine Z_iload (a := 4) (q := 31) (by decide +kernel) rfl rfl ?_
    refine Z_aload_n (a := 0) (q := 32) (by decide +kernel) rfl rfl ?_
    refine g8_2 (idx := 18) (q := 35) (by decide +kernel) fX8_18 rfl (by decide) rfl ?_
    refine Z_icmp_ge (t := 64) (off := 29) (q := 38) (by decide +kernel) (by decide) rfl (fun hc => ?_) (fun hc => ?_)
    · replace h := h.1 hc
      refine Z_aload_n (a := 0) (q := 65) (by decide +kernel) rfl rfl ?_
      obtain ⟨r8, hrr8, hsr8, har8, h⟩ := h
      refine g8_1 (idx := 15) (q := 68) (by decide +kernel) fX8_15 rfl (by decide) hrr8 rfl ?_
      refine Z_iload (a := 5) (q := 70) (by decide +kernel) rfl rfl ?_
      refine Z_aload_n (a := 0) (q := 71) (by decide +kernel) rfl rfl ?_
      obtain ⟨r9, hrr9, hsr9, har9, h⟩ := h
      refine g8_0 (idx := 11) (q := 74) (by decide +kernel) fX8_11 rfl (by decide) hrr9 rfl ?_
      refine Z_iload_n (a := 3) (q := 75) (by decide +kernel) rfl rfl ?_
      obtain ⟨hin10, h⟩ := h
      refine Z_iald (len := 1024) (q := 76) (by decide +kernel) hsr9 har9 hin10 rfl ?_
      obtain ⟨hin11, h⟩ := h
      refine Z_iast (len := 1024) (q := 77) (by decide +kernel) hsr8 har8 hin11 rfl ?_
      replace h := h _ rfl
      refine Z_iinc (a := 3) (b := 1) (v := _ + 1) (loc2 := [_, _, _, _, _, _]) (q := 80) (by decide +kernel) rfl (zinc _) (by decide +kernel) rfl rfl rfl ?_
      refine Z_goto (q := 102) (off := 22) (by decide +kernel) (by decide) ?_
      refine Z_iinc (a := 5) (b := 1) (v := _ + 1) (loc2 := [_, _, _, _, _, _]) (q := 105) (by decide +kernel) rfl (zinc _) (by decide +kernel) rfl rfl rfl ?_
      refine Z_goto (q := 23) (off := -82) (by decide +kernel) (by decide) ?_
      exact h
    · replace h := h.2 hc
      refine Z_iload_n (a := 3) (q := 39) (by decide +kernel) rfl rfl ?_
      refine Z_aload_n (a := 0) (q := 40) (by decide +kernel) rfl rfl ?_
      refine g8_2 (idx := 18) (q := 43) (by decide +kernel) fX8_18 rfl (by decide) rfl ?_
      refine Z_icmp_ge (t := 83) (off := 40) (q := 46) (by decide +kernel) (by decide) rfl (fun hc => ?_) (fun hc => ?_)
      · replace h := h.1 hc
        refine Z_aload_n (a := 0) (q := 84) (by decide +kernel) rfl rfl ?_
        obtain ⟨r13, hrr13, hsr13, har13, h⟩ := h
        refine g8_1 (idx := 15) (q := 87) (by decide +kernel) fX8_15 rfl (by decide) hrr13 rfl ?_
        refine Z_iload (a := 5) (q := 89) (by decide +kernel) rfl rfl ?_
        refine Z_aload_n (a := 0) (q := 90) (by decide +kernel) rfl rfl ?_
        obtain ⟨r14, hrr14, hsr14, har14, h⟩ := h
        refine g8_0 (idx := 11) (q := 93) (by decide +kernel) fX8_11 rfl (by decide) hrr14 rfl ?_
        refine Z_iload (a := 4) (q := 95) (by decide +kernel) rfl rfl ?_
        obtain ⟨hin15, h⟩ := h
        refine Z_iald (len := 1024) (q := 96) (by decide +kernel) hsr14 har14 hin15 rfl ?_
        refine Z_iload_n (a := 1) (q := 97) (by decide +kernel) rfl rfl ?_
        refine Z_iadd (q := 98) (by decide +kernel) rfl ?_
        obtain ⟨hin16, h⟩ := h
        refine Z_iast (len := 1024) (q := 99) (by decide +kernel) hsr13 har13 hin16 rfl ?_
        replace h := h _ rfl
        refine Z_iinc (a := 4) (b := 1) (v := _ + 1) (loc2 := [_, _, _, _, _, _]) (q := 102) (by decide +kernel) rfl (zinc _) (by decide +kernel) rfl rfl rfl ?_
        refine Z_iinc (a := 5) (b := 1) (v := _ + 1) (loc2 := [_, _, _, _, _, _]) (q := 105) (by decide +kernel) rfl (zinc _) (by decide +kernel) rfl rfl rfl ?_
        refine Z_goto (q := 23) (off := -82) (by decide +kernel) (by decide) ?_
        exact h
      · replace h := h.2 hc
        refine Z_aload_n (a := 0) (q := 47) (by decide +kernel) rfl rfl ?_
        obtain ⟨r18, hrr18, hsr18, har18, h⟩ := h
        refine g8_0 (idx := 11) (q := 50) (by decide +kernel) fX8_11 rfl (by decide) hrr18 rfl ?_
        refine Z_iload_n (a := 3) (q := 51) (by decide +kernel) rfl rfl ?_
        obtain ⟨hin19, h⟩ := h
        refine Z_iald (len := 1024) (q := 52) (by decide +kernel) hsr18 har18 hin19 rfl ?_
        refine Z_aload_n (a := 0) (q := 53) (by decide +kernel) rfl rfl ?_
        obtain ⟨r20, hrr20, hsr20, har20, h⟩ := h
        refine g8_0 (idx := 11) (q := 56) (by decide +kernel) fX8_11 rfl (by decide) hrr20 rfl ?_
        refine Z_iload (a := 4) (q := 58) (by decide +kernel) rfl rfl ?_
        obtain ⟨hin21, h⟩ := h
        refine Z_iald (len := 1024) (q := 59) (by decide +kernel) hsr20 har20 hin21 rfl ?_
        refine Z_iload_n (a := 1) (q := 60) (by decide +kernel) rfl rfl ?_
        refine Z_iadd (q := 61) (by decide +kernel) rfl ?_
        refine Z_icmp_ge (t := 83) (off := 22) (q := 64) (by decide +kernel) (by decide) rfl (fun hc => ?_) (fun hc => ?_)
        · replace h := h.1 hc
          refine Z_aload_n (a := 0) (q := 84) (by decide +kernel) rfl rfl ?_
          obtain ⟨r22, hrr22, hsr22, har22, h⟩ := h
          refine g8_1 (idx := 15) (q := 87) (by decide +kernel) fX8_15 rfl (by decide) hrr22 rfl ?_
          refine Z_iload (a := 5) (q := 89) (by decide +kernel) rfl rfl ?_
          refine Z_aload_n (a := 0) (q := 90) (by decide +kernel) rfl rfl ?_
          obtain ⟨r23, hrr23, hsr23, har23, h⟩ := h
          refine g8_0 (idx := 11) (q := 93) (by decide +kernel) fX8_11 rfl (by decide) hrr23 rfl ?_
          refine Z_iload (a := 4) (q := 95) (by decide +kernel) rfl rfl ?_
          refine Z_iald (len := 1024) (q := 96) (by decide +kernel) hsr23 har23 hin21 rfl ?_
          refine Z_iload_n (a := 1) (q := 97) (by decide +kernel) rfl rfl ?_
          refine Z_iadd (q := 98) (by decide +kernel) rfl ?_
          obtain ⟨hin24, h⟩ := h
          refine Z_iast (len := 1024) (q := 99) (by decide +kernel) hsr22 har22 hin24 rfl ?_
          replace h := h _ rfl
          refine Z_iinc (a := 4) (b := 1) (v := _ + 1) (loc2 := [_, _, _, _, _, _]) (q := 102) (by decide +kernel) rfl (zinc _) (by decide +kernel) rfl rfl rfl ?_
          refine Z_iinc (a := 5) (b := 1) (v := _ + 1) (loc2 := [_, _, _, _, _, _]) (q := 105) (by decide +kernel) rfl (zinc _) (by decide +kernel) rfl rfl rfl ?_
          refine Z_goto (q := 23) (off := -82) (by decide +kernel) (by decide) ?_
          exact h
        · replace h := h.2 hc
          refine Z_aload_n (a := 0) (q := 65) (by decide +kernel) rfl rfl ?_
          obtain ⟨r26, hrr26, hsr26, har26, h⟩ := h
          refine g8_1 (idx := 15) (q := 68) (by decide +kernel) fX8_15 rfl (by decide) hrr26 rfl ?_
          refine Z_iload (a := 5) (q := 70) (by decide +kernel) rfl rfl ?_
          refine Z_aload_n (a := 0) (q := 71) (by decide +kernel) rfl rfl ?_
          obtain ⟨r27, hrr27, hsr27, har27, h⟩ := h
          refine g8_0 (idx := 11) (q := 74) (by decide +kernel) fX8_11 rfl (by decide) hrr27 rfl ?_
          refine Z_iload_n (a := 3) (q := 75) (by decide +kernel) rfl rfl ?_
          refine Z_iald (len := 1024) (q := 76) (by decide +kernel) hsr27 har27 hin19 rfl ?_
          obtain ⟨hin28, h⟩ := h
          refine Z_iast (len := 1024) (q := 77) (by decide +kernel) hsr26 har26 hin28 rfl ?_
          replace h := h _ rfl
          refine Z_iinc (a := 3) (b := 1) (v := _ + 1) (loc2 := [_, _, _, _, _, _]) (q := 80) (by decide +kernel) rfl (zinc _) (by decide +kernel) rfl rfl rfl ?_
          refine Z_goto (q := 102) (off := 22) (by decide +kernel) (by decide) ?_
          refine Z_iinc (a := 5) (b := 1) (v := _ + 1) (loc2 := [_, _, _, _, _, _]) (q := 105) (by decide +kernel) rfl (zinc _) (by decide +kernel) rfl rfl rfl ?_
          refine Z_goto (q := 23) (off := -82) (by decide +kernel) (by decide) ?_
          exact h
theorem eX8_sumAt {d : Nat} (x1 : Int32) {iv : zI} {rv : zR} {lv : zJ} {Q : Int32 → zI → zR → zJ → Prop} (h : Zi mX8_sumAt d 0 [some (.ref 155), some (.int x1)] [] iv rv lv Q) : Ci mX8_sumAt d [.ref 155, .int x1] iv rv lv Q := Ci.of (by decide +kernel) (by simp [Value.category]) (Nat.le_of_ble_eq_true rfl) rfl h
set_option maxRecDepth 4000 in
theorem bX8_sumAt_0 {d : Nat} (x1 : Int32) {iv : zI} {rv : zR} {lv : zJ} {Q : Int32 → zI → zR → zJ → Prop} (hT : zTop rv) 
    (h : ∃ r1 : Nat, rv 155 0 = some r1 ∧ zSH r1 = (0, 1024) ∧ r1 < 200 ∧ (vp_in x1 1024 ∧ (Q ((iv r1 x1.toNatClampNeg) >>> ((14 : Int32) &&& 31)) iv rv lv))) :
    Zi mX8_sumAt d 0 [some (.ref 155), some (.int x1)] [] iv rv lv Q := by
  unfold Zi
  refine Z_aload_n (a := 0) (q := 1) (by decide +kernel) rfl rfl ?_
  obtain ⟨r1, hrr1, hsr1, har1, h⟩ := h
  refine g8_0 (idx := 11) (q := 4) (by decide +kernel) fX8_11 rfl (by decide) hrr1 rfl ?_
  refine Z_iload_n (a := 1) (q := 5) (by decide +kernel) rfl rfl ?_
  obtain ⟨hin2, h⟩ := h
  refine Z_iald (len := 1024) (q := 6) (by decide +kernel) hsr1 har1 hin2 rfl ?_
  refine Z_bipush (a := 14) (v := 14) (q := 8) (by decide +kernel) (by decide +kernel) rfl ?_
  refine Z_ishr (q := 9) (by decide +kernel) rfl ?_
  exact Z_iret (ty := .int) (by decide +kernel) rfl rfl rfl ⟨_, rfl, h⟩
theorem eX8_firstFrom {d : Nat} (x1 : Int32) {iv : zI} {rv : zR} {lv : zJ} {Q : Int32 → zI → zR → zJ → Prop} (h : Zi mX8_firstFrom (d + 1) 0 [some (.ref 155), some (.int x1), none, none] [] iv rv lv Q) : Ci mX8_firstFrom (d + 1) [.ref 155, .int x1] iv rv lv Q := Ci.of (by decide +kernel) (by simp [Value.category]) (Nat.le_of_ble_eq_true rfl) rfl h
set_option maxRecDepth 4000 in
theorem bX8_firstFrom_0 {d : Nat} (x1 : Int32) {iv : zI} {rv : zR} {lv : zJ} {Q : Int32 → zI → zR → zJ → Prop} (hT : zTop rv) 
    (h : Zi mX8_firstFrom (d + 1) 6 [some (.ref 155), some (.int x1), some (.int (0 : Int32)), some (.int (1024 : Int32))] [] iv rv lv Q) :
    Zi mX8_firstFrom (d + 1) 0 [some (.ref 155), some (.int x1), none, none] [] iv rv lv Q := by
  unfold Zi
  refine Z_iconst (a := 0) (v := 0) (q := 1) (by decide +kernel) (by decide +kernel) rfl ?_
  refine Z_istore_n (a := 2) (loc2 := [_, _, _, _]) (q := 2) (by decide +kernel) (by decide +kernel) rfl rfl rfl ?_
  refine Z_sipush (a := 1024) (v := 1024) (q := 5) (by decide +kernel) (by decide +kernel) rfl ?_
  refine Z_istore_n (a := 3) (loc2 := [_, _, _, _]) (q := 6) (by decide +kernel) (by decide +kernel) rfl rfl rfl ?_
  exact h
set_option maxRecDepth 4000 in
theorem bX8_firstFrom_6 {d : Nat} (x1 : Int32) (x2 : Int32) (x3 : Int32) {iv : zI} {rv : zR} {lv : zJ} {Q : Int32 → zI → zR → zJ → Prop} (hT : zTop rv) 
    (h : (x3 ≤ 0 → Q x2 iv rv lv) ∧ (¬ x3 ≤ 0 → ((iv 155 2) < (x2 + x3) → Zi mX8_firstFrom (d + 1) 6 [some (.ref 155), some (.int x1), some (.int x2), some (.int (x3 / (2 : Int32)))] [] iv rv lv Q) ∧ (¬ (iv 155 2) < (x2 + x3) → ∃ Q1 : Int32 → zI → zR → zJ → Prop, Ci mX8_sumAt d [.ref 155, .int ((x2 + x3) - (1 : Int32))] iv rv lv Q1 ∧ ∀ (v6 : Int32) (iv2 : zI) (rv3 : zR) (lv4 : zJ), Q1 v6 iv2 rv3 lv4 → zTop rv3 ∧ ((x1 ≤ v6 → Zi mX8_firstFrom (d + 1) 6 [some (.ref 155), some (.int x1), some (.int x2), some (.int (x3 / (2 : Int32)))] [] iv2 rv3 lv4 Q) ∧ (¬ x1 ≤ v6 → Zi mX8_firstFrom (d + 1) 6 [some (.ref 155), some (.int x1), some (.int (x2 + x3)), some (.int (x3 / (2 : Int32)))] [] iv2 rv3 lv4 Q))))) :
    Zi mX8_firstFrom (d + 1) 6 [some (.ref 155), some (.int x1), some (.int x2), some (.int x3)] [] iv rv lv Q := by
  unfold Zi
  refine Z_iload_n (a := 3) (q := 7) (by decide +kernel) rfl rfl ?_
  refine Z_if_le (t := 44) (off := 37) (q := 10) (by decide +kernel) (by decide) rfl (fun hc => ?_) (fun hc => ?_)
  · replace h := h.1 hc
    refine Z_iload_n (a := 2) (q := 45) (by decide +kernel) rfl rfl ?_
    exact Z_iret (ty := .int) (by decide +kernel) rfl rfl rfl ⟨_, rfl, h⟩
  · replace h := h.2 hc
    refine Z_iload_n (a := 2) (q := 11) (by decide +kernel) rfl rfl ?_
    refine Z_iload_n (a := 3) (q := 12) (by decide +kernel) rfl rfl ?_
    refine Z_iadd (q := 13) (by decide +kernel) rfl ?_
    refine Z_aload_n (a := 0) (q := 14) (by decide +kernel) rfl rfl ?_
    refine g8_2 (idx := 18) (q := 17) (by decide +kernel) fX8_18 rfl (by decide) rfl ?_
    refine Z_icmp_gt (t := 37) (off := 20) (q := 20) (by decide +kernel) (by decide) rfl (fun hc => ?_) (fun hc => ?_)
    · replace h := h.1 hc
      refine Z_iload_n (a := 3) (q := 38) (by decide +kernel) rfl rfl ?_
      refine Z_iconst (a := 2) (v := 2) (q := 39) (by decide +kernel) (by decide +kernel) rfl ?_
      refine Z_idiv (q := 40) (by decide +kernel) (by decide) rfl ?_
      refine Z_istore_n (a := 3) (loc2 := [_, _, _, _]) (q := 41) (by decide +kernel) (by decide +kernel) rfl rfl rfl ?_
      refine Z_goto (q := 6) (off := -35) (by decide +kernel) (by decide) ?_
      exact h
    · replace h := h.2 hc
      refine Z_aload_n (a := 0) (q := 21) (by decide +kernel) rfl rfl ?_
      refine Z_iload_n (a := 2) (q := 22) (by decide +kernel) rfl rfl ?_
      refine Z_iload_n (a := 3) (q := 23) (by decide +kernel) rfl rfl ?_
      refine Z_iadd (q := 24) (by decide +kernel) rfl ?_
      refine Z_iconst (a := 1) (v := 1) (q := 25) (by decide +kernel) (by decide +kernel) rfl ?_
      refine Z_isub (q := 26) (by decide +kernel) rfl ?_
      obtain ⟨Q1, hm, h⟩ := h
      refine Z_callVi (M2 := mX8_sumAt) (idx := 37) (d2 := d) (ci := 8) (As := [.int _]) (q := 29) (by decide +kernel) kX8_sumAt lX8_37 rfl rfl (by decide) rfl rfl (by decide +kernel) (Nat.le_of_ble_eq_true rfl) (Nat.le_refl _) hm rfl (fun v6 iv2 rv3 lv4 hq => ?_)
      obtain ⟨hT5, h⟩ := h v6 iv2 rv3 lv4 hq
      refine Z_iload_n (a := 1) (q := 30) (by decide +kernel) rfl rfl ?_
      refine Z_icmp_ge (t := 37) (off := 7) (q := 33) (by decide +kernel) (by decide) rfl (fun hc => ?_) (fun hc => ?_)
      · replace h := h.1 hc
        refine Z_iload_n (a := 3) (q := 38) (by decide +kernel) rfl rfl ?_
        refine Z_iconst (a := 2) (v := 2) (q := 39) (by decide +kernel) (by decide +kernel) rfl ?_
        refine Z_idiv (q := 40) (by decide +kernel) (by decide) rfl ?_
        refine Z_istore_n (a := 3) (loc2 := [_, _, _, _]) (q := 41) (by decide +kernel) (by decide +kernel) rfl rfl rfl ?_
        refine Z_goto (q := 6) (off := -35) (by decide +kernel) (by decide) ?_
        exact h
      · replace h := h.2 hc
        refine Z_iload_n (a := 2) (q := 34) (by decide +kernel) rfl rfl ?_
        refine Z_iload_n (a := 3) (q := 35) (by decide +kernel) rfl rfl ?_
        refine Z_iadd (q := 36) (by decide +kernel) rfl ?_
        refine Z_istore_n (a := 2) (loc2 := [_, _, _, _]) (q := 37) (by decide +kernel) (by decide +kernel) rfl rfl rfl ?_
        refine Z_iload_n (a := 3) (q := 38) (by decide +kernel) rfl rfl ?_
        refine Z_iconst (a := 2) (v := 2) (q := 39) (by decide +kernel) (by decide +kernel) rfl ?_
        refine Z_idiv (q := 40) (by decide +kernel) (by decide) rfl ?_
        refine Z_istore_n (a := 3) (loc2 := [_, _, _, _]) (q := 41) (by decide +kernel) (by decide +kernel) rfl rfl rfl ?_
        refine Z_goto (q := 6) (off := -35) (by decide +kernel) (by decide) ?_
        exact h
theorem eX8_setsWith {d : Nat} (x1 : Int32) {iv : zI} {rv : zR} {lv : zJ} {Q : Int32 → zI → zR → zJ → Prop} (h : Zi mX8_setsWith (d + 1) 0 [some (.ref 155), some (.int x1)] [] iv rv lv Q) : Ci mX8_setsWith (d + 1) [.ref 155, .int x1] iv rv lv Q := Ci.of (by decide +kernel) (by simp [Value.category]) (Nat.le_of_ble_eq_true rfl) rfl h
set_option maxRecDepth 4000 in
theorem bX8_setsWith_0 {d : Nat} (x1 : Int32) {iv : zI} {rv : zR} {lv : zJ} {Q : Int32 → zI → zR → zJ → Prop} (hT : zTop rv) 
    (h : ∃ Q1 : Int32 → zI → zR → zJ → Prop, Ci mX8_firstFrom d [.ref 155, .int (x1 + (1 : Int32))] iv rv lv Q1 ∧ ∀ (v6 : Int32) (iv2 : zI) (rv3 : zR) (lv4 : zJ), Q1 v6 iv2 rv3 lv4 → zTop rv3 ∧ (∃ Q7 : Int32 → zI → zR → zJ → Prop, Ci mX8_firstFrom d [.ref 155, .int x1] iv2 rv3 lv4 Q7 ∧ ∀ (v12 : Int32) (iv8 : zI) (rv9 : zR) (lv10 : zJ), Q7 v12 iv8 rv9 lv10 → zTop rv9 ∧ (Q (v6 - v12) iv8 rv9 lv10))) :
    Zi mX8_setsWith (d + 1) 0 [some (.ref 155), some (.int x1)] [] iv rv lv Q := by
  unfold Zi
  refine Z_aload_n (a := 0) (q := 1) (by decide +kernel) rfl rfl ?_
  refine Z_iload_n (a := 1) (q := 2) (by decide +kernel) rfl rfl ?_
  refine Z_iconst (a := 1) (v := 1) (q := 3) (by decide +kernel) (by decide +kernel) rfl ?_
  refine Z_iadd (q := 4) (by decide +kernel) rfl ?_
  obtain ⟨Q1, hm, h⟩ := h
  refine Z_callVi (M2 := mX8_firstFrom) (idx := 41) (d2 := d) (ci := 8) (As := [.int _]) (q := 7) (by decide +kernel) kX8_firstFrom lX8_41 rfl rfl (by decide) rfl rfl (by decide +kernel) (Nat.le_of_ble_eq_true rfl) (Nat.le_refl _) hm rfl (fun v6 iv2 rv3 lv4 hq => ?_)
  obtain ⟨hT5, h⟩ := h v6 iv2 rv3 lv4 hq
  refine Z_aload_n (a := 0) (q := 8) (by decide +kernel) rfl rfl ?_
  refine Z_iload_n (a := 1) (q := 9) (by decide +kernel) rfl rfl ?_
  obtain ⟨Q7, hm, h⟩ := h
  refine Z_callVi (M2 := mX8_firstFrom) (idx := 41) (d2 := d) (ci := 8) (As := [.int _]) (q := 12) (by decide +kernel) kX8_firstFrom lX8_41 rfl rfl (by decide) rfl rfl (by decide +kernel) (Nat.le_of_ble_eq_true rfl) (Nat.le_refl _) hm rfl (fun v12 iv8 rv9 lv10 hq => ?_)
  obtain ⟨hT11, h⟩ := h v12 iv8 rv9 lv10 hq
  refine Z_isub (q := 13) (by decide +kernel) rfl ?_
  exact Z_iret (ty := .int) (by decide +kernel) rfl rfl rfl ⟨_, rfl, h⟩
theorem eX8_leastSetWith {d : Nat} (x1 : Int32) {iv : zI} {rv : zR} {lv : zJ} {Q : Int32 → zI → zR → zJ → Prop} (h : Zi mX8_leastSetWith (d + 1) 0 [some (.ref 155), some (.int x1), none] [] iv rv lv Q) : Ci mX8_leastSetWith (d + 1) [.ref 155, .int x1] iv rv lv Q := Ci.of (by decide +kernel) (by simp [Value.category]) (Nat.le_of_ble_eq_true rfl) rfl h
set_option maxRecDepth 4000 in
theorem bX8_leastSetWith_0 {d : Nat} (x1 : Int32) {iv : zI} {rv : zR} {lv : zJ} {Q : Int32 → zI → zR → zJ → Prop} (hT : zTop rv) 
    (h : ∃ Q1 : Int32 → zI → zR → zJ → Prop, Ci mX8_firstFrom d [.ref 155, .int x1] iv rv lv Q1 ∧ ∀ (v6 : Int32) (iv2 : zI) (rv3 : zR) (lv4 : zJ), Q1 v6 iv2 rv3 lv4 → zTop rv3 ∧ (((iv2 155 2) ≤ v6 → Q (-2 : Int32) iv2 rv3 lv4) ∧ (¬ (iv2 155 2) ≤ v6 → ∃ Q7 : Int32 → zI → zR → zJ → Prop, Ci mX8_sumAt d [.ref 155, .int v6] iv2 rv3 lv4 Q7 ∧ ∀ (v12 : Int32) (iv8 : zI) (rv9 : zR) (lv10 : zJ), Q7 v12 iv8 rv9 lv10 → zTop rv9 ∧ ((¬ v12 = x1 → Q (-2 : Int32) iv8 rv9 lv10) ∧ (v12 = x1 → ∃ r13 : Nat, rv9 155 0 = some r13 ∧ zSH r13 = (0, 1024) ∧ r13 < 200 ∧ (vp_in v6 1024 ∧ (Q ((iv8 r13 v6.toNatClampNeg) &&& (1023 : Int32)) iv8 rv9 lv10))))))) :
    Zi mX8_leastSetWith (d + 1) 0 [some (.ref 155), some (.int x1), none] [] iv rv lv Q := by
  unfold Zi
  refine Z_aload_n (a := 0) (q := 1) (by decide +kernel) rfl rfl ?_
  refine Z_iload_n (a := 1) (q := 2) (by decide +kernel) rfl rfl ?_
  obtain ⟨Q1, hm, h⟩ := h
  refine Z_callVi (M2 := mX8_firstFrom) (idx := 41) (d2 := d) (ci := 8) (As := [.int _]) (q := 5) (by decide +kernel) kX8_firstFrom lX8_41 rfl rfl (by decide) rfl rfl (by decide +kernel) (Nat.le_of_ble_eq_true rfl) (Nat.le_refl _) hm rfl (fun v6 iv2 rv3 lv4 hq => ?_)
  obtain ⟨hT5, h⟩ := h v6 iv2 rv3 lv4 hq
  refine Z_istore_n (a := 2) (loc2 := [_, _, _]) (q := 6) (by decide +kernel) (by decide +kernel) rfl rfl rfl ?_
  refine Z_iload_n (a := 2) (q := 7) (by decide +kernel) rfl rfl ?_
  refine Z_aload_n (a := 0) (q := 8) (by decide +kernel) rfl rfl ?_
  refine g8_2 (idx := 18) (q := 11) (by decide +kernel) fX8_18 rfl (by decide) rfl ?_
  refine Z_icmp_ge (t := 36) (off := 25) (q := 14) (by decide +kernel) (by decide) rfl (fun hc => ?_) (fun hc => ?_)
  · replace h := h.1 hc
    refine Z_bipush (a := -2) (v := -2) (q := 38) (by decide +kernel) (by decide +kernel) rfl ?_
    exact Z_iret (ty := .int) (by decide +kernel) rfl rfl rfl ⟨_, rfl, h⟩
  · replace h := h.2 hc
    refine Z_aload_n (a := 0) (q := 15) (by decide +kernel) rfl rfl ?_
    refine Z_iload_n (a := 2) (q := 16) (by decide +kernel) rfl rfl ?_
    obtain ⟨Q7, hm, h⟩ := h
    refine Z_callVi (M2 := mX8_sumAt) (idx := 37) (d2 := d) (ci := 8) (As := [.int _]) (q := 19) (by decide +kernel) kX8_sumAt lX8_37 rfl rfl (by decide) rfl rfl (by decide +kernel) (Nat.le_of_ble_eq_true rfl) (Nat.le_refl _) hm rfl (fun v12 iv8 rv9 lv10 hq => ?_)
    obtain ⟨hT11, h⟩ := h v12 iv8 rv9 lv10 hq
    refine Z_iload_n (a := 1) (q := 20) (by decide +kernel) rfl rfl ?_
    refine Z_icmp_ne (t := 36) (off := 16) (q := 23) (by decide +kernel) (by decide) rfl (fun hc => ?_) (fun hc => ?_)
    · replace h := h.1 hc
      refine Z_bipush (a := -2) (v := -2) (q := 38) (by decide +kernel) (by decide +kernel) rfl ?_
      exact Z_iret (ty := .int) (by decide +kernel) rfl rfl rfl ⟨_, rfl, h⟩
    · replace h := h.2 hc
      refine Z_aload_n (a := 0) (q := 24) (by decide +kernel) rfl rfl ?_
      obtain ⟨r13, hrr13, hsr13, har13, h⟩ := h
      refine g8_0 (idx := 11) (q := 27) (by decide +kernel) fX8_11 rfl (by decide) hrr13 rfl ?_
      refine Z_iload_n (a := 2) (q := 28) (by decide +kernel) rfl rfl ?_
      obtain ⟨hin14, h⟩ := h
      refine Z_iald (len := 1024) (q := 29) (by decide +kernel) hsr13 har13 hin14 rfl ?_
      refine Z_sipush (a := 1023) (v := 1023) (q := 32) (by decide +kernel) (by decide +kernel) rfl ?_
      refine Z_iand (q := 33) (by decide +kernel) rfl ?_
      refine Z_goto (q := 38) (off := 5) (by decide +kernel) (by decide) ?_
      exact Z_iret (ty := .int) (by decide +kernel) rfl rfl rfl ⟨_, rfl, h⟩
theorem eX8_unlikeSums {d : Nat}  {iv : zI} {rv : zR} {lv : zJ} {Q : Int32 → zI → zR → zJ → Prop} (h : Zi mX8_unlikeSums (d + 1) 0 [some (.ref 155), none, none] [] iv rv lv Q) : Ci mX8_unlikeSums (d + 1) [.ref 155] iv rv lv Q := Ci.of (by decide +kernel) (by simp [Value.category]) (Nat.le_of_ble_eq_true rfl) rfl h
set_option maxRecDepth 4000 in
theorem bX8_unlikeSums_0 {d : Nat}  {iv : zI} {rv : zR} {lv : zJ} {Q : Int32 → zI → zR → zJ → Prop} (hT : zTop rv) 
    (h : Zi mX8_unlikeSums (d + 1) 4 [some (.ref 155), some (.int (1 : Int32)), some (.int (1 : Int32))] [] iv rv lv Q) :
    Zi mX8_unlikeSums (d + 1) 0 [some (.ref 155), none, none] [] iv rv lv Q := by
  unfold Zi
  refine Z_iconst (a := 1) (v := 1) (q := 1) (by decide +kernel) (by decide +kernel) rfl ?_
  refine Z_istore_n (a := 1) (loc2 := [_, _, _]) (q := 2) (by decide +kernel) (by decide +kernel) rfl rfl rfl ?_
  refine Z_iconst (a := 1) (v := 1) (q := 3) (by decide +kernel) (by decide +kernel) rfl ?_
  refine Z_istore_n (a := 2) (loc2 := [_, _, _]) (q := 4) (by decide +kernel) (by decide +kernel) rfl rfl rfl ?_
  exact h
set_option maxRecDepth 4000 in
theorem bX8_unlikeSums_4 {d : Nat} (x1 : Int32) (x2 : Int32) {iv : zI} {rv : zR} {lv : zJ} {Q : Int32 → zI → zR → zJ → Prop} (hT : zTop rv) 
    (h : ((iv 155 2) ≤ x2 → Q x1 iv rv lv) ∧ (¬ (iv 155 2) ≤ x2 → ∃ Q1 : Int32 → zI → zR → zJ → Prop, Ci mX8_sumAt d [.ref 155, .int x2] iv rv lv Q1 ∧ ∀ (v6 : Int32) (iv2 : zI) (rv3 : zR) (lv4 : zJ), Q1 v6 iv2 rv3 lv4 → zTop rv3 ∧ (∃ Q7 : Int32 → zI → zR → zJ → Prop, Ci mX8_sumAt d [.ref 155, .int (x2 - (1 : Int32))] iv2 rv3 lv4 Q7 ∧ ∀ (v12 : Int32) (iv8 : zI) (rv9 : zR) (lv10 : zJ), Q7 v12 iv8 rv9 lv10 → zTop rv9 ∧ ((v6 = v12 → Zi mX8_unlikeSums (d + 1) 4 [some (.ref 155), some (.int (x1 + (0 : Int32))), some (.int (x2 + 1))] [] iv8 rv9 lv10 Q) ∧ (¬ v6 = v12 → Zi mX8_unlikeSums (d + 1) 4 [some (.ref 155), some (.int (x1 + (1 : Int32))), some (.int (x2 + 1))] [] iv8 rv9 lv10 Q))))) :
    Zi mX8_unlikeSums (d + 1) 4 [some (.ref 155), some (.int x1), some (.int x2)] [] iv rv lv Q := by
  unfold Zi
  refine Z_iload_n (a := 2) (q := 5) (by decide +kernel) rfl rfl ?_
  refine Z_aload_n (a := 0) (q := 6) (by decide +kernel) rfl rfl ?_
  refine g8_2 (idx := 18) (q := 9) (by decide +kernel) fX8_18 rfl (by decide) rfl ?_
  refine Z_icmp_ge (t := 41) (off := 32) (q := 12) (by decide +kernel) (by decide) rfl (fun hc => ?_) (fun hc => ?_)
  · replace h := h.1 hc
    refine Z_iload_n (a := 1) (q := 42) (by decide +kernel) rfl rfl ?_
    exact Z_iret (ty := .int) (by decide +kernel) rfl rfl rfl ⟨_, rfl, h⟩
  · replace h := h.2 hc
    refine Z_iload_n (a := 1) (q := 13) (by decide +kernel) rfl rfl ?_
    refine Z_aload_n (a := 0) (q := 14) (by decide +kernel) rfl rfl ?_
    refine Z_iload_n (a := 2) (q := 15) (by decide +kernel) rfl rfl ?_
    obtain ⟨Q1, hm, h⟩ := h
    refine Z_callVi (M2 := mX8_sumAt) (idx := 37) (d2 := d) (ci := 8) (As := [.int _]) (q := 18) (by decide +kernel) kX8_sumAt lX8_37 rfl rfl (by decide) rfl rfl (by decide +kernel) (Nat.le_of_ble_eq_true rfl) (Nat.le_refl _) hm rfl (fun v6 iv2 rv3 lv4 hq => ?_)
    obtain ⟨hT5, h⟩ := h v6 iv2 rv3 lv4 hq
    refine Z_aload_n (a := 0) (q := 19) (by decide +kernel) rfl rfl ?_
    refine Z_iload_n (a := 2) (q := 20) (by decide +kernel) rfl rfl ?_
    refine Z_iconst (a := 1) (v := 1) (q := 21) (by decide +kernel) (by decide +kernel) rfl ?_
    refine Z_isub (q := 22) (by decide +kernel) rfl ?_
    obtain ⟨Q7, hm, h⟩ := h
    refine Z_callVi (M2 := mX8_sumAt) (idx := 37) (d2 := d) (ci := 8) (As := [.int _]) (q := 25) (by decide +kernel) kX8_sumAt lX8_37 rfl rfl (by decide) rfl rfl (by decide +kernel) (Nat.le_of_ble_eq_true rfl) (Nat.le_refl _) hm rfl (fun v12 iv8 rv9 lv10 hq => ?_)
    obtain ⟨hT11, h⟩ := h v12 iv8 rv9 lv10 hq
    refine Z_icmp_eq (t := 32) (off := 7) (q := 28) (by decide +kernel) (by decide) rfl (fun hc => ?_) (fun hc => ?_)
    · replace h := h.1 hc
      refine Z_iconst (a := 0) (v := 0) (q := 33) (by decide +kernel) (by decide +kernel) rfl ?_
      refine Z_iadd (q := 34) (by decide +kernel) rfl ?_
      refine Z_istore_n (a := 1) (loc2 := [_, _, _]) (q := 35) (by decide +kernel) (by decide +kernel) rfl rfl rfl ?_
      refine Z_iinc (a := 2) (b := 1) (v := _ + 1) (loc2 := [_, _, _]) (q := 38) (by decide +kernel) rfl (zinc _) (by decide +kernel) rfl rfl rfl ?_
      refine Z_goto (q := 4) (off := -34) (by decide +kernel) (by decide) ?_
      exact h
    · replace h := h.2 hc
      refine Z_iconst (a := 1) (v := 1) (q := 29) (by decide +kernel) (by decide +kernel) rfl ?_
      refine Z_goto (q := 33) (off := 4) (by decide +kernel) (by decide) ?_
      refine Z_iadd (q := 34) (by decide +kernel) rfl ?_
      refine Z_istore_n (a := 1) (loc2 := [_, _, _]) (q := 35) (by decide +kernel) (by decide +kernel) rfl rfl rfl ?_
      refine Z_iinc (a := 2) (b := 1) (v := _ + 1) (loc2 := [_, _, _]) (q := 38) (by decide +kernel) rfl (zinc _) (by decide +kernel) rfl rfl rfl ?_
      refine Z_goto (q := 4) (off := -34) (by decide +kernel) (by decide) ?_
      exact h
theorem eX8_sumNextTo {d : Nat} (x1 : Int32) {iv : zI} {rv : zR} {lv : zJ} {Q : Int32 → zI → zR → zJ → Prop} (h : Zi mX8_sumNextTo (d + 1) 0 [some (.ref 155), some (.int x1), none, none, none] [] iv rv lv Q) : Ci mX8_sumNextTo (d + 1) [.ref 155, .int x1] iv rv lv Q := Ci.of (by decide +kernel) (by simp [Value.category]) (Nat.le_of_ble_eq_true rfl) rfl h
set_option maxRecDepth 4000 in
theorem bX8_sumNextTo_0 {d : Nat} (x1 : Int32) {iv : zI} {rv : zR} {lv : zJ} {Q : Int32 → zI → zR → zJ → Prop} (hT : zTop rv) 
    (h : ∃ Q1 : Int32 → zI → zR → zJ → Prop, Ci mX8_firstFrom d [.ref 155, .int x1] iv rv lv Q1 ∧ ∀ (v6 : Int32) (iv2 : zI) (rv3 : zR) (lv4 : zJ), Q1 v6 iv2 rv3 lv4 → zTop rv3 ∧ ((v6 < (iv2 155 2) → (¬ v6 = 0 → ∃ Q7 : Int32 → zI → zR → zJ → Prop, Ci mX8_sumAt d [.ref 155, .int (v6 - (1 : Int32))] iv2 rv3 lv4 Q7 ∧ ∀ (v12 : Int32) (iv8 : zI) (rv9 : zR) (lv10 : zJ), Q7 v12 iv8 rv9 lv10 → zTop rv9 ∧ (∃ Q13 : Int32 → zI → zR → zJ → Prop, Ci mX8_sumAt d [.ref 155, .int v6] iv8 rv9 lv10 Q13 ∧ ∀ (v18 : Int32) (iv14 : zI) (rv15 : zR) (lv16 : zJ), Q13 v18 iv14 rv15 lv16 → zTop rv15 ∧ (((v18 - x1) < (x1 - v12) → Q v18 iv14 rv15 lv16) ∧ (¬ (v18 - x1) < (x1 - v12) → Q v12 iv14 rv15 lv16)))) ∧ (v6 = 0 → ∃ Q19 : Int32 → zI → zR → zJ → Prop, Ci mX8_sumAt d [.ref 155, .int (0 : Int32)] iv2 rv3 lv4 Q19 ∧ ∀ (v24 : Int32) (iv20 : zI) (rv21 : zR) (lv22 : zJ), Q19 v24 iv20 rv21 lv22 → zTop rv21 ∧ (Q v24 iv20 rv21 lv22))) ∧ (¬ v6 < (iv2 155 2) → ∃ Q25 : Int32 → zI → zR → zJ → Prop, Ci mX8_sumAt d [.ref 155, .int ((iv2 155 2) - (1 : Int32))] iv2 rv3 lv4 Q25 ∧ ∀ (v30 : Int32) (iv26 : zI) (rv27 : zR) (lv28 : zJ), Q25 v30 iv26 rv27 lv28 → zTop rv27 ∧ (Q v30 iv26 rv27 lv28)))) :
    Zi mX8_sumNextTo (d + 1) 0 [some (.ref 155), some (.int x1), none, none, none] [] iv rv lv Q := by
  unfold Zi
  refine Z_aload_n (a := 0) (q := 1) (by decide +kernel) rfl rfl ?_
  refine Z_iload_n (a := 1) (q := 2) (by decide +kernel) rfl rfl ?_
  obtain ⟨Q1, hm, h⟩ := h
  refine Z_callVi (M2 := mX8_firstFrom) (idx := 41) (d2 := d) (ci := 8) (As := [.int _]) (q := 5) (by decide +kernel) kX8_firstFrom lX8_41 rfl rfl (by decide) rfl rfl (by decide +kernel) (Nat.le_of_ble_eq_true rfl) (Nat.le_refl _) hm rfl (fun v6 iv2 rv3 lv4 hq => ?_)
  obtain ⟨hT5, h⟩ := h v6 iv2 rv3 lv4 hq
  refine Z_istore_n (a := 2) (loc2 := [_, _, _, _, _]) (q := 6) (by decide +kernel) (by decide +kernel) rfl rfl rfl ?_
  refine Z_iload_n (a := 2) (q := 7) (by decide +kernel) rfl rfl ?_
  refine Z_aload_n (a := 0) (q := 8) (by decide +kernel) rfl rfl ?_
  refine g8_2 (idx := 18) (q := 11) (by decide +kernel) fX8_18 rfl (by decide) rfl ?_
  refine Z_icmp_lt (t := 25) (off := 14) (q := 14) (by decide +kernel) (by decide) rfl (fun hc => ?_) (fun hc => ?_)
  · replace h := h.1 hc
    refine Z_iload_n (a := 2) (q := 26) (by decide +kernel) rfl rfl ?_
    refine Z_if_ne (t := 35) (off := 9) (q := 29) (by decide +kernel) (by decide) rfl (fun hc => ?_) (fun hc => ?_)
    · replace h := h.1 hc
      refine Z_aload_n (a := 0) (q := 36) (by decide +kernel) rfl rfl ?_
      refine Z_iload_n (a := 2) (q := 37) (by decide +kernel) rfl rfl ?_
      refine Z_iconst (a := 1) (v := 1) (q := 38) (by decide +kernel) (by decide +kernel) rfl ?_
      refine Z_isub (q := 39) (by decide +kernel) rfl ?_
      obtain ⟨Q7, hm, h⟩ := h
      refine Z_callVi (M2 := mX8_sumAt) (idx := 37) (d2 := d) (ci := 8) (As := [.int _]) (q := 42) (by decide +kernel) kX8_sumAt lX8_37 rfl rfl (by decide) rfl rfl (by decide +kernel) (Nat.le_of_ble_eq_true rfl) (Nat.le_refl _) hm rfl (fun v12 iv8 rv9 lv10 hq => ?_)
      obtain ⟨hT11, h⟩ := h v12 iv8 rv9 lv10 hq
      refine Z_istore_n (a := 3) (loc2 := [_, _, _, _, _]) (q := 43) (by decide +kernel) (by decide +kernel) rfl rfl rfl ?_
      refine Z_aload_n (a := 0) (q := 44) (by decide +kernel) rfl rfl ?_
      refine Z_iload_n (a := 2) (q := 45) (by decide +kernel) rfl rfl ?_
      obtain ⟨Q13, hm, h⟩ := h
      refine Z_callVi (M2 := mX8_sumAt) (idx := 37) (d2 := d) (ci := 8) (As := [.int _]) (q := 48) (by decide +kernel) kX8_sumAt lX8_37 rfl rfl (by decide) rfl rfl (by decide +kernel) (Nat.le_of_ble_eq_true rfl) (Nat.le_refl _) hm rfl (fun v18 iv14 rv15 lv16 hq => ?_)
      obtain ⟨hT17, h⟩ := h v18 iv14 rv15 lv16 hq
      refine Z_istore (a := 4) (loc2 := [_, _, _, _, _]) (q := 50) (by decide +kernel) (by decide +kernel) rfl rfl rfl ?_
      refine Z_iload_n (a := 1) (q := 51) (by decide +kernel) rfl rfl ?_
      refine Z_iload_n (a := 3) (q := 52) (by decide +kernel) rfl rfl ?_
      refine Z_isub (q := 53) (by decide +kernel) rfl ?_
      refine Z_iload (a := 4) (q := 55) (by decide +kernel) rfl rfl ?_
      refine Z_iload_n (a := 1) (q := 56) (by decide +kernel) rfl rfl ?_
      refine Z_isub (q := 57) (by decide +kernel) rfl ?_
      refine Z_icmp_gt (t := 64) (off := 7) (q := 60) (by decide +kernel) (by decide) rfl (fun hc => ?_) (fun hc => ?_)
      · replace h := h.1 hc
        refine Z_iload (a := 4) (q := 66) (by decide +kernel) rfl rfl ?_
        exact Z_iret (ty := .int) (by decide +kernel) rfl rfl rfl ⟨_, rfl, h⟩
      · replace h := h.2 hc
        refine Z_iload_n (a := 3) (q := 61) (by decide +kernel) rfl rfl ?_
        refine Z_goto (q := 66) (off := 5) (by decide +kernel) (by decide) ?_
        exact Z_iret (ty := .int) (by decide +kernel) rfl rfl rfl ⟨_, rfl, h⟩
    · replace h := h.2 hc
      refine Z_aload_n (a := 0) (q := 30) (by decide +kernel) rfl rfl ?_
      refine Z_iconst (a := 0) (v := 0) (q := 31) (by decide +kernel) (by decide +kernel) rfl ?_
      obtain ⟨Q19, hm, h⟩ := h
      refine Z_callVi (M2 := mX8_sumAt) (idx := 37) (d2 := d) (ci := 8) (As := [.int _]) (q := 34) (by decide +kernel) kX8_sumAt lX8_37 rfl rfl (by decide) rfl rfl (by decide +kernel) (Nat.le_of_ble_eq_true rfl) (Nat.le_refl _) hm rfl (fun v24 iv20 rv21 lv22 hq => ?_)
      obtain ⟨hT23, h⟩ := h v24 iv20 rv21 lv22 hq
      exact Z_iret (ty := .int) (by decide +kernel) rfl rfl rfl ⟨_, rfl, h⟩
  · replace h := h.2 hc
    refine Z_aload_n (a := 0) (q := 15) (by decide +kernel) rfl rfl ?_
    refine Z_aload_n (a := 0) (q := 16) (by decide +kernel) rfl rfl ?_
    refine g8_2 (idx := 18) (q := 19) (by decide +kernel) fX8_18 rfl (by decide) rfl ?_
    refine Z_iconst (a := 1) (v := 1) (q := 20) (by decide +kernel) (by decide +kernel) rfl ?_
    refine Z_isub (q := 21) (by decide +kernel) rfl ?_
    obtain ⟨Q25, hm, h⟩ := h
    refine Z_callVi (M2 := mX8_sumAt) (idx := 37) (d2 := d) (ci := 8) (As := [.int _]) (q := 24) (by decide +kernel) kX8_sumAt lX8_37 rfl rfl (by decide) rfl rfl (by decide +kernel) (Nat.le_of_ble_eq_true rfl) (Nat.le_refl _) hm rfl (fun v30 iv26 rv27 lv28 hq => ?_)
    obtain ⟨hT29, h⟩ := h v30 iv26 rv27 lv28 hq
    exact Z_iret (ty := .int) (by decide +kernel) rfl rfl rfl ⟨_, rfl, h⟩
