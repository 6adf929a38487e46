/-! BLOCKS of X2, by program. -/
theorem eX2_keepAct {d : Nat} (x1 : Nat) {iv : zI} {rv : zR} {lv : zJ} {Q : Nat → zI → zR → zJ → Prop} (h : Zr mX2_keepAct (d + 1) 0 [some (.ref 13), some (.ref x1), none] [] iv rv lv Q) : Cr mX2_keepAct (d + 1) [.ref 13, .ref x1] iv rv lv Q := Cr.of (by decide +kernel) (by simp [Value.category]) (Nat.le_of_ble_eq_true rfl) rfl h
set_option maxRecDepth 4000 in
theorem bX2_keepAct_0 {d : Nat} (x1 : Nat) {iv : zI} {rv : zR} {lv : zJ} {Q : Nat → zI → zR → zJ → Prop} (hT : zTop rv) (m_x1 : x1 ∈ zSts)
    (h : vp_in (iv 13 1) 10 ∧ (∃ r1 : Nat, rv 14 (iv 13 1).toNatClampNeg = some r1 ∧ r1 ∈ zSts ∧ (∃ Q2 : zI → zR → zJ → Prop, Cv mX9_copyFrom d [.ref r1, .ref x1] iv rv lv Q2 ∧ ∀ (iv3 : zI) (rv4 : zR) (lv5 : zJ), Q2 iv3 rv4 lv5 → zTop rv4 ∧ (∀ iv8 : zI, iv8 = zu iv3 13 1 (((iv3 13 1) + (1 : Int32)) - ((iv3 13 1) + (1 : Int32)) / (10 : Int32) * (10 : Int32)) → ∀ iv9 : zI, iv9 = zu iv8 13 2 (zmn ((iv8 13 2) + (1 : Int32)) (10 : Int32)) → Q r1 iv9 rv4 lv5)))) :
    Zr mX2_keepAct (d + 1) 0 [some (.ref 13), some (.ref x1), none] [] iv rv lv Q := by
  unfold Zr
  refine Z_aload_n (a := 0) (q := 1) (by decide +kernel) rfl rfl ?_
  refine g2_0 (idx := 11) (q := 4) (by decide +kernel) fX2_11 rfl (by decide) (t2_0 hT) rfl ?_
  refine Z_aload_n (a := 0) (q := 5) (by decide +kernel) rfl rfl ?_
  refine g2_1 (idx := 17) (q := 8) (by decide +kernel) fX2_17 rfl (by decide) rfl ?_
  obtain ⟨hin, h⟩ := h
  obtain ⟨r1, hr, hmr1, h⟩ := h
  refine Z_aald (len := 10) (t := 4) (r := r1) (q := 9) (by decide +kernel) rfl (by decide) (by decide) (by decide) hin hr rfl ?_
  refine Z_astore_n (a := 2) (loc2 := [_, _, _]) (q := 10) (by decide +kernel) (by decide +kernel) rfl rfl rfl ?_
  refine Z_aload_n (a := 2) (q := 11) (by decide +kernel) rfl rfl ?_
  refine Z_aload_n (a := 1) (q := 12) (by decide +kernel) rfl rfl ?_
  obtain ⟨Q2, hm, h⟩ := h
  refine Z_callVv (M2 := mX9_copyFrom) (idx := 28) (d2 := d) (ci := 9) (As := [.ref _]) (q := 15) (by decide +kernel) kX9_copyFrom lX2_28 rfl (hS9_0 hmr1) (hL9_0 hmr1) rfl rfl (by decide +kernel) (Nat.le_of_ble_eq_true rfl) (Nat.le_refl _) hm rfl (fun iv3 rv4 lv5 hq => ?_)
  obtain ⟨hT6, h⟩ := h iv3 rv4 lv5 hq
  refine Z_aload_n (a := 0) (q := 16) (by decide +kernel) rfl rfl ?_
  refine Z_aload_n (a := 0) (q := 17) (by decide +kernel) rfl rfl ?_
  refine g2_1 (idx := 17) (q := 20) (by decide +kernel) fX2_17 rfl (by decide) rfl ?_
  refine Z_iconst (a := 1) (v := 1) (q := 21) (by decide +kernel) (by decide +kernel) rfl ?_
  refine Z_iadd (q := 22) (by decide +kernel) rfl ?_
  refine Z_bipush (a := 10) (v := 10) (q := 24) (by decide +kernel) (by decide +kernel) rfl ?_
  refine Z_irem (q := 25) (by decide +kernel) (by decide) rfl ?_
  refine p2_1 (idx := 17) (q := 28) (by decide +kernel) fX2_17 rfl (by decide) rfl ?_
  replace h := h _ rfl
  refine Z_aload_n (a := 0) (q := 29) (by decide +kernel) rfl rfl ?_
  refine Z_aload_n (a := 0) (q := 30) (by decide +kernel) rfl rfl ?_
  refine g2_2 (idx := 21) (q := 33) (by decide +kernel) fX2_21 rfl (by decide) rfl ?_
  refine Z_iconst (a := 1) (v := 1) (q := 34) (by decide +kernel) (by decide +kernel) rfl ?_
  refine Z_iadd (q := 35) (by decide +kernel) rfl ?_
  refine Z_bipush (a := 10) (v := 10) (q := 37) (by decide +kernel) (by decide +kernel) rfl ?_
  refine Z_min (idx := 32) (q := 40) (by decide +kernel) lX2_32 (Nat.le_of_ble_eq_true rfl) (Nat.le_add_left 1 d) rfl ?_
  refine p2_2 (idx := 21) (q := 43) (by decide +kernel) fX2_21 rfl (by decide) rfl ?_
  replace h := h _ rfl
  refine Z_aload_n (a := 2) (q := 44) (by decide +kernel) rfl rfl ?_
  exact Z_aret (by decide +kernel) rfl rfl ⟨_, rfl, h⟩
theorem eX2_takeBack {d : Nat} (x1 : Nat) {iv : zI} {rv : zR} {lv : zJ} {Q : zI → zR → zJ → Prop} (h : Zv mX2_takeBack (d + 1) 0 [some (.ref 13), some (.ref x1)] [] iv rv lv Q) : Cv mX2_takeBack (d + 1) [.ref 13, .ref x1] iv rv lv Q := Cv.of (by decide +kernel) (by simp [Value.category]) (Nat.le_of_ble_eq_true rfl) rfl h
set_option maxRecDepth 4000 in
theorem bX2_takeBack_0 {d : Nat} (x1 : Nat) {iv : zI} {rv : zR} {lv : zJ} {Q : zI → zR → zJ → Prop} (hT : zTop rv) (m_x1 : x1 ∈ zSts)
    (h : ∀ iv1 : zI, iv1 = zu iv 13 1 ((((iv 13 1) + (10 : Int32)) - (1 : Int32)) - (((iv 13 1) + (10 : Int32)) - (1 : Int32)) / (10 : Int32) * (10 : Int32)) → ∀ iv2 : zI, iv2 = zu iv1 13 2 ((iv1 13 2) - (1 : Int32)) → vp_in (iv2 13 1) 10 ∧ (∃ r3 : Nat, rv 14 (iv2 13 1).toNatClampNeg = some r3 ∧ r3 ∈ zSts ∧ (∃ Q4 : zI → zR → zJ → Prop, Cv mX9_copyFrom d [.ref x1, .ref r3] iv2 rv lv Q4 ∧ ∀ (iv5 : zI) (rv6 : zR) (lv7 : zJ), Q4 iv5 rv6 lv7 → zTop rv6 ∧ (Q iv5 rv6 lv7)))) :
    Zv mX2_takeBack (d + 1) 0 [some (.ref 13), some (.ref x1)] [] iv rv lv Q := by
  unfold Zv
  refine Z_aload_n (a := 0) (q := 1) (by decide +kernel) rfl rfl ?_
  refine Z_aload_n (a := 0) (q := 2) (by decide +kernel) rfl rfl ?_
  refine g2_1 (idx := 17) (q := 5) (by decide +kernel) fX2_17 rfl (by decide) rfl ?_
  refine Z_bipush (a := 10) (v := 10) (q := 7) (by decide +kernel) (by decide +kernel) rfl ?_
  refine Z_iadd (q := 8) (by decide +kernel) rfl ?_
  refine Z_iconst (a := 1) (v := 1) (q := 9) (by decide +kernel) (by decide +kernel) rfl ?_
  refine Z_isub (q := 10) (by decide +kernel) rfl ?_
  refine Z_bipush (a := 10) (v := 10) (q := 12) (by decide +kernel) (by decide +kernel) rfl ?_
  refine Z_irem (q := 13) (by decide +kernel) (by decide) rfl ?_
  refine p2_1 (idx := 17) (q := 16) (by decide +kernel) fX2_17 rfl (by decide) rfl ?_
  replace h := h _ rfl
  refine Z_aload_n (a := 0) (q := 17) (by decide +kernel) rfl rfl ?_
  refine Z_dup (q := 18) (by decide +kernel) rfl rfl ?_
  refine g2_2 (idx := 21) (q := 21) (by decide +kernel) fX2_21 rfl (by decide) rfl ?_
  refine Z_iconst (a := 1) (v := 1) (q := 22) (by decide +kernel) (by decide +kernel) rfl ?_
  refine Z_isub (q := 23) (by decide +kernel) rfl ?_
  refine p2_2 (idx := 21) (q := 26) (by decide +kernel) fX2_21 rfl (by decide) rfl ?_
  replace h := h _ rfl
  refine Z_aload_n (a := 1) (q := 27) (by decide +kernel) rfl rfl ?_
  refine Z_aload_n (a := 0) (q := 28) (by decide +kernel) rfl rfl ?_
  refine g2_0 (idx := 11) (q := 31) (by decide +kernel) fX2_11 rfl (by decide) (t2_0 hT) rfl ?_
  refine Z_aload_n (a := 0) (q := 32) (by decide +kernel) rfl rfl ?_
  refine g2_1 (idx := 17) (q := 35) (by decide +kernel) fX2_17 rfl (by decide) rfl ?_
  obtain ⟨hin, h⟩ := h
  obtain ⟨r3, hr, hmr3, h⟩ := h
  refine Z_aald (len := 10) (t := 4) (r := r3) (q := 36) (by decide +kernel) rfl (by decide) (by decide) (by decide) hin hr rfl ?_
  obtain ⟨Q4, hm, h⟩ := h
  refine Z_callVv (M2 := mX9_copyFrom) (idx := 28) (d2 := d) (ci := 9) (As := [.ref _]) (q := 39) (by decide +kernel) kX9_copyFrom lX2_28 rfl (hS9_0 m_x1) (hL9_0 m_x1) rfl rfl (by decide +kernel) (Nat.le_of_ble_eq_true rfl) (Nat.le_refl _) hm rfl (fun iv5 rv6 lv7 hq => ?_)
  obtain ⟨hT8, h⟩ := h iv5 rv6 lv7 hq
  exact Z_vret (by decide +kernel) rfl rfl ⟨rfl, h⟩
theorem eX2_forgetActs {d : Nat}  {iv : zI} {rv : zR} {lv : zJ} {Q : zI → zR → zJ → Prop} (h : Zv mX2_forgetActs d 0 [some (.ref 13)] [] iv rv lv Q) : Cv mX2_forgetActs d [.ref 13] iv rv lv Q := Cv.of (by decide +kernel) (by simp [Value.category]) (Nat.le_of_ble_eq_true rfl) rfl h
set_option maxRecDepth 4000 in
theorem bX2_forgetActs_0 {d : Nat}  {iv : zI} {rv : zR} {lv : zJ} {Q : zI → zR → zJ → Prop} (hT : zTop rv) 
    (h : ∀ iv1 : zI, iv1 = zu iv 13 2 (0 : Int32) → Q iv1 rv lv) :
    Zv mX2_forgetActs d 0 [some (.ref 13)] [] iv rv lv Q := by
  unfold Zv
  refine Z_aload_n (a := 0) (q := 1) (by decide +kernel) rfl rfl ?_
  refine Z_iconst (a := 0) (v := 0) (q := 2) (by decide +kernel) (by decide +kernel) rfl ?_
  refine p2_2 (idx := 21) (q := 5) (by decide +kernel) fX2_21 rfl (by decide) rfl ?_
  replace h := h _ rfl
  exact Z_vret (by decide +kernel) rfl rfl ⟨rfl, h⟩
theorem eX2_forgetImages {d : Nat}  {iv : zI} {rv : zR} {lv : zJ} {Q : zI → zR → zJ → Prop} (h : Zv mX2_forgetImages (d + 1) 0 [some (.ref 13), none] [] iv rv lv Q) : Cv mX2_forgetImages (d + 1) [.ref 13] iv rv lv Q := Cv.of (by decide +kernel) (by simp [Value.category]) (Nat.le_of_ble_eq_true rfl) rfl h
set_option maxRecDepth 4000 in
theorem bX2_forgetImages_0 {d : Nat}  {iv : zI} {rv : zR} {lv : zJ} {Q : zI → zR → zJ → Prop} (hT : zTop rv) 
    (h : Zv mX2_forgetImages (d + 1) 2 [some (.ref 13), some (.int (0 : Int32))] [] iv rv lv Q) :
    Zv mX2_forgetImages (d + 1) 0 [some (.ref 13), none] [] iv rv lv Q := by
  unfold Zv
  refine Z_iconst (a := 0) (v := 0) (q := 1) (by decide +kernel) (by decide +kernel) rfl ?_
  refine Z_istore_n (a := 1) (loc2 := [_, _]) (q := 2) (by decide +kernel) (by decide +kernel) rfl rfl rfl ?_
  exact h
set_option maxRecDepth 4000 in
theorem bX2_forgetImages_2 {d : Nat} (x1 : Int32) {iv : zI} {rv : zR} {lv : zJ} {Q : zI → zR → zJ → Prop} (hT : zTop rv) 
    (h : ((2 : Int32) ≤ x1 → Q iv rv lv) ∧ (¬ (2 : Int32) ≤ x1 → vp_in x1 2 ∧ (∃ r1 : Nat, rv 15 x1.toNatClampNeg = some r1 ∧ r1 ∈ zSts ∧ (∃ Q2 : zI → zR → zJ → Prop, Cv mX9_empty d [.ref r1] iv rv lv Q2 ∧ ∀ (iv3 : zI) (rv4 : zR) (lv5 : zJ), Q2 iv3 rv4 lv5 → zTop rv4 ∧ (Zv mX2_forgetImages (d + 1) 2 [some (.ref 13), some (.int (x1 + 1))] [] iv3 rv4 lv5 Q))))) :
    Zv mX2_forgetImages (d + 1) 2 [some (.ref 13), some (.int x1)] [] iv rv lv Q := by
  unfold Zv
  refine Z_iload_n (a := 1) (q := 3) (by decide +kernel) rfl rfl ?_
  refine Z_iconst (a := 2) (v := 2) (q := 4) (by decide +kernel) (by decide +kernel) rfl ?_
  refine Z_icmp_ge (t := 22) (off := 18) (q := 7) (by decide +kernel) (by decide) rfl (fun hc => ?_) (fun hc => ?_)
  · replace h := h.1 hc
    exact Z_vret (by decide +kernel) rfl rfl ⟨rfl, h⟩
  · replace h := h.2 hc
    refine Z_aload_n (a := 0) (q := 8) (by decide +kernel) rfl rfl ?_
    refine g2_3 (idx := 24) (q := 11) (by decide +kernel) fX2_24 rfl (by decide) (t2_3 hT) rfl ?_
    refine Z_iload_n (a := 1) (q := 12) (by decide +kernel) rfl rfl ?_
    obtain ⟨hin, h⟩ := h
    obtain ⟨r1, hr, hmr1, h⟩ := h
    refine Z_aald (len := 2) (t := 4) (r := r1) (q := 13) (by decide +kernel) rfl (by decide) (by decide) (by decide) hin hr rfl ?_
    obtain ⟨Q2, hm, h⟩ := h
    refine Z_callVv (M2 := mX9_empty) (idx := 38) (d2 := d) (ci := 9) (As := []) (q := 16) (by decide +kernel) kX9_empty lX2_38 rfl (hS9_0 hmr1) (hL9_0 hmr1) rfl rfl (by decide +kernel) (Nat.le_of_ble_eq_true rfl) (Nat.le_refl _) hm rfl (fun iv3 rv4 lv5 hq => ?_)
    obtain ⟨hT6, h⟩ := h iv3 rv4 lv5 hq
    refine Z_iinc (a := 1) (b := 1) (v := _ + 1) (loc2 := [_, _]) (q := 19) (by decide +kernel) rfl (zinc _) (by decide +kernel) rfl rfl rfl ?_
    refine Z_goto (q := 2) (off := -17) (by decide +kernel) (by decide) ?_
    exact h
