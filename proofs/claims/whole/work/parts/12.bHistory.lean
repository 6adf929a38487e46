/-! BLOCKS of X2, by program. -/
theorem eX2_keepAct {d : Nat} (x1 : Nat) {iv : zI} {rv : zR} {lv : zJ} {Q : Nat → zI → zR → zJ → Prop} (h : Zr mX2_keepAct (d + 1) 0 [some (.ref 13), some (.ref x1), none] [] iv rv lv Q) : Cr mX2_keepAct (d + 1) [.ref 13, .ref x1] iv rv lv Q := Cr.of (by decide +kernel) (by simp [Value.category]) (Nat.le_of_ble_eq_true rfl) rfl h
set_option maxRecDepth 4000 in
theorem bX2_keepAct_0 {d : Nat} (x1 : Nat) {iv : zI} {rv : zR} {lv : zJ} {Q : Nat → zI → zR → zJ → Prop} (hT : zTop rv) (m_x1 : x1 ∈ zSts)
    (h : vp_in (iv 13 1) 10 ∧ (∃ r2 : Nat, rv 14 (iv 13 1).toNatClampNeg = some r2 ∧ r2 ∈ zSts ∧ (∃ Q3 : zI → zR → zJ → Prop, Cv mX9_copyFrom d [.ref r2, .ref x1] iv rv lv Q3 ∧ ∀ (iv4 : zI) (rv5 : zR) (lv6 : zJ), Q3 iv4 rv5 lv6 → zTop rv5 ∧ (∀ iv9 : zI, iv9 = zu iv4 13 1 (((iv4 13 1) + (1 : Int32)) - ((iv4 13 1) + (1 : Int32)) / (10 : Int32) * (10 : Int32)) → ∀ iv10 : zI, iv10 = zu iv9 13 2 (zmn ((iv9 13 2) + (1 : Int32)) (10 : Int32)) → Q r2 iv10 rv5 lv6)))) :
    Zr mX2_keepAct (d + 1) 0 [some (.ref 13), some (.ref x1), none] [] iv rv lv Q := by
  unfold Zr
  refine Z_aload_n (a := 0) (q := 1) (by decide +kernel) rfl rfl ?_
  refine g2_0 (idx := 11) (q := 4) (by decide +kernel) fX2_11 rfl (by decide) (t2_0 hT) rfl ?_
  refine Z_aload_n (a := 0) (q := 5) (by decide +kernel) rfl rfl ?_
  refine g2_1 (idx := 17) (q := 8) (by decide +kernel) fX2_17 rfl (by decide) rfl ?_
  obtain ⟨hin1, h⟩ := h
  obtain ⟨r2, hr, hmr2, h⟩ := h
  refine Z_aald (len := 10) (t := 4) (r := r2) (q := 9) (by decide +kernel) rfl (by decide) (by decide) (by decide) hin1 hr rfl ?_
  refine Z_astore_n (a := 2) (loc2 := [_, _, _]) (q := 10) (by decide +kernel) (by decide +kernel) rfl rfl rfl ?_
  refine Z_aload_n (a := 2) (q := 11) (by decide +kernel) rfl rfl ?_
  refine Z_aload_n (a := 1) (q := 12) (by decide +kernel) rfl rfl ?_
  obtain ⟨Q3, hm, h⟩ := h
  refine Z_callVv (M2 := mX9_copyFrom) (idx := 28) (d2 := d) (ci := 9) (As := [.ref _]) (q := 15) (by decide +kernel) kX9_copyFrom lX2_28 rfl (hS9_0 hmr2) (hL9_0 hmr2) rfl rfl (by decide +kernel) (Nat.le_of_ble_eq_true rfl) (Nat.le_refl _) hm rfl (fun iv4 rv5 lv6 hq => ?_)
  obtain ⟨hT7, h⟩ := h iv4 rv5 lv6 hq
  refine Z_aload_n (a := 0) (q := 16) (by decide +kernel) rfl rfl ?_
  refine Z_aload_n (a := 0) (q := 17) (by decide +kernel) rfl rfl ?_
  refine g2_1 (idx := 17) (q := 20) (by decide +kernel) fX2_17 rfl (by decide) rfl ?_
  refine Z_iconst (a := 1) (v := 1) (q := 21) (by decide +kernel) (by decide +kernel) rfl ?_
  refine Z_iadd (q := 22) (by decide +kernel) rfl ?_
  refine Z_bipush (a := 10) (v := 10) (q := 24) (by decide +kernel) (by decide +kernel) rfl ?_
  refine Z_irem (q := 25) (by decide +kernel) (by decide) rfl ?_
  refine p2_1 (idx := 17) (q := 28) (by decide +kernel) fX2_17 rfl (by decide) rfl ?_
  replace h := h _ rfl
  refine Z_aload_n (a := 0) (q := 29) (by decide +kernel) rfl rfl ?_
  refine Z_aload_n (a := 0) (q := 30) (by decide +kernel) rfl rfl ?_
  refine g2_2 (idx := 21) (q := 33) (by decide +kernel) fX2_21 rfl (by decide) rfl ?_
  refine Z_iconst (a := 1) (v := 1) (q := 34) (by decide +kernel) (by decide +kernel) rfl ?_
  refine Z_iadd (q := 35) (by decide +kernel) rfl ?_
  refine Z_bipush (a := 10) (v := 10) (q := 37) (by decide +kernel) (by decide +kernel) rfl ?_
  refine Z_min (idx := 32) (q := 40) (by decide +kernel) lX2_32 (Nat.le_of_ble_eq_true rfl) (Nat.le_add_left 1 d) rfl ?_
  refine p2_2 (idx := 21) (q := 43) (by decide +kernel) fX2_21 rfl (by decide) rfl ?_
  replace h := h _ rfl
  refine Z_aload_n (a := 2) (q := 44) (by decide +kernel) rfl rfl ?_
  exact Z_aret (by decide +kernel) rfl rfl ⟨_, rfl, h⟩
theorem eX2_takeBack {d : Nat} (x1 : Nat) {iv : zI} {rv : zR} {lv : zJ} {Q : zI → zR → zJ → Prop} (h : Zv mX2_takeBack (d + 1) 0 [some (.ref 13), some (.ref x1)] [] iv rv lv Q) : Cv mX2_takeBack (d + 1) [.ref 13, .ref x1] iv rv lv Q := Cv.of (by decide +kernel) (by simp [Value.category]) (Nat.le_of_ble_eq_true rfl) rfl h
set_option maxRecDepth 4000 in
theorem bX2_takeBack_0 {d : Nat} (x1 : Nat) {iv : zI} {rv : zR} {lv : zJ} {Q : zI → zR → zJ → Prop} (hT : zTop rv) (m_x1 : x1 ∈ zSts)
    (h : ∀ iv1 : zI, iv1 = zu iv 13 1 ((((iv 13 1) + (10 : Int32)) - (1 : Int32)) - (((iv 13 1) + (10 : Int32)) - (1 : Int32)) / (10 : Int32) * (10 : Int32)) → ∀ iv2 : zI, iv2 = zu iv1 13 2 ((iv1 13 2) - (1 : Int32)) → vp_in (iv2 13 1) 10 ∧ (∃ r4 : Nat, rv 14 (iv2 13 1).toNatClampNeg = some r4 ∧ r4 ∈ zSts ∧ (∃ Q5 : zI → zR → zJ → Prop, Cv mX9_copyFrom d [.ref x1, .ref r4] iv2 rv lv Q5 ∧ ∀ (iv6 : zI) (rv7 : zR) (lv8 : zJ), Q5 iv6 rv7 lv8 → zTop rv7 ∧ (Q iv6 rv7 lv8)))) :
    Zv mX2_takeBack (d + 1) 0 [some (.ref 13), some (.ref x1)] [] iv rv lv Q := by
  unfold Zv
  refine Z_aload_n (a := 0) (q := 1) (by decide +kernel) rfl rfl ?_
  refine Z_aload_n (a := 0) (q := 2) (by decide +kernel) rfl rfl ?_
  refine g2_1 (idx := 17) (q := 5) (by decide +kernel) fX2_17 rfl (by decide) rfl ?_
  refine Z_bipush (a := 10) (v := 10) (q := 7) (by decide +kernel) (by decide +kernel) rfl ?_
  refine Z_iadd (q := 8) (by decide +kernel) rfl ?_
  refine Z_iconst (a := 1) (v := 1) (q := 9) (by decide +kernel) (by decide +kernel) rfl ?_
  refine Z_isub (q := 10) (by decide +kernel) rfl ?_
  refine Z_bipush (a := 10) (v := 10) (q := 12) (by decide +kernel) (by decide +kernel) rfl ?_
  refine Z_irem (q := 13) (by decide +kernel) (by decide) rfl ?_
  refine p2_1 (idx := 17) (q := 16) (by decide +kernel) fX2_17 rfl (by decide) rfl ?_
  replace h := h _ rfl
  refine Z_aload_n (a := 0) (q := 17) (by decide +kernel) rfl rfl ?_
  refine Z_dup (q := 18) (by decide +kernel) rfl rfl ?_
  refine g2_2 (idx := 21) (q := 21) (by decide +kernel) fX2_21 rfl (by decide) rfl ?_
  refine Z_iconst (a := 1) (v := 1) (q := 22) (by decide +kernel) (by decide +kernel) rfl ?_
  refine Z_isub (q := 23) (by decide +kernel) rfl ?_
  refine p2_2 (idx := 21) (q := 26) (by decide +kernel) fX2_21 rfl (by decide) rfl ?_
  replace h := h _ rfl
  refine Z_aload_n (a := 1) (q := 27) (by decide +kernel) rfl rfl ?_
  refine Z_aload_n (a := 0) (q := 28) (by decide +kernel) rfl rfl ?_
  refine g2_0 (idx := 11) (q := 31) (by decide +kernel) fX2_11 rfl (by decide) (t2_0 hT) rfl ?_
  refine Z_aload_n (a := 0) (q := 32) (by decide +kernel) rfl rfl ?_
  refine g2_1 (idx := 17) (q := 35) (by decide +kernel) fX2_17 rfl (by decide) rfl ?_
  obtain ⟨hin3, h⟩ := h
  obtain ⟨r4, hr, hmr4, h⟩ := h
  refine Z_aald (len := 10) (t := 4) (r := r4) (q := 36) (by decide +kernel) rfl (by decide) (by decide) (by decide) hin3 hr rfl ?_
  obtain ⟨Q5, hm, h⟩ := h
  refine Z_callVv (M2 := mX9_copyFrom) (idx := 28) (d2 := d) (ci := 9) (As := [.ref _]) (q := 39) (by decide +kernel) kX9_copyFrom lX2_28 rfl (hS9_0 m_x1) (hL9_0 m_x1) rfl rfl (by decide +kernel) (Nat.le_of_ble_eq_true rfl) (Nat.le_refl _) hm rfl (fun iv6 rv7 lv8 hq => ?_)
  obtain ⟨hT9, h⟩ := h iv6 rv7 lv8 hq
  exact Z_vret (by decide +kernel) rfl rfl ⟨rfl, h⟩
theorem eX2_forgetActs {d : Nat}  {iv : zI} {rv : zR} {lv : zJ} {Q : zI → zR → zJ → Prop} (h : Zv mX2_forgetActs d 0 [some (.ref 13)] [] iv rv lv Q) : Cv mX2_forgetActs d [.ref 13] iv rv lv Q := Cv.of (by decide +kernel) (by simp [Value.category]) (Nat.le_of_ble_eq_true rfl) rfl h
set_option maxRecDepth 4000 in
theorem bX2_forgetActs_0 {d : Nat}  {iv : zI} {rv : zR} {lv : zJ} {Q : zI → zR → zJ → Prop} (hT : zTop rv) 
    (h : ∀ iv1 : zI, iv1 = zu iv 13 2 (0 : Int32) → Q iv1 rv lv) :
    Zv mX2_forgetActs d 0 [some (.ref 13)] [] iv rv lv Q := by
  unfold Zv
  refine Z_aload_n (a := 0) (q := 1) (by decide +kernel) rfl rfl ?_
  refine Z_iconst (a := 0) (v := 0) (q := 2) (by decide +kernel) (by decide +kernel) rfl ?_
  refine p2_2 (idx := 21) (q := 5) (by decide +kernel) fX2_21 rfl (by decide) rfl ?_
  replace h := h _ rfl
  exact Z_vret (by decide +kernel) rfl rfl ⟨rfl, h⟩
theorem eX2_forgetImages {d : Nat}  {iv : zI} {rv : zR} {lv : zJ} {Q : zI → zR → zJ → Prop} (h : Zv mX2_forgetImages (d + 1) 0 [some (.ref 13), none] [] iv rv lv Q) : Cv mX2_forgetImages (d + 1) [.ref 13] iv rv lv Q := Cv.of (by decide +kernel) (by simp [Value.category]) (Nat.le_of_ble_eq_true rfl) rfl h
set_option maxRecDepth 4000 in
theorem bX2_forgetImages_0 {d : Nat}  {iv : zI} {rv : zR} {lv : zJ} {Q : zI → zR → zJ → Prop} (hT : zTop rv) 
    (h : Zv mX2_forgetImages (d + 1) 2 [some (.ref 13), some (.int (0 : Int32))] [] iv rv lv Q) :
    Zv mX2_forgetImages (d + 1) 0 [some (.ref 13), none] [] iv rv lv Q := by
  unfold Zv
  refine Z_iconst (a := 0) (v := 0) (q := 1) (by decide +kernel) (by decide +kernel) rfl ?_
  refine Z_istore_n (a := 1) (loc2 := [_, _]) (q := 2) (by decide +kernel) (by decide +kernel) rfl rfl rfl ?_
  exact h
set_option maxRecDepth 4000 in
theorem bX2_forgetImages_2 {d : Nat} (x1 : Int32) {iv : zI} {rv : zR} {lv : zJ} {Q : zI → zR → zJ → Prop} (hT : zTop rv) 
    (h : ((2 : Int32) ≤ x1 → Q iv rv lv) ∧ (¬ (2 : Int32) ≤ x1 → vp_in x1 2 ∧ (∃ r2 : Nat, rv 15 x1.toNatClampNeg = some r2 ∧ r2 ∈ zSts ∧ (∃ Q3 : zI → zR → zJ → Prop, Cv mX9_empty d [.ref r2] iv rv lv Q3 ∧ ∀ (iv4 : zI) (rv5 : zR) (lv6 : zJ), Q3 iv4 rv5 lv6 → zTop rv5 ∧ (Zv mX2_forgetImages (d + 1) 2 [some (.ref 13), some (.int (x1 + 1))] [] iv4 rv5 lv6 Q))))) :
    Zv mX2_forgetImages (d + 1) 2 [some (.ref 13), some (.int x1)] [] iv rv lv Q := by
  unfold Zv
  refine Z_iload_n (a := 1) (q := 3) (by decide +kernel) rfl rfl ?_
  refine Z_iconst (a := 2) (v := 2) (q := 4) (by decide +kernel) (by decide +kernel) rfl ?_
  refine Z_icmp_ge (t := 22) (off := 18) (q := 7) (by decide +kernel) (by decide) rfl (fun hc => ?_) (fun hc => ?_)
  · replace h := h.1 hc
    exact Z_vret (by decide +kernel) rfl rfl ⟨rfl, h⟩
  · replace h := h.2 hc
    refine Z_aload_n (a := 0) (q := 8) (by decide +kernel) rfl rfl ?_
    refine g2_3 (idx := 24) (q := 11) (by decide +kernel) fX2_24 rfl (by decide) (t2_3 hT) rfl ?_
    refine Z_iload_n (a := 1) (q := 12) (by decide +kernel) rfl rfl ?_
    obtain ⟨hin1, h⟩ := h
    obtain ⟨r2, hr, hmr2, h⟩ := h
    refine Z_aald (len := 2) (t := 4) (r := r2) (q := 13) (by decide +kernel) rfl (by decide) (by decide) (by decide) hin1 hr rfl ?_
    obtain ⟨Q3, hm, h⟩ := h
    refine Z_callVv (M2 := mX9_empty) (idx := 38) (d2 := d) (ci := 9) (As := []) (q := 16) (by decide +kernel) kX9_empty lX2_38 rfl (hS9_0 hmr2) (hL9_0 hmr2) rfl rfl (by decide +kernel) (Nat.le_of_ble_eq_true rfl) (Nat.le_refl _) hm rfl (fun iv4 rv5 lv6 hq => ?_)
    obtain ⟨hT7, h⟩ := h iv4 rv5 lv6 hq
    refine Z_iinc (a := 1) (b := 1) (v := _ + 1) (loc2 := [_, _]) (q := 19) (by decide +kernel) rfl (zinc _) (by decide +kernel) rfl rfl rfl ?_
    refine Z_goto (q := 2) (off := -17) (by decide +kernel) (by decide) ?_
    exact h
