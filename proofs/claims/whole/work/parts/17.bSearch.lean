/-! BLOCKS of X7, by program. -/
theorem eX7_prepare {d : Nat} (x1 : Nat) (x2 : Int32) {iv : zI} {rv : zR} {lv : zJ} {Q : zI → zR → zJ → Prop} (h : Zv mX7_prepare (d + 1) 0 [some (.ref 86), some (.ref x1), some (.int x2)] [] iv rv lv Q) : Cv mX7_prepare (d + 1) [.ref 86, .ref x1, .int x2] iv rv lv Q := Cv.of (by decide +kernel) (by simp [Value.category]) (Nat.le_of_ble_eq_true rfl) rfl h
set_option maxRecDepth 4000 in
theorem bX7_prepare_0 {d : Nat} (x1 : Nat) (x2 : Int32) {iv : zI} {rv : zR} {lv : zJ} {Q : zI → zR → zJ → Prop} (hT : zTop rv) (m_x1 : x1 ∈ zSts)
    (h : (¬ (iv 86 10) = x2 → ∀ iv1 : zI, iv1 = zu iv 86 10 x2 → ∀ iv2 : zI, iv2 = zu iv1 86 1 (0 : Int32) → ∀ iv3 : zI, iv3 = zu iv2 86 2 (0 : Int32) → ∀ iv4 : zI, iv4 = zu iv3 86 3 (0 : Int32) → ∀ iv5 : zI, iv5 = zu iv4 86 4 (0 : Int32) → ∃ Q6 : Int32 → zI → zR → zJ → Prop, Ci mX9_total d [.ref x1] iv5 rv lv Q6 ∧ ∀ (v11 : Int32) (iv7 : zI) (rv8 : zR) (lv9 : zJ), Q6 v11 iv7 rv8 lv9 → zTop rv8 ∧ (∀ iv12 : zI, iv12 = zu iv7 86 9 (v11 - v11 / (2 : Int32) * (2 : Int32)) → ∃ r13 : Nat, rv8 89 0 = some r13 ∧ r13 ∈ zIts ∧ (∃ Q14 : zI → zR → zJ → Prop, Cv mX3_takeNumbers d [.ref r13, .ref x1] iv12 rv8 lv9 Q14 ∧ ∀ (iv15 : zI) (rv16 : zR) (lv17 : zJ), Q14 iv15 rv16 lv17 → zTop rv16 ∧ (∃ Q20 : zI → zR → zJ → Prop, Cv mX7_visit d [.ref 86, .int (0 : Int32)] iv15 rv16 lv17 Q20 ∧ ∀ (iv21 : zI) (rv22 : zR) (lv23 : zJ), Q20 iv21 rv22 lv23 → zTop rv22 ∧ (Q iv21 rv22 lv23))))) ∧ ((iv 86 10) = x2 → Q iv rv lv)) :
    Zv mX7_prepare (d + 1) 0 [some (.ref 86), some (.ref x1), some (.int x2)] [] iv rv lv Q := by
  unfold Zv
  refine Z_aload_n (a := 0) (q := 1) (by decide +kernel) rfl rfl ?_
  refine g7_10 (idx := 47) (q := 4) (by decide +kernel) fX7_47 rfl (by decide) rfl ?_
  refine Z_iload_n (a := 2) (q := 5) (by decide +kernel) rfl rfl ?_
  refine Z_icmp_ne (t := 9) (off := 4) (q := 8) (by decide +kernel) (by decide) rfl (fun hc => ?_) (fun hc => ?_)
  · replace h := h.1 hc
    refine Z_aload_n (a := 0) (q := 10) (by decide +kernel) rfl rfl ?_
    refine Z_iload_n (a := 2) (q := 11) (by decide +kernel) rfl rfl ?_
    refine p7_10 (idx := 47) (q := 14) (by decide +kernel) fX7_47 rfl (by decide) rfl ?_
    replace h := h _ rfl
    refine Z_aload_n (a := 0) (q := 15) (by decide +kernel) rfl rfl ?_
    refine Z_iconst (a := 0) (v := 0) (q := 16) (by decide +kernel) (by decide +kernel) rfl ?_
    refine p7_1 (idx := 15) (q := 19) (by decide +kernel) fX7_15 rfl (by decide) rfl ?_
    replace h := h _ rfl
    refine Z_aload_n (a := 0) (q := 20) (by decide +kernel) rfl rfl ?_
    refine Z_iconst (a := 0) (v := 0) (q := 21) (by decide +kernel) (by decide +kernel) rfl ?_
    refine p7_2 (idx := 18) (q := 24) (by decide +kernel) fX7_18 rfl (by decide) rfl ?_
    replace h := h _ rfl
    refine Z_aload_n (a := 0) (q := 25) (by decide +kernel) rfl rfl ?_
    refine Z_iconst (a := 0) (v := 0) (q := 26) (by decide +kernel) (by decide +kernel) rfl ?_
    refine p7_3 (idx := 21) (q := 29) (by decide +kernel) fX7_21 rfl (by decide) rfl ?_
    replace h := h _ rfl
    refine Z_aload_n (a := 0) (q := 30) (by decide +kernel) rfl rfl ?_
    refine Z_iconst (a := 0) (v := 0) (q := 31) (by decide +kernel) (by decide +kernel) rfl ?_
    refine p7_4 (idx := 24) (q := 34) (by decide +kernel) fX7_24 rfl (by decide) (by decide) rfl ?_
    replace h := h _ rfl
    refine Z_aload_n (a := 0) (q := 35) (by decide +kernel) rfl rfl ?_
    refine Z_aload_n (a := 1) (q := 36) (by decide +kernel) rfl rfl ?_
    obtain ⟨Q6, hm, h⟩ := h
    refine Z_callVi (M2 := mX9_total) (idx := 51) (d2 := d) (ci := 9) (As := []) (q := 39) (by decide +kernel) kX9_total lX7_51 rfl (hS9_0 m_x1) (hL9_0 m_x1) rfl rfl (by decide +kernel) (Nat.le_of_ble_eq_true rfl) (Nat.le_refl _) hm rfl (fun v11 iv7 rv8 lv9 hq => ?_)
    obtain ⟨hT10, h⟩ := h v11 iv7 rv8 lv9 hq
    refine Z_iconst (a := 2) (v := 2) (q := 40) (by decide +kernel) (by decide +kernel) rfl ?_
    refine Z_irem (q := 41) (by decide +kernel) (by decide) rfl ?_
    refine p7_9 (idx := 44) (q := 44) (by decide +kernel) fX7_44 rfl (by decide) rfl ?_
    replace h := h _ rfl
    refine Z_aload_n (a := 0) (q := 45) (by decide +kernel) rfl rfl ?_
    refine g7_8 (idx := 40) (q := 48) (by decide +kernel) fX7_40 rfl (by decide) (t7_8 hT10) rfl ?_
    refine Z_iconst (a := 0) (v := 0) (q := 49) (by decide +kernel) (by decide +kernel) rfl ?_
    obtain ⟨r13, hr, hmr13, h⟩ := h
    refine Z_aald (len := 10) (t := 5) (r := r13) (q := 50) (by decide +kernel) rfl (by decide) (by decide) (by decide) (by unfold vp_in; decide) hr rfl ?_
    refine Z_aload_n (a := 1) (q := 51) (by decide +kernel) rfl rfl ?_
    obtain ⟨Q14, hm, h⟩ := h
    refine Z_callVv (M2 := mX3_takeNumbers) (idx := 57) (d2 := d) (ci := 3) (As := [.ref _]) (q := 54) (by decide +kernel) kX3_takeNumbers lX7_57 rfl (hS3_0 hmr13) (hL3_0 hmr13) rfl rfl (by decide +kernel) (Nat.le_of_ble_eq_true rfl) (Nat.le_refl _) hm rfl (fun iv15 rv16 lv17 hq => ?_)
    obtain ⟨hT18, h⟩ := h iv15 rv16 lv17 hq
    refine Z_aload_n (a := 0) (q := 55) (by decide +kernel) rfl rfl ?_
    refine Z_iconst (a := 0) (v := 0) (q := 56) (by decide +kernel) (by decide +kernel) rfl ?_
    obtain ⟨Q20, hm, h⟩ := h
    refine Z_callVv (M2 := mX7_visit) (idx := 61) (d2 := d) (ci := 7) (As := [.int _]) (q := 59) (by decide +kernel) kX7_visit lX7_61 rfl rfl (by decide) rfl rfl (by decide +kernel) (Nat.le_of_ble_eq_true rfl) (Nat.le_refl _) hm rfl (fun iv21 rv22 lv23 hq => ?_)
    obtain ⟨hT24, h⟩ := h iv21 rv22 lv23 hq
    exact Z_vret (by decide +kernel) rfl rfl ⟨rfl, h⟩
  · replace h := h.2 hc
    exact Z_vret (by decide +kernel) rfl rfl ⟨rfl, h⟩
theorem eX7_visit {d : Nat} (x1 : Int32) {iv : zI} {rv : zR} {lv : zJ} {Q : zI → zR → zJ → Prop} (h : Zv mX7_visit (d + 1) 0 [some (.ref 86), some (.int x1), none, none] [] iv rv lv Q) : Cv mX7_visit (d + 1) [.ref 86, .int x1] iv rv lv Q := Cv.of (by decide +kernel) (by simp [Value.category]) (Nat.le_of_ble_eq_true rfl) rfl h
set_option maxRecDepth 4000 in
theorem bX7_visit_0 {d : Nat} (x1 : Int32) {iv : zI} {rv : zR} {lv : zJ} {Q : zI → zR → zJ → Prop} (hT : zTop rv) 
    (h : vp_in x1 10 ∧ (∃ r2 : Nat, rv 89 x1.toNatClampNeg = some r2 ∧ r2 ∈ zIts ∧ (∀ iv3 : zI, iv3 = zu iv 86 1 ((iv 86 1) + (1 : Int32)) → ∃ Q4 : Int32 → zI → zR → zJ → Prop, Ci mX3_firstLessOthers d [.ref r2] iv3 rv lv Q4 ∧ ∀ (v9 : Int32) (iv5 : zI) (rv6 : zR) (lv7 : zJ), Q4 v9 iv5 rv6 lv7 → zTop rv6 ∧ (((iv5 r2 0) = (1 : Int32) → ∃ Q10 : zI → zR → zJ → Prop, Cv mX7_takeLeaf d [.ref 86, .ref r2, .int v9] iv5 rv6 lv7 Q10 ∧ ∀ (iv11 : zI) (rv12 : zR) (lv13 : zJ), Q10 iv11 rv12 lv13 → zTop rv12 ∧ (Q iv11 rv12 lv13)) ∧ (¬ (iv5 r2 0) = (1 : Int32) → (v9 < 0 → ∃ Q16 : zI → zR → zJ → Prop, Cv mX7_visitBelow d [.ref 86, .int x1, .int (0 : Int32)] iv5 rv6 lv7 Q16 ∧ ∀ (iv17 : zI) (rv18 : zR) (lv19 : zJ), Q16 iv17 rv18 lv19 → zTop rv18 ∧ ((¬ (iv17 86 4) = 0 → Q iv17 rv18 lv19) ∧ ((iv17 86 4) = 0 → ∃ Q22 : zI → zR → zJ → Prop, Cv mX7_visitBelow d [.ref 86, .int x1, .int (1 : Int32)] iv17 rv18 lv19 Q22 ∧ ∀ (iv23 : zI) (rv24 : zR) (lv25 : zJ), Q22 iv23 rv24 lv25 → zTop rv24 ∧ (Q iv23 rv24 lv25)))) ∧ (¬ v9 < 0 → ∃ Q28 : zI → zR → zJ → Prop, Cv mX7_takeLeaf d [.ref 86, .ref r2, .int v9] iv5 rv6 lv7 Q28 ∧ ∀ (iv29 : zI) (rv30 : zR) (lv31 : zJ), Q28 iv29 rv30 lv31 → zTop rv30 ∧ (Q iv29 rv30 lv31))))))) :
    Zv mX7_visit (d + 1) 0 [some (.ref 86), some (.int x1), none, none] [] iv rv lv Q := by
  unfold Zv
  refine Z_aload_n (a := 0) (q := 1) (by decide +kernel) rfl rfl ?_
  refine g7_8 (idx := 40) (q := 4) (by decide +kernel) fX7_40 rfl (by decide) (t7_8 hT) rfl ?_
  refine Z_iload_n (a := 1) (q := 5) (by decide +kernel) rfl rfl ?_
  obtain ⟨hin1, h⟩ := h
  obtain ⟨r2, hr, hmr2, h⟩ := h
  refine Z_aald (len := 10) (t := 5) (r := r2) (q := 6) (by decide +kernel) rfl (by decide) (by decide) (by decide) hin1 hr rfl ?_
  refine Z_astore_n (a := 2) (loc2 := [_, _, _, _]) (q := 7) (by decide +kernel) (by decide +kernel) rfl rfl rfl ?_
  refine Z_aload_n (a := 0) (q := 8) (by decide +kernel) rfl rfl ?_
  refine Z_dup (q := 9) (by decide +kernel) rfl rfl ?_
  refine g7_1 (idx := 15) (q := 12) (by decide +kernel) fX7_15 rfl (by decide) rfl ?_
  refine Z_iconst (a := 1) (v := 1) (q := 13) (by decide +kernel) (by decide +kernel) rfl ?_
  refine Z_iadd (q := 14) (by decide +kernel) rfl ?_
  refine p7_1 (idx := 15) (q := 17) (by decide +kernel) fX7_15 rfl (by decide) rfl ?_
  replace h := h _ rfl
  refine Z_aload_n (a := 2) (q := 18) (by decide +kernel) rfl rfl ?_
  obtain ⟨Q4, hm, h⟩ := h
  refine Z_callVi (M2 := mX3_firstLessOthers) (idx := 65) (d2 := d) (ci := 3) (As := []) (q := 21) (by decide +kernel) kX3_firstLessOthers lX7_65 rfl (hS3_0 hmr2) (hL3_0 hmr2) rfl rfl (by decide +kernel) (Nat.le_of_ble_eq_true rfl) (Nat.le_refl _) hm rfl (fun v9 iv5 rv6 lv7 hq => ?_)
  obtain ⟨hT8, h⟩ := h v9 iv5 rv6 lv7 hq
  refine Z_istore_n (a := 3) (loc2 := [_, _, _, _]) (q := 22) (by decide +kernel) (by decide +kernel) rfl rfl rfl ?_
  refine Z_aload_n (a := 2) (q := 23) (by decide +kernel) rfl rfl ?_
  refine g3_0 (idx := 68) (q := 26) (by decide +kernel) fX7_68 (hS3_0 hmr2) (hL3_0 hmr2) rfl ?_
  refine Z_iconst (a := 1) (v := 1) (q := 27) (by decide +kernel) (by decide +kernel) rfl ?_
  refine Z_icmp_eq (t := 34) (off := 7) (q := 30) (by decide +kernel) (by decide) rfl (fun hc => ?_) (fun hc => ?_)
  · replace h := h.1 hc
    refine Z_aload_n (a := 0) (q := 35) (by decide +kernel) rfl rfl ?_
    refine Z_aload_n (a := 2) (q := 36) (by decide +kernel) rfl rfl ?_
    refine Z_iload_n (a := 3) (q := 37) (by decide +kernel) rfl rfl ?_
    obtain ⟨Q10, hm, h⟩ := h
    refine Z_callVv (M2 := mX7_takeLeaf) (idx := 71) (d2 := d) (ci := 7) (As := [.ref _, .int _]) (q := 40) (by decide +kernel) kX7_takeLeaf lX7_71 rfl rfl (by decide) rfl rfl (by decide +kernel) (Nat.le_of_ble_eq_true rfl) (Nat.le_refl _) hm rfl (fun iv11 rv12 lv13 hq => ?_)
    obtain ⟨hT14, h⟩ := h iv11 rv12 lv13 hq
    exact Z_vret (by decide +kernel) rfl rfl ⟨rfl, h⟩
  · replace h := h.2 hc
    refine Z_iload_n (a := 3) (q := 31) (by decide +kernel) rfl rfl ?_
    refine Z_if_lt (t := 41) (off := 10) (q := 34) (by decide +kernel) (by decide) rfl (fun hc => ?_) (fun hc => ?_)
    · replace h := h.1 hc
      refine Z_aload_n (a := 0) (q := 42) (by decide +kernel) rfl rfl ?_
      refine Z_iload_n (a := 1) (q := 43) (by decide +kernel) rfl rfl ?_
      refine Z_iconst (a := 0) (v := 0) (q := 44) (by decide +kernel) (by decide +kernel) rfl ?_
      obtain ⟨Q16, hm, h⟩ := h
      refine Z_callVv (M2 := mX7_visitBelow) (idx := 75) (d2 := d) (ci := 7) (As := [.int _, .int _]) (q := 47) (by decide +kernel) kX7_visitBelow lX7_75 rfl rfl (by decide) rfl rfl (by decide +kernel) (Nat.le_of_ble_eq_true rfl) (Nat.le_refl _) hm rfl (fun iv17 rv18 lv19 hq => ?_)
      obtain ⟨hT20, h⟩ := h iv17 rv18 lv19 hq
      refine Z_aload_n (a := 0) (q := 48) (by decide +kernel) rfl rfl ?_
      refine g7_4 (idx := 24) (q := 51) (by decide +kernel) fX7_24 rfl (by decide) rfl ?_
      refine Z_if_ne (t := 60) (off := 9) (q := 54) (by decide +kernel) (by decide) rfl (fun hc => ?_) (fun hc => ?_)
      · replace h := h.1 hc
        exact Z_vret (by decide +kernel) rfl rfl ⟨rfl, h⟩
      · replace h := h.2 hc
        refine Z_aload_n (a := 0) (q := 55) (by decide +kernel) rfl rfl ?_
        refine Z_iload_n (a := 1) (q := 56) (by decide +kernel) rfl rfl ?_
        refine Z_iconst (a := 1) (v := 1) (q := 57) (by decide +kernel) (by decide +kernel) rfl ?_
        obtain ⟨Q22, hm, h⟩ := h
        refine Z_callVv (M2 := mX7_visitBelow) (idx := 75) (d2 := d) (ci := 7) (As := [.int _, .int _]) (q := 60) (by decide +kernel) kX7_visitBelow lX7_75 rfl rfl (by decide) rfl rfl (by decide +kernel) (Nat.le_of_ble_eq_true rfl) (Nat.le_refl _) hm rfl (fun iv23 rv24 lv25 hq => ?_)
        obtain ⟨hT26, h⟩ := h iv23 rv24 lv25 hq
        exact Z_vret (by decide +kernel) rfl rfl ⟨rfl, h⟩
    · replace h := h.2 hc
      refine Z_aload_n (a := 0) (q := 35) (by decide +kernel) rfl rfl ?_
      refine Z_aload_n (a := 2) (q := 36) (by decide +kernel) rfl rfl ?_
      refine Z_iload_n (a := 3) (q := 37) (by decide +kernel) rfl rfl ?_
      obtain ⟨Q28, hm, h⟩ := h
      refine Z_callVv (M2 := mX7_takeLeaf) (idx := 71) (d2 := d) (ci := 7) (As := [.ref _, .int _]) (q := 40) (by decide +kernel) kX7_takeLeaf lX7_71 rfl rfl (by decide) rfl rfl (by decide +kernel) (Nat.le_of_ble_eq_true rfl) (Nat.le_refl _) hm rfl (fun iv29 rv30 lv31 hq => ?_)
      obtain ⟨hT32, h⟩ := h iv29 rv30 lv31 hq
      exact Z_vret (by decide +kernel) rfl rfl ⟨rfl, h⟩
theorem eX7_visitBelow {d : Nat} (x1 : Int32) (x2 : Int32) {iv : zI} {rv : zR} {lv : zJ} {Q : zI → zR → zJ → Prop} (h : Zv mX7_visitBelow (d + 1) 0 [some (.ref 86), some (.int x1), some (.int x2), none] [] iv rv lv Q) : Cv mX7_visitBelow (d + 1) [.ref 86, .int x1, .int x2] iv rv lv Q := Cv.of (by decide +kernel) (by simp [Value.category]) (Nat.le_of_ble_eq_true rfl) rfl h
set_option maxRecDepth 4000 in
theorem bX7_visitBelow_0 {d : Nat} (x1 : Int32) (x2 : Int32) {iv : zI} {rv : zR} {lv : zJ} {Q : zI → zR → zJ → Prop} (hT : zTop rv) 
    (h : ((x1 + (1 : Int32)) < (10 : Int32) → vp_in (x1 + (1 : Int32)) 10 ∧ (∃ r2 : Nat, rv 89 (x1 + (1 : Int32)).toNatClampNeg = some r2 ∧ r2 ∈ zIts ∧ (vp_in x1 10 ∧ (∃ r4 : Nat, rv 89 x1.toNatClampNeg = some r4 ∧ r4 ∈ zIts ∧ (∃ Q5 : zI → zR → zJ → Prop, Cv mX3_copyFrom d [.ref r2, .ref r4] iv rv lv Q5 ∧ ∀ (iv6 : zI) (rv7 : zR) (lv8 : zJ), Q5 iv6 rv7 lv8 → zTop rv7 ∧ (∃ Q11 : zI → zR → zJ → Prop, Cv mX3_joinFirstTwo d [.ref r2, .int x2] iv6 rv7 lv8 Q11 ∧ ∀ (iv12 : zI) (rv13 : zR) (lv14 : zJ), Q11 iv12 rv13 lv14 → zTop rv13 ∧ (∃ Q17 : zI → zR → zJ → Prop, Cv mX7_visit d [.ref 86, .int (x1 + (1 : Int32))] iv12 rv13 lv14 Q17 ∧ ∀ (iv18 : zI) (rv19 : zR) (lv20 : zJ), Q17 iv18 rv19 lv20 → zTop rv19 ∧ (Q iv18 rv19 lv20)))))))) ∧ (¬ (x1 + (1 : Int32)) < (10 : Int32) → Q iv rv lv)) :
    Zv mX7_visitBelow (d + 1) 0 [some (.ref 86), some (.int x1), some (.int x2), none] [] iv rv lv Q := by
  unfold Zv
  refine Z_iload_n (a := 1) (q := 1) (by decide +kernel) rfl rfl ?_
  refine Z_iconst (a := 1) (v := 1) (q := 2) (by decide +kernel) (by decide +kernel) rfl ?_
  refine Z_iadd (q := 3) (by decide +kernel) rfl ?_
  refine Z_bipush (a := 10) (v := 10) (q := 5) (by decide +kernel) (by decide +kernel) rfl ?_
  refine Z_icmp_lt (t := 9) (off := 4) (q := 8) (by decide +kernel) (by decide) rfl (fun hc => ?_) (fun hc => ?_)
  · replace h := h.1 hc
    refine Z_aload_n (a := 0) (q := 10) (by decide +kernel) rfl rfl ?_
    refine g7_8 (idx := 40) (q := 13) (by decide +kernel) fX7_40 rfl (by decide) (t7_8 hT) rfl ?_
    refine Z_iload_n (a := 1) (q := 14) (by decide +kernel) rfl rfl ?_
    refine Z_iconst (a := 1) (v := 1) (q := 15) (by decide +kernel) (by decide +kernel) rfl ?_
    refine Z_iadd (q := 16) (by decide +kernel) rfl ?_
    obtain ⟨hin1, h⟩ := h
    obtain ⟨r2, hr, hmr2, h⟩ := h
    refine Z_aald (len := 10) (t := 5) (r := r2) (q := 17) (by decide +kernel) rfl (by decide) (by decide) (by decide) hin1 hr rfl ?_
    refine Z_astore_n (a := 3) (loc2 := [_, _, _, _]) (q := 18) (by decide +kernel) (by decide +kernel) rfl rfl rfl ?_
    refine Z_aload_n (a := 3) (q := 19) (by decide +kernel) rfl rfl ?_
    refine Z_aload_n (a := 0) (q := 20) (by decide +kernel) rfl rfl ?_
    refine g7_8 (idx := 40) (q := 23) (by decide +kernel) fX7_40 rfl (by decide) (t7_8 hT) rfl ?_
    refine Z_iload_n (a := 1) (q := 24) (by decide +kernel) rfl rfl ?_
    obtain ⟨hin3, h⟩ := h
    obtain ⟨r4, hr, hmr4, h⟩ := h
    refine Z_aald (len := 10) (t := 5) (r := r4) (q := 25) (by decide +kernel) rfl (by decide) (by decide) (by decide) hin3 hr rfl ?_
    obtain ⟨Q5, hm, h⟩ := h
    refine Z_callVv (M2 := mX3_copyFrom) (idx := 79) (d2 := d) (ci := 3) (As := [.ref _]) (q := 28) (by decide +kernel) kX3_copyFrom lX7_79 rfl (hS3_0 hmr2) (hL3_0 hmr2) rfl rfl (by decide +kernel) (Nat.le_of_ble_eq_true rfl) (Nat.le_refl _) hm rfl (fun iv6 rv7 lv8 hq => ?_)
    obtain ⟨hT9, h⟩ := h iv6 rv7 lv8 hq
    refine Z_aload_n (a := 3) (q := 29) (by decide +kernel) rfl rfl ?_
    refine Z_iload_n (a := 2) (q := 30) (by decide +kernel) rfl rfl ?_
    obtain ⟨Q11, hm, h⟩ := h
    refine Z_callVv (M2 := mX3_joinFirstTwo) (idx := 83) (d2 := d) (ci := 3) (As := [.int _]) (q := 33) (by decide +kernel) kX3_joinFirstTwo lX7_83 rfl (hS3_0 hmr2) (hL3_0 hmr2) rfl rfl (by decide +kernel) (Nat.le_of_ble_eq_true rfl) (Nat.le_refl _) hm rfl (fun iv12 rv13 lv14 hq => ?_)
    obtain ⟨hT15, h⟩ := h iv12 rv13 lv14 hq
    refine Z_aload_n (a := 0) (q := 34) (by decide +kernel) rfl rfl ?_
    refine Z_iload_n (a := 1) (q := 35) (by decide +kernel) rfl rfl ?_
    refine Z_iconst (a := 1) (v := 1) (q := 36) (by decide +kernel) (by decide +kernel) rfl ?_
    refine Z_iadd (q := 37) (by decide +kernel) rfl ?_
    obtain ⟨Q17, hm, h⟩ := h
    refine Z_callVv (M2 := mX7_visit) (idx := 61) (d2 := d) (ci := 7) (As := [.int _]) (q := 40) (by decide +kernel) kX7_visit lX7_61 rfl rfl (by decide) rfl rfl (by decide +kernel) (Nat.le_of_ble_eq_true rfl) (Nat.le_refl _) hm rfl (fun iv18 rv19 lv20 hq => ?_)
    obtain ⟨hT21, h⟩ := h iv18 rv19 lv20 hq
    exact Z_vret (by decide +kernel) rfl rfl ⟨rfl, h⟩
  · replace h := h.2 hc
    exact Z_vret (by decide +kernel) rfl rfl ⟨rfl, h⟩
theorem eX7_takeLeaf {d : Nat} (x1 : Nat) (x2 : Int32) {iv : zI} {rv : zR} {lv : zJ} {Q : zI → zR → zJ → Prop} (h : Zv mX7_takeLeaf (d + 1) 0 [some (.ref 86), some (.ref x1), some (.int x2)] [] iv rv lv Q) : Cv mX7_takeLeaf (d + 1) [.ref 86, .ref x1, .int x2] iv rv lv Q := Cv.of (by decide +kernel) (by simp [Value.category]) (Nat.le_of_ble_eq_true rfl) rfl h
set_option maxRecDepth 4000 in
theorem bX7_takeLeaf_0 {d : Nat} (x1 : Nat) (x2 : Int32) {iv : zI} {rv : zR} {lv : zJ} {Q : zI → zR → zJ → Prop} (hT : zTop rv) (m_x1 : x1 ∈ zIts)
    (h : ∀ iv1 : zI, iv1 = zu iv 86 2 ((iv 86 2) + (1 : Int32)) → ((iv1 86 2) ≤ (1 : Int32) → Zv mX7_takeLeaf (d + 1) 26 [some (.ref 86), some (.ref x1), some (.int x2)] [] iv1 rv lv Q) ∧ (¬ (iv1 86 2) ≤ (1 : Int32) → ((iv1 86 0) ≤ x2 → Q iv1 rv lv) ∧ (¬ (iv1 86 0) ≤ x2 → Zv mX7_takeLeaf (d + 1) 26 [some (.ref 86), some (.ref x1), some (.int x2)] [] iv1 rv lv Q))) :
    Zv mX7_takeLeaf (d + 1) 0 [some (.ref 86), some (.ref x1), some (.int x2)] [] iv rv lv Q := by
  unfold Zv
  refine Z_aload_n (a := 0) (q := 1) (by decide +kernel) rfl rfl ?_
  refine Z_dup (q := 2) (by decide +kernel) rfl rfl ?_
  refine g7_2 (idx := 18) (q := 5) (by decide +kernel) fX7_18 rfl (by decide) rfl ?_
  refine Z_iconst (a := 1) (v := 1) (q := 6) (by decide +kernel) (by decide +kernel) rfl ?_
  refine Z_iadd (q := 7) (by decide +kernel) rfl ?_
  refine p7_2 (idx := 18) (q := 10) (by decide +kernel) fX7_18 rfl (by decide) rfl ?_
  replace h := h _ rfl
  refine Z_aload_n (a := 0) (q := 11) (by decide +kernel) rfl rfl ?_
  refine g7_2 (idx := 18) (q := 14) (by decide +kernel) fX7_18 rfl (by decide) rfl ?_
  refine Z_iconst (a := 1) (v := 1) (q := 15) (by decide +kernel) (by decide +kernel) rfl ?_
  refine Z_icmp_le (t := 26) (off := 11) (q := 18) (by decide +kernel) (by decide) rfl (fun hc => ?_) (fun hc => ?_)
  · replace h := h.1 hc
    exact h
  · replace h := h.2 hc
    refine Z_iload_n (a := 2) (q := 19) (by decide +kernel) rfl rfl ?_
    refine Z_aload_n (a := 0) (q := 20) (by decide +kernel) rfl rfl ?_
    refine g7_0 (idx := 9) (q := 23) (by decide +kernel) fX7_9 rfl (by decide) rfl ?_
    refine Z_icmp_ge (t := 36) (off := 13) (q := 26) (by decide +kernel) (by decide) rfl (fun hc => ?_) (fun hc => ?_)
    · replace h := h.1 hc
      exact Z_vret (by decide +kernel) rfl rfl ⟨rfl, h⟩
    · replace h := h.2 hc
      exact h
set_option maxRecDepth 4000 in
theorem bX7_takeLeaf_26 {d : Nat} (x1 : Nat) (x2 : Int32) {iv : zI} {rv : zR} {lv : zJ} {Q : zI → zR → zJ → Prop} (hT : zTop rv) (m_x1 : x1 ∈ zIts)
    (h : ((iv 86 3) < (512 : Int32) → ∀ iv1 : zI, iv1 = zu iv 86 0 x2 → vp_in (iv1 86 3) 512 ∧ (∀ iv3 : zI, iv3 = zu iv1 87 (iv1 86 3).toNatClampNeg x2 → vp_in (iv3 86 3) 512 ∧ (∀ iv5 : zI, iv5 = zu iv3 88 (iv3 86 3).toNatClampNeg (iv3 86 1) → ∀ iv6 : zI, iv6 = zu iv5 86 3 ((iv5 86 3) + (1 : Int32)) → ∃ Q7 : Int32 → zI → zR → zJ → Prop, Ci mX3_leafFirstSide d [.ref x1] iv6 rv lv Q7 ∧ ∀ (v12 : Int32) (iv8 : zI) (rv9 : zR) (lv10 : zJ), Q7 v12 iv8 rv9 lv10 → zTop rv9 ∧ (∀ iv13 : zI, iv13 = zu iv8 86 5 v12 → (¬ x2 = (iv13 86 9) → ∀ iv14 : zI, iv14 = zu iv13 86 4 (0 : Int32) → Q iv14 rv9 lv10) ∧ (x2 = (iv13 86 9) → ∀ iv15 : zI, iv15 = zu iv13 86 4 (1 : Int32) → Q iv15 rv9 lv10))))) ∧ (¬ (iv 86 3) < (512 : Int32) → Q iv rv lv)) :
    Zv mX7_takeLeaf (d + 1) 26 [some (.ref 86), some (.ref x1), some (.int x2)] [] iv rv lv Q := by
  unfold Zv
  refine Z_aload_n (a := 0) (q := 27) (by decide +kernel) rfl rfl ?_
  refine g7_3 (idx := 21) (q := 30) (by decide +kernel) fX7_21 rfl (by decide) rfl ?_
  refine Z_sipush (a := 512) (v := 512) (q := 33) (by decide +kernel) (by decide +kernel) rfl ?_
  refine Z_icmp_lt (t := 37) (off := 4) (q := 36) (by decide +kernel) (by decide) rfl (fun hc => ?_) (fun hc => ?_)
  · replace h := h.1 hc
    refine Z_aload_n (a := 0) (q := 38) (by decide +kernel) rfl rfl ?_
    refine Z_iload_n (a := 2) (q := 39) (by decide +kernel) rfl rfl ?_
    refine p7_0 (idx := 9) (q := 42) (by decide +kernel) fX7_9 rfl (by decide) rfl ?_
    replace h := h _ rfl
    refine Z_aload_n (a := 0) (q := 43) (by decide +kernel) rfl rfl ?_
    refine g7_6 (idx := 31) (q := 46) (by decide +kernel) fX7_31 rfl (by decide) (t7_6 hT) rfl ?_
    refine Z_aload_n (a := 0) (q := 47) (by decide +kernel) rfl rfl ?_
    refine g7_3 (idx := 21) (q := 50) (by decide +kernel) fX7_21 rfl (by decide) rfl ?_
    refine Z_iload_n (a := 2) (q := 51) (by decide +kernel) rfl rfl ?_
    obtain ⟨hin2, h⟩ := h
    refine Z_iast (len := 512) (q := 52) (by decide +kernel) rfl (by decide) hin2 rfl ?_
    replace h := h _ rfl
    refine Z_aload_n (a := 0) (q := 53) (by decide +kernel) rfl rfl ?_
    refine g7_7 (idx := 35) (q := 56) (by decide +kernel) fX7_35 rfl (by decide) (t7_7 hT) rfl ?_
    refine Z_aload_n (a := 0) (q := 57) (by decide +kernel) rfl rfl ?_
    refine g7_3 (idx := 21) (q := 60) (by decide +kernel) fX7_21 rfl (by decide) rfl ?_
    refine Z_aload_n (a := 0) (q := 61) (by decide +kernel) rfl rfl ?_
    refine g7_1 (idx := 15) (q := 64) (by decide +kernel) fX7_15 rfl (by decide) rfl ?_
    obtain ⟨hin4, h⟩ := h
    refine Z_iast (len := 512) (q := 65) (by decide +kernel) rfl (by decide) hin4 rfl ?_
    replace h := h _ rfl
    refine Z_aload_n (a := 0) (q := 66) (by decide +kernel) rfl rfl ?_
    refine Z_dup (q := 67) (by decide +kernel) rfl rfl ?_
    refine g7_3 (idx := 21) (q := 70) (by decide +kernel) fX7_21 rfl (by decide) rfl ?_
    refine Z_iconst (a := 1) (v := 1) (q := 71) (by decide +kernel) (by decide +kernel) rfl ?_
    refine Z_iadd (q := 72) (by decide +kernel) rfl ?_
    refine p7_3 (idx := 21) (q := 75) (by decide +kernel) fX7_21 rfl (by decide) rfl ?_
    replace h := h _ rfl
    refine Z_aload_n (a := 0) (q := 76) (by decide +kernel) rfl rfl ?_
    refine Z_aload_n (a := 1) (q := 77) (by decide +kernel) rfl rfl ?_
    obtain ⟨Q7, hm, h⟩ := h
    refine Z_callVi (M2 := mX3_leafFirstSide) (idx := 87) (d2 := d) (ci := 3) (As := []) (q := 80) (by decide +kernel) kX3_leafFirstSide lX7_87 rfl (hS3_0 m_x1) (hL3_0 m_x1) rfl rfl (by decide +kernel) (Nat.le_of_ble_eq_true rfl) (Nat.le_refl _) hm rfl (fun v12 iv8 rv9 lv10 hq => ?_)
    obtain ⟨hT11, h⟩ := h v12 iv8 rv9 lv10 hq
    refine p7_5 (idx := 28) (q := 83) (by decide +kernel) fX7_28 rfl (by decide) rfl ?_
    replace h := h _ rfl
    refine Z_aload_n (a := 0) (q := 84) (by decide +kernel) rfl rfl ?_
    refine Z_iload_n (a := 2) (q := 85) (by decide +kernel) rfl rfl ?_
    refine Z_aload_n (a := 0) (q := 86) (by decide +kernel) rfl rfl ?_
    refine g7_9 (idx := 44) (q := 89) (by decide +kernel) fX7_44 rfl (by decide) rfl ?_
    refine Z_icmp_ne (t := 96) (off := 7) (q := 92) (by decide +kernel) (by decide) rfl (fun hc => ?_) (fun hc => ?_)
    · replace h := h.1 hc
      refine Z_iconst (a := 0) (v := 0) (q := 97) (by decide +kernel) (by decide +kernel) rfl ?_
      refine p7_4 (idx := 24) (q := 100) (by decide +kernel) fX7_24 rfl (by decide) (by decide) rfl ?_
      replace h := h _ rfl
      exact Z_vret (by decide +kernel) rfl rfl ⟨rfl, h⟩
    · replace h := h.2 hc
      refine Z_iconst (a := 1) (v := 1) (q := 93) (by decide +kernel) (by decide +kernel) rfl ?_
      refine Z_goto (q := 97) (off := 4) (by decide +kernel) (by decide) ?_
      refine p7_4 (idx := 24) (q := 100) (by decide +kernel) fX7_24 rfl (by decide) (by decide) rfl ?_
      replace h := h _ rfl
      exact Z_vret (by decide +kernel) rfl rfl ⟨rfl, h⟩
  · replace h := h.2 hc
    exact Z_vret (by decide +kernel) rfl rfl ⟨rfl, h⟩
