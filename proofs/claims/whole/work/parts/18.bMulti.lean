/-! BLOCKS of X4, by program. -/
theorem eX4_run {d : Nat} (x1 : Nat) (x2 : Int32) {iv : zI} {rv : zR} {lv : zJ} {Q : zI → zR → zJ → Prop} (h : Zv mX4_run (d + 1) 0 [some (.ref 130), some (.ref x1), some (.int x2), none, none, none] [] iv rv lv Q) : Cv mX4_run (d + 1) [.ref 130, .ref x1, .int x2] iv rv lv Q := Cv.of (by decide +kernel) (by simp [Value.category]) (Nat.le_of_ble_eq_true rfl) rfl h
set_option maxRecDepth 4000 in
theorem bX4_run_0 {d : Nat} (x1 : Nat) (x2 : Int32) {iv : zI} {rv : zR} {lv : zJ} {Q : zI → zR → zJ → Prop} (hT : zTop rv) (m_x1 : x1 ∈ zSts)
    (h : ∀ iv1 : zI, iv1 = zu iv 130 4 x2 → ∀ iv2 : zI, iv2 = zu iv1 130 3 (iv1 x1 0) → ∀ iv3 : zI, iv3 = zu iv2 130 5 (0 : Int32) → Zv mX4_run (d + 1) 20 [some (.ref 130), some (.ref x1), some (.int x2), some (.int (0 : Int32)), none, none] [] iv3 rv lv Q) :
    Zv mX4_run (d + 1) 0 [some (.ref 130), some (.ref x1), some (.int x2), none, none, none] [] iv rv lv Q := by
  unfold Zv
  refine Z_aload_n (a := 0) (q := 1) (by decide +kernel) rfl rfl ?_
  refine Z_iload_n (a := 2) (q := 2) (by decide +kernel) rfl rfl ?_
  refine p4_4 (idx := 27) (q := 5) (by decide +kernel) fX4_27 rfl (by decide) rfl ?_
  replace h := h _ rfl
  refine Z_aload_n (a := 0) (q := 6) (by decide +kernel) rfl rfl ?_
  refine Z_aload_n (a := 1) (q := 7) (by decide +kernel) rfl rfl ?_
  refine g9_0 (idx := 33) (q := 10) (by decide +kernel) fX4_33 (hS9_0 m_x1) (hL9_0 m_x1) rfl ?_
  refine p4_3 (idx := 23) (q := 13) (by decide +kernel) fX4_23 rfl (by decide) rfl ?_
  replace h := h _ rfl
  refine Z_aload_n (a := 0) (q := 14) (by decide +kernel) rfl rfl ?_
  refine Z_iconst (a := 0) (v := 0) (q := 15) (by decide +kernel) (by decide +kernel) rfl ?_
  refine p4_5 (idx := 30) (q := 18) (by decide +kernel) fX4_30 rfl (by decide) rfl ?_
  replace h := h _ rfl
  refine Z_iconst (a := 0) (v := 0) (q := 19) (by decide +kernel) (by decide +kernel) rfl ?_
  refine Z_istore_n (a := 3) (loc2 := [_, _, _, _, _, _]) (q := 20) (by decide +kernel) (by decide +kernel) rfl rfl rfl ?_
  exact h
set_option maxRecDepth 4000 in
theorem bX4_run_20 {d : Nat} (x1 : Nat) (x2 : Int32) (x3 : Int32) {iv : zI} {rv : zR} {lv : zJ} {Q : zI → zR → zJ → Prop} (hT : zTop rv) (m_x1 : x1 ∈ zSts)
    (h : ((iv 130 3) ≤ x3 → Zv mX4_run (d + 1) 106 [some (.ref 130), some (.ref x1), some (.int x2), some (.int (1 : Int32)), none, none] [] iv rv lv Q) ∧ (¬ (iv 130 3) ≤ x3 → vp_in x3 10 ∧ (∀ iv2 : zI, iv2 = zu iv 153 x3.toNatClampNeg (vp_nar .boolean (0 : Int32)) → Zv mX4_run (d + 1) 38 [some (.ref 130), some (.ref x1), some (.int x2), some (.int x3), some (.int (0 : Int32)), none] [] iv2 rv lv Q))) :
    Zv mX4_run (d + 1) 20 [some (.ref 130), some (.ref x1), some (.int x2), some (.int x3), none, none] [] iv rv lv Q := by
  unfold Zv
  refine Z_iload_n (a := 3) (q := 21) (by decide +kernel) rfl rfl ?_
  refine Z_aload_n (a := 0) (q := 22) (by decide +kernel) rfl rfl ?_
  refine g4_3 (idx := 23) (q := 25) (by decide +kernel) fX4_23 rfl (by decide) rfl ?_
  refine Z_icmp_ge (t := 104) (off := 79) (q := 28) (by decide +kernel) (by decide) rfl (fun hc => ?_) (fun hc => ?_)
  · replace h := h.1 hc
    refine Z_iconst (a := 1) (v := 1) (q := 105) (by decide +kernel) (by decide +kernel) rfl ?_
    refine Z_istore_n (a := 3) (loc2 := [_, _, _, _, _, _]) (q := 106) (by decide +kernel) (by decide +kernel) rfl rfl rfl ?_
    exact h
  · replace h := h.2 hc
    refine Z_aload_n (a := 0) (q := 29) (by decide +kernel) rfl rfl ?_
    refine g4_2 (idx := 19) (q := 32) (by decide +kernel) fX4_19 rfl (by decide) (t4_2 hT) rfl ?_
    refine Z_iload_n (a := 3) (q := 33) (by decide +kernel) rfl rfl ?_
    refine Z_iconst (a := 0) (v := 0) (q := 34) (by decide +kernel) (by decide +kernel) rfl ?_
    obtain ⟨hin1, h⟩ := h
    refine Z_zast (len := 10) (q := 35) (by decide +kernel) rfl (by decide) hin1 rfl ?_
    replace h := h _ rfl
    refine Z_iconst (a := 0) (v := 0) (q := 36) (by decide +kernel) (by decide +kernel) rfl ?_
    refine Z_istore (a := 4) (loc2 := [_, _, _, _, _, _]) (q := 38) (by decide +kernel) (by decide +kernel) rfl rfl rfl ?_
    exact h
set_option maxRecDepth 4000 in
theorem bX4_run_38 {d : Nat} (x1 : Nat) (x2 : Int32) (x3 : Int32) (x4 : Int32) {iv : zI} {rv : zR} {lv : zJ} {Q : zI → zR → zJ → Prop} (hT : zTop rv) (m_x1 : x1 ∈ zSts)
    (h : ((iv 130 4) ≤ x4 → Zv mX4_run (d + 1) 20 [some (.ref 130), some (.ref x1), some (.int x2), some (.int (x3 + 1)), none, none] [] iv rv lv Q) ∧ (¬ (iv 130 4) ≤ x4 → vp_in x3 10 ∧ (∃ r2 : Nat, rv 131 x3.toNatClampNeg = some r2 ∧ zSH r2 = (0, 4) ∧ r2 < 200 ∧ ((¬ x4 = 0 → Zv mX4_run (d + 1) 70 [some (.ref 130), some (.ref x1), some (.int x2), some (.int x3), some (.int x4), none] [.int (0 : Int32), .int x4, .ref r2] iv rv lv Q) ∧ (x4 = 0 → Zv mX4_run (d + 1) 70 [some (.ref 130), some (.ref x1), some (.int x2), some (.int x3), some (.int x4), none] [.int (iv (x1 + 1) x3.toNatClampNeg), .int x4, .ref r2] iv rv lv Q))))) :
    Zv mX4_run (d + 1) 38 [some (.ref 130), some (.ref x1), some (.int x2), some (.int x3), some (.int x4), none] [] iv rv lv Q := by
  unfold Zv
  refine Z_iload (a := 4) (q := 40) (by decide +kernel) rfl rfl ?_
  refine Z_aload_n (a := 0) (q := 41) (by decide +kernel) rfl rfl ?_
  refine g4_4 (idx := 27) (q := 44) (by decide +kernel) fX4_27 rfl (by decide) rfl ?_
  refine Z_icmp_ge (t := 98) (off := 54) (q := 47) (by decide +kernel) (by decide) rfl (fun hc => ?_) (fun hc => ?_)
  · replace h := h.1 hc
    refine Z_iinc (a := 3) (b := 1) (v := _ + 1) (loc2 := [_, _, _, _, _, _]) (q := 101) (by decide +kernel) rfl (zinc _) (by decide +kernel) rfl rfl rfl ?_
    refine Z_goto (q := 20) (off := -81) (by decide +kernel) (by decide) ?_
    exact Z_forget h (And.intro rfl (And.intro rfl (And.intro rfl (And.intro rfl trivial))))
  · replace h := h.2 hc
    refine Z_aload_n (a := 0) (q := 48) (by decide +kernel) rfl rfl ?_
    refine g4_0 (idx := 11) (q := 51) (by decide +kernel) fX4_11 rfl (by decide) (t4_0 hT) rfl ?_
    refine Z_iload_n (a := 3) (q := 52) (by decide +kernel) rfl rfl ?_
    obtain ⟨hin1, h⟩ := h
    obtain ⟨r2, hr, hsr2, har2, h⟩ := h
    refine Z_aald (len := 10) (t := 7) (r := r2) (q := 53) (by decide +kernel) rfl (by decide) (by decide) (by decide) hin1 hr rfl ?_
    refine Z_iload (a := 4) (q := 55) (by decide +kernel) rfl rfl ?_
    refine Z_iload (a := 4) (q := 57) (by decide +kernel) rfl rfl ?_
    refine Z_if_ne (t := 69) (off := 12) (q := 60) (by decide +kernel) (by decide) rfl (fun hc => ?_) (fun hc => ?_)
    · replace h := h.1 hc
      refine Z_iconst (a := 0) (v := 0) (q := 70) (by decide +kernel) (by decide +kernel) rfl ?_
      exact h
    · replace h := h.2 hc
      refine Z_aload_n (a := 1) (q := 61) (by decide +kernel) rfl rfl ?_
      refine g9_2 (idx := 38) (q := 64) (by decide +kernel) fX4_38 (hS9_0 m_x1) (hL9_0 m_x1) (t9_2 hT m_x1) rfl ?_
      refine Z_iload_n (a := 3) (q := 65) (by decide +kernel) rfl rfl ?_
      refine Z_iald (len := 10) (q := 66) (by decide +kernel) (hS9_1 m_x1) (hL9_1 m_x1) hin1 rfl ?_
      refine Z_goto (q := 70) (off := 4) (by decide +kernel) (by decide) ?_
      exact h
set_option maxRecDepth 4000 in
theorem bX4_run_70 {d : Nat} (x1 : Nat) (x2 : Int32) (x3 : Int32) (x4 : Int32) (y0 : Int32) (y1 : Int32) (y2 l_y2 : Nat) {iv : zI} {rv : zR} {lv : zJ} {Q : zI → zR → zJ → Prop} (hT : zTop rv) (m_x1 : x1 ∈ zSts) (s_y2 : zSH y2 = (0, l_y2)) (a_y2 : y2 < 200)
    (h : vp_in y1 l_y2 ∧ (∀ iv2 : zI, iv2 = zu iv y2 y1.toNatClampNeg y0 → vp_in x3 10 ∧ (∃ r4 : Nat, rv 142 x3.toNatClampNeg = some r4 ∧ zSH r4 = (0, 4) ∧ r4 < 200 ∧ ((¬ x4 = 0 → vp_in x4 4 ∧ (∀ iv6 : zI, iv6 = zu iv2 r4 x4.toNatClampNeg (0 : Int32) → Zv mX4_run (d + 1) 38 [some (.ref 130), some (.ref x1), some (.int x2), some (.int x3), some (.int (x4 + 1)), none] [] iv6 rv lv Q)) ∧ (x4 = 0 → vp_in x4 4 ∧ (∀ iv8 : zI, iv8 = zu iv2 r4 x4.toNatClampNeg ((1 : Int32) <<< (x3 &&& 31)) → Zv mX4_run (d + 1) 38 [some (.ref 130), some (.ref x1), some (.int x2), some (.int x3), some (.int (x4 + 1)), none] [] iv8 rv lv Q)))))) :
    Zv mX4_run (d + 1) 70 [some (.ref 130), some (.ref x1), some (.int x2), some (.int x3), some (.int x4), none] [.int y0, .int y1, .ref y2] iv rv lv Q := by
  unfold Zv
  obtain ⟨hin1, h⟩ := h
  refine Z_iast (len := l_y2) (q := 71) (by decide +kernel) s_y2 a_y2 hin1 rfl ?_
  replace h := h _ rfl
  refine Z_aload_n (a := 0) (q := 72) (by decide +kernel) rfl rfl ?_
  refine g4_1 (idx := 16) (q := 75) (by decide +kernel) fX4_16 rfl (by decide) (t4_1 hT) rfl ?_
  refine Z_iload_n (a := 3) (q := 76) (by decide +kernel) rfl rfl ?_
  obtain ⟨hin3, h⟩ := h
  obtain ⟨r4, hr, hsr4, har4, h⟩ := h
  refine Z_aald (len := 10) (t := 7) (r := r4) (q := 77) (by decide +kernel) rfl (by decide) (by decide) (by decide) hin3 hr rfl ?_
  refine Z_iload (a := 4) (q := 79) (by decide +kernel) rfl rfl ?_
  refine Z_iload (a := 4) (q := 81) (by decide +kernel) rfl rfl ?_
  refine Z_if_ne (t := 90) (off := 9) (q := 84) (by decide +kernel) (by decide) rfl (fun hc => ?_) (fun hc => ?_)
  · replace h := h.1 hc
    refine Z_iconst (a := 0) (v := 0) (q := 91) (by decide +kernel) (by decide +kernel) rfl ?_
    obtain ⟨hin5, h⟩ := h
    refine Z_iast (len := 4) (q := 92) (by decide +kernel) hsr4 har4 hin5 rfl ?_
    replace h := h _ rfl
    refine Z_iinc (a := 4) (b := 1) (v := _ + 1) (loc2 := [_, _, _, _, _, _]) (q := 95) (by decide +kernel) rfl (zinc _) (by decide +kernel) rfl rfl rfl ?_
    refine Z_goto (q := 38) (off := -57) (by decide +kernel) (by decide) ?_
    exact h
  · replace h := h.2 hc
    refine Z_iconst (a := 1) (v := 1) (q := 85) (by decide +kernel) (by decide +kernel) rfl ?_
    refine Z_iload_n (a := 3) (q := 86) (by decide +kernel) rfl rfl ?_
    refine Z_ishl (q := 87) (by decide +kernel) rfl ?_
    refine Z_goto (q := 91) (off := 4) (by decide +kernel) (by decide) ?_
    obtain ⟨hin7, h⟩ := h
    refine Z_iast (len := 4) (q := 92) (by decide +kernel) hsr4 har4 hin7 rfl ?_
    replace h := h _ rfl
    refine Z_iinc (a := 4) (b := 1) (v := _ + 1) (loc2 := [_, _, _, _, _, _]) (q := 95) (by decide +kernel) rfl (zinc _) (by decide +kernel) rfl rfl rfl ?_
    refine Z_goto (q := 38) (off := -57) (by decide +kernel) (by decide) ?_
    exact h
set_option maxRecDepth 4000 in
theorem bX4_run_106 {d : Nat} (x1 : Nat) (x2 : Int32) (x3 : Int32) {iv : zI} {rv : zR} {lv : zJ} {Q : zI → zR → zJ → Prop} (hT : zTop rv) (m_x1 : x1 ∈ zSts)
    (h : ((iv 130 3) ≤ x3 → Q iv rv lv) ∧ (¬ (iv 130 3) ≤ x3 → ∃ Q1 : Int32 → zI → zR → zJ → Prop, Ci mX4_firstItemBut d [.ref 130, .int (-1 : Int32)] iv rv lv Q1 ∧ ∀ (v6 : Int32) (iv2 : zI) (rv3 : zR) (lv4 : zJ), Q1 v6 iv2 rv3 lv4 → zTop rv3 ∧ (∃ Q7 : Int32 → zI → zR → zJ → Prop, Ci mX4_firstItemBut d [.ref 130, .int v6] iv2 rv3 lv4 Q7 ∧ ∀ (v12 : Int32) (iv8 : zI) (rv9 : zR) (lv10 : zJ), Q7 v12 iv8 rv9 lv10 → zTop rv9 ∧ ((v6 = (-1 : Int32) → Zv mX4_run (d + 1) 106 [some (.ref 130), some (.ref x1), some (.int x2), some (.int (x3 + 1)), none, none] [] iv8 rv9 lv10 Q) ∧ (¬ v6 = (-1 : Int32) → (v12 = (-1 : Int32) → Zv mX4_run (d + 1) 106 [some (.ref 130), some (.ref x1), some (.int x2), some (.int (x3 + 1)), none, none] [] iv8 rv9 lv10 Q) ∧ (¬ v12 = (-1 : Int32) → ∃ Q13 : zI → zR → zJ → Prop, Cv mX4_join d [.ref 130, .int v6, .int v12] iv8 rv9 lv10 Q13 ∧ ∀ (iv14 : zI) (rv15 : zR) (lv16 : zJ), Q13 iv14 rv15 lv16 → zTop rv15 ∧ (∀ iv19 : zI, iv19 = zu iv14 130 5 v6 → Zv mX4_run (d + 1) 106 [some (.ref 130), some (.ref x1), some (.int x2), some (.int (x3 + 1)), none, none] [] iv19 rv15 lv16 Q))))))) :
    Zv mX4_run (d + 1) 106 [some (.ref 130), some (.ref x1), some (.int x2), some (.int x3), none, none] [] iv rv lv Q := by
  unfold Zv
  refine Z_iload_n (a := 3) (q := 107) (by decide +kernel) rfl rfl ?_
  refine Z_aload_n (a := 0) (q := 108) (by decide +kernel) rfl rfl ?_
  refine g4_3 (idx := 23) (q := 111) (by decide +kernel) fX4_23 rfl (by decide) rfl ?_
  refine Z_icmp_ge (t := 161) (off := 50) (q := 114) (by decide +kernel) (by decide) rfl (fun hc => ?_) (fun hc => ?_)
  · replace h := h.1 hc
    exact Z_vret (by decide +kernel) rfl rfl ⟨rfl, h⟩
  · replace h := h.2 hc
    refine Z_aload_n (a := 0) (q := 115) (by decide +kernel) rfl rfl ?_
    refine Z_iconst (a := -1) (v := -1) (q := 116) (by decide +kernel) (by decide +kernel) rfl ?_
    obtain ⟨Q1, hm, h⟩ := h
    refine Z_callVi (M2 := mX4_firstItemBut) (idx := 41) (d2 := d) (ci := 4) (As := [.int _]) (q := 119) (by decide +kernel) kX4_firstItemBut lX4_41 rfl rfl (by decide) rfl rfl (by decide +kernel) (Nat.le_of_ble_eq_true rfl) (Nat.le_refl _) hm rfl (fun v6 iv2 rv3 lv4 hq => ?_)
    obtain ⟨hT5, h⟩ := h v6 iv2 rv3 lv4 hq
    refine Z_istore (a := 4) (loc2 := [_, _, _, _, _, _]) (q := 121) (by decide +kernel) (by decide +kernel) rfl rfl rfl ?_
    refine Z_aload_n (a := 0) (q := 122) (by decide +kernel) rfl rfl ?_
    refine Z_iload (a := 4) (q := 124) (by decide +kernel) rfl rfl ?_
    obtain ⟨Q7, hm, h⟩ := h
    refine Z_callVi (M2 := mX4_firstItemBut) (idx := 41) (d2 := d) (ci := 4) (As := [.int _]) (q := 127) (by decide +kernel) kX4_firstItemBut lX4_41 rfl rfl (by decide) rfl rfl (by decide +kernel) (Nat.le_of_ble_eq_true rfl) (Nat.le_refl _) hm rfl (fun v12 iv8 rv9 lv10 hq => ?_)
    obtain ⟨hT11, h⟩ := h v12 iv8 rv9 lv10 hq
    refine Z_istore (a := 5) (loc2 := [_, _, _, _, _, _]) (q := 129) (by decide +kernel) (by decide +kernel) rfl rfl rfl ?_
    refine Z_iload (a := 4) (q := 131) (by decide +kernel) rfl rfl ?_
    refine Z_iconst (a := -1) (v := -1) (q := 132) (by decide +kernel) (by decide +kernel) rfl ?_
    refine Z_icmp_eq (t := 155) (off := 23) (q := 135) (by decide +kernel) (by decide) rfl (fun hc => ?_) (fun hc => ?_)
    · replace h := h.1 hc
      refine Z_iinc (a := 3) (b := 1) (v := _ + 1) (loc2 := [_, _, _, _, _, _]) (q := 158) (by decide +kernel) rfl (zinc _) (by decide +kernel) rfl rfl rfl ?_
      refine Z_goto (q := 106) (off := -52) (by decide +kernel) (by decide) ?_
      exact Z_forget h (And.intro rfl (And.intro rfl (And.intro rfl (And.intro rfl trivial))))
    · replace h := h.2 hc
      refine Z_iload (a := 5) (q := 137) (by decide +kernel) rfl rfl ?_
      refine Z_iconst (a := -1) (v := -1) (q := 138) (by decide +kernel) (by decide +kernel) rfl ?_
      refine Z_icmp_eq (t := 155) (off := 17) (q := 141) (by decide +kernel) (by decide) rfl (fun hc => ?_) (fun hc => ?_)
      · replace h := h.1 hc
        refine Z_iinc (a := 3) (b := 1) (v := _ + 1) (loc2 := [_, _, _, _, _, _]) (q := 158) (by decide +kernel) rfl (zinc _) (by decide +kernel) rfl rfl rfl ?_
        refine Z_goto (q := 106) (off := -52) (by decide +kernel) (by decide) ?_
        exact Z_forget h (And.intro rfl (And.intro rfl (And.intro rfl (And.intro rfl trivial))))
      · replace h := h.2 hc
        refine Z_aload_n (a := 0) (q := 142) (by decide +kernel) rfl rfl ?_
        refine Z_iload (a := 4) (q := 144) (by decide +kernel) rfl rfl ?_
        refine Z_iload (a := 5) (q := 146) (by decide +kernel) rfl rfl ?_
        obtain ⟨Q13, hm, h⟩ := h
        refine Z_callVv (M2 := mX4_join) (idx := 45) (d2 := d) (ci := 4) (As := [.int _, .int _]) (q := 149) (by decide +kernel) kX4_join lX4_45 rfl rfl (by decide) rfl rfl (by decide +kernel) (Nat.le_of_ble_eq_true rfl) (Nat.le_refl _) hm rfl (fun iv14 rv15 lv16 hq => ?_)
        obtain ⟨hT17, h⟩ := h iv14 rv15 lv16 hq
        refine Z_aload_n (a := 0) (q := 150) (by decide +kernel) rfl rfl ?_
        refine Z_iload (a := 4) (q := 152) (by decide +kernel) rfl rfl ?_
        refine p4_5 (idx := 30) (q := 155) (by decide +kernel) fX4_30 rfl (by decide) rfl ?_
        replace h := h _ rfl
        refine Z_iinc (a := 3) (b := 1) (v := _ + 1) (loc2 := [_, _, _, _, _, _]) (q := 158) (by decide +kernel) rfl (zinc _) (by decide +kernel) rfl rfl rfl ?_
        refine Z_goto (q := 106) (off := -52) (by decide +kernel) (by decide) ?_
        exact Z_forget h (And.intro rfl (And.intro rfl (And.intro rfl (And.intro rfl trivial))))
theorem eX4_lastWidth {d : Nat}  {iv : zI} {rv : zR} {lv : zJ} {Q : Int32 → zI → zR → zJ → Prop} (h : Zi mX4_lastWidth (d + 1) 0 [some (.ref 130)] [] iv rv lv Q) : Ci mX4_lastWidth (d + 1) [.ref 130] iv rv lv Q := Ci.of (by decide +kernel) (by simp [Value.category]) (Nat.le_of_ble_eq_true rfl) rfl h
set_option maxRecDepth 4000 in
theorem bX4_lastWidth_0 {d : Nat}  {iv : zI} {rv : zR} {lv : zJ} {Q : Int32 → zI → zR → zJ → Prop} (hT : zTop rv) 
    (h : ∃ Q1 : Int32 → zI → zR → zJ → Prop, Ci mX4_width d [.ref 130, .int (iv 130 5)] iv rv lv Q1 ∧ ∀ (v6 : Int32) (iv2 : zI) (rv3 : zR) (lv4 : zJ), Q1 v6 iv2 rv3 lv4 → zTop rv3 ∧ (Q v6 iv2 rv3 lv4)) :
    Zi mX4_lastWidth (d + 1) 0 [some (.ref 130)] [] iv rv lv Q := by
  unfold Zi
  refine Z_aload_n (a := 0) (q := 1) (by decide +kernel) rfl rfl ?_
  refine Z_aload_n (a := 0) (q := 2) (by decide +kernel) rfl rfl ?_
  refine g4_5 (idx := 30) (q := 5) (by decide +kernel) fX4_30 rfl (by decide) rfl ?_
  obtain ⟨Q1, hm, h⟩ := h
  refine Z_callVi (M2 := mX4_width) (idx := 49) (d2 := d) (ci := 4) (As := [.int _]) (q := 8) (by decide +kernel) kX4_width lX4_49 rfl rfl (by decide) rfl rfl (by decide +kernel) (Nat.le_of_ble_eq_true rfl) (Nat.le_refl _) hm rfl (fun v6 iv2 rv3 lv4 hq => ?_)
  obtain ⟨hT5, h⟩ := h v6 iv2 rv3 lv4 hq
  exact Z_iret (ty := .int) (by decide +kernel) rfl rfl rfl ⟨_, rfl, h⟩
theorem eX4_heapOf {d : Nat} (x1 : Int32) {iv : zI} {rv : zR} {lv : zJ} {Q : Int32 → zI → zR → zJ → Prop} (h : Zi mX4_heapOf d 0 [some (.ref 130), some (.int x1), none] [] iv rv lv Q) : Ci mX4_heapOf d [.ref 130, .int x1] iv rv lv Q := Ci.of (by decide +kernel) (by simp [Value.category]) (Nat.le_of_ble_eq_true rfl) rfl h
set_option maxRecDepth 4000 in
theorem bX4_heapOf_0 {d : Nat} (x1 : Int32) {iv : zI} {rv : zR} {lv : zJ} {Q : Int32 → zI → zR → zJ → Prop} (hT : zTop rv) 
    (h : Zi mX4_heapOf d 2 [some (.ref 130), some (.int x1), some (.int (0 : Int32))] [] iv rv lv Q) :
    Zi mX4_heapOf d 0 [some (.ref 130), some (.int x1), none] [] iv rv lv Q := by
  unfold Zi
  refine Z_iconst (a := 0) (v := 0) (q := 1) (by decide +kernel) (by decide +kernel) rfl ?_
  refine Z_istore_n (a := 2) (loc2 := [_, _, _]) (q := 2) (by decide +kernel) (by decide +kernel) rfl rfl rfl ?_
  exact h
set_option maxRecDepth 4000 in
theorem bX4_heapOf_2 {d : Nat} (x1 : Int32) (x2 : Int32) {iv : zI} {rv : zR} {lv : zJ} {Q : Int32 → zI → zR → zJ → Prop} (hT : zTop rv) 
    (h : ((iv 130 4) ≤ x2 → Q (-1 : Int32) iv rv lv) ∧ (¬ (iv 130 4) ≤ x2 → vp_in (iv 130 5) 10 ∧ (∃ r2 : Nat, rv 142 (iv 130 5).toNatClampNeg = some r2 ∧ zSH r2 = (0, 4) ∧ r2 < 200 ∧ (vp_in x2 4 ∧ ((¬ (((iv r2 x2.toNatClampNeg) >>> (x1 &&& 31)) &&& (1 : Int32)) = (1 : Int32) → Zi mX4_heapOf d 2 [some (.ref 130), some (.int x1), some (.int (x2 + 1))] [] iv rv lv Q) ∧ ((((iv r2 x2.toNatClampNeg) >>> (x1 &&& 31)) &&& (1 : Int32)) = (1 : Int32) → Q x2 iv rv lv)))))) :
    Zi mX4_heapOf d 2 [some (.ref 130), some (.int x1), some (.int x2)] [] iv rv lv Q := by
  unfold Zi
  refine Z_iload_n (a := 2) (q := 3) (by decide +kernel) rfl rfl ?_
  refine Z_aload_n (a := 0) (q := 4) (by decide +kernel) rfl rfl ?_
  refine g4_4 (idx := 27) (q := 7) (by decide +kernel) fX4_27 rfl (by decide) rfl ?_
  refine Z_icmp_ge (t := 37) (off := 30) (q := 10) (by decide +kernel) (by decide) rfl (fun hc => ?_) (fun hc => ?_)
  · replace h := h.1 hc
    refine Z_iconst (a := -1) (v := -1) (q := 38) (by decide +kernel) (by decide +kernel) rfl ?_
    exact Z_iret (ty := .int) (by decide +kernel) rfl rfl rfl ⟨_, rfl, h⟩
  · replace h := h.2 hc
    refine Z_aload_n (a := 0) (q := 11) (by decide +kernel) rfl rfl ?_
    refine g4_1 (idx := 16) (q := 14) (by decide +kernel) fX4_16 rfl (by decide) (t4_1 hT) rfl ?_
    refine Z_aload_n (a := 0) (q := 15) (by decide +kernel) rfl rfl ?_
    refine g4_5 (idx := 30) (q := 18) (by decide +kernel) fX4_30 rfl (by decide) rfl ?_
    obtain ⟨hin1, h⟩ := h
    obtain ⟨r2, hr, hsr2, har2, h⟩ := h
    refine Z_aald (len := 10) (t := 7) (r := r2) (q := 19) (by decide +kernel) rfl (by decide) (by decide) (by decide) hin1 hr rfl ?_
    refine Z_iload_n (a := 2) (q := 20) (by decide +kernel) rfl rfl ?_
    obtain ⟨hin3, h⟩ := h
    refine Z_iald (len := 4) (q := 21) (by decide +kernel) hsr2 har2 hin3 rfl ?_
    refine Z_iload_n (a := 1) (q := 22) (by decide +kernel) rfl rfl ?_
    refine Z_ishr (q := 23) (by decide +kernel) rfl ?_
    refine Z_iconst (a := 1) (v := 1) (q := 24) (by decide +kernel) (by decide +kernel) rfl ?_
    refine Z_iand (q := 25) (by decide +kernel) rfl ?_
    refine Z_iconst (a := 1) (v := 1) (q := 26) (by decide +kernel) (by decide +kernel) rfl ?_
    refine Z_icmp_ne (t := 31) (off := 5) (q := 29) (by decide +kernel) (by decide) rfl (fun hc => ?_) (fun hc => ?_)
    · replace h := h.1 hc
      refine Z_iinc (a := 2) (b := 1) (v := _ + 1) (loc2 := [_, _, _]) (q := 34) (by decide +kernel) rfl (zinc _) (by decide +kernel) rfl rfl rfl ?_
      refine Z_goto (q := 2) (off := -32) (by decide +kernel) (by decide) ?_
      exact h
    · replace h := h.2 hc
      refine Z_iload_n (a := 2) (q := 30) (by decide +kernel) rfl rfl ?_
      exact Z_iret (ty := .int) (by decide +kernel) rfl rfl rfl ⟨_, rfl, h⟩
theorem eX4_firstItemBut {d : Nat} (x1 : Int32) {iv : zI} {rv : zR} {lv : zJ} {Q : Int32 → zI → zR → zJ → Prop} (h : Zi mX4_firstItemBut (d + 1) 0 [some (.ref 130), some (.int x1), none, none] [] iv rv lv Q) : Ci mX4_firstItemBut (d + 1) [.ref 130, .int x1] iv rv lv Q := Ci.of (by decide +kernel) (by simp [Value.category]) (Nat.le_of_ble_eq_true rfl) rfl h
set_option maxRecDepth 4000 in
theorem bX4_firstItemBut_0 {d : Nat} (x1 : Int32) {iv : zI} {rv : zR} {lv : zJ} {Q : Int32 → zI → zR → zJ → Prop} (hT : zTop rv) 
    (h : Zi mX4_firstItemBut (d + 1) 4 [some (.ref 130), some (.int x1), some (.int (-1 : Int32)), some (.int (0 : Int32))] [] iv rv lv Q) :
    Zi mX4_firstItemBut (d + 1) 0 [some (.ref 130), some (.int x1), none, none] [] iv rv lv Q := by
  unfold Zi
  refine Z_iconst (a := -1) (v := -1) (q := 1) (by decide +kernel) (by decide +kernel) rfl ?_
  refine Z_istore_n (a := 2) (loc2 := [_, _, _, _]) (q := 2) (by decide +kernel) (by decide +kernel) rfl rfl rfl ?_
  refine Z_iconst (a := 0) (v := 0) (q := 3) (by decide +kernel) (by decide +kernel) rfl ?_
  refine Z_istore_n (a := 3) (loc2 := [_, _, _, _]) (q := 4) (by decide +kernel) (by decide +kernel) rfl rfl rfl ?_
  exact h
set_option maxRecDepth 4000 in
theorem bX4_firstItemBut_4 {d : Nat} (x1 : Int32) (x2 : Int32) (x3 : Int32) {iv : zI} {rv : zR} {lv : zJ} {Q : Int32 → zI → zR → zJ → Prop} (hT : zTop rv) 
    (h : ((iv 130 3) ≤ x3 → Q x2 iv rv lv) ∧ (¬ (iv 130 3) ≤ x3 → vp_in x3 10 ∧ ((¬ (iv 153 x3.toNatClampNeg) = 0 → Zi mX4_firstItemBut (d + 1) 4 [some (.ref 130), some (.int x1), some (.int x2), some (.int (x3 + 1))] [] iv rv lv Q) ∧ ((iv 153 x3.toNatClampNeg) = 0 → (x3 = x1 → Zi mX4_firstItemBut (d + 1) 4 [some (.ref 130), some (.int x1), some (.int x2), some (.int (x3 + 1))] [] iv rv lv Q) ∧ (¬ x3 = x1 → (x2 = (-1 : Int32) → Zi mX4_firstItemBut (d + 1) 4 [some (.ref 130), some (.int x1), some (.int x3), some (.int (x3 + 1))] [] iv rv lv Q) ∧ (¬ x2 = (-1 : Int32) → ∃ Q2 : Int32 → zI → zR → zJ → Prop, Ci mX4_itemGoesAhead d [.ref 130, .int x3, .int x2] iv rv lv Q2 ∧ ∀ (v7 : Int32) (iv3 : zI) (rv4 : zR) (lv5 : zJ), Q2 v7 iv3 rv4 lv5 → zTop rv4 ∧ ((v7 = 0 → Zi mX4_firstItemBut (d + 1) 4 [some (.ref 130), some (.int x1), some (.int x2), some (.int (x3 + 1))] [] iv3 rv4 lv5 Q) ∧ (¬ v7 = 0 → Zi mX4_firstItemBut (d + 1) 4 [some (.ref 130), some (.int x1), some (.int x3), some (.int (x3 + 1))] [] iv3 rv4 lv5 Q)))))))) :
    Zi mX4_firstItemBut (d + 1) 4 [some (.ref 130), some (.int x1), some (.int x2), some (.int x3)] [] iv rv lv Q := by
  unfold Zi
  refine Z_iload_n (a := 3) (q := 5) (by decide +kernel) rfl rfl ?_
  refine Z_aload_n (a := 0) (q := 6) (by decide +kernel) rfl rfl ?_
  refine g4_3 (idx := 23) (q := 9) (by decide +kernel) fX4_23 rfl (by decide) rfl ?_
  refine Z_icmp_ge (t := 48) (off := 39) (q := 12) (by decide +kernel) (by decide) rfl (fun hc => ?_) (fun hc => ?_)
  · replace h := h.1 hc
    refine Z_iload_n (a := 2) (q := 49) (by decide +kernel) rfl rfl ?_
    exact Z_iret (ty := .int) (by decide +kernel) rfl rfl rfl ⟨_, rfl, h⟩
  · replace h := h.2 hc
    refine Z_aload_n (a := 0) (q := 13) (by decide +kernel) rfl rfl ?_
    refine g4_2 (idx := 19) (q := 16) (by decide +kernel) fX4_19 rfl (by decide) (t4_2 hT) rfl ?_
    refine Z_iload_n (a := 3) (q := 17) (by decide +kernel) rfl rfl ?_
    obtain ⟨hin1, h⟩ := h
    refine Z_zald (len := 10) (q := 18) (by decide +kernel) rfl (by decide) hin1 rfl ?_
    refine Z_if_ne (t := 42) (off := 24) (q := 21) (by decide +kernel) (by decide) rfl (fun hc => ?_) (fun hc => ?_)
    · replace h := h.1 hc
      refine Z_iinc (a := 3) (b := 1) (v := _ + 1) (loc2 := [_, _, _, _]) (q := 45) (by decide +kernel) rfl (zinc _) (by decide +kernel) rfl rfl rfl ?_
      refine Z_goto (q := 4) (off := -41) (by decide +kernel) (by decide) ?_
      exact h
    · replace h := h.2 hc
      refine Z_iload_n (a := 3) (q := 22) (by decide +kernel) rfl rfl ?_
      refine Z_iload_n (a := 1) (q := 23) (by decide +kernel) rfl rfl ?_
      refine Z_icmp_eq (t := 42) (off := 19) (q := 26) (by decide +kernel) (by decide) rfl (fun hc => ?_) (fun hc => ?_)
      · replace h := h.1 hc
        refine Z_iinc (a := 3) (b := 1) (v := _ + 1) (loc2 := [_, _, _, _]) (q := 45) (by decide +kernel) rfl (zinc _) (by decide +kernel) rfl rfl rfl ?_
        refine Z_goto (q := 4) (off := -41) (by decide +kernel) (by decide) ?_
        exact h
      · replace h := h.2 hc
        refine Z_iload_n (a := 2) (q := 27) (by decide +kernel) rfl rfl ?_
        refine Z_iconst (a := -1) (v := -1) (q := 28) (by decide +kernel) (by decide +kernel) rfl ?_
        refine Z_icmp_eq (t := 40) (off := 12) (q := 31) (by decide +kernel) (by decide) rfl (fun hc => ?_) (fun hc => ?_)
        · replace h := h.1 hc
          refine Z_iload_n (a := 3) (q := 41) (by decide +kernel) rfl rfl ?_
          refine Z_istore_n (a := 2) (loc2 := [_, _, _, _]) (q := 42) (by decide +kernel) (by decide +kernel) rfl rfl rfl ?_
          refine Z_iinc (a := 3) (b := 1) (v := _ + 1) (loc2 := [_, _, _, _]) (q := 45) (by decide +kernel) rfl (zinc _) (by decide +kernel) rfl rfl rfl ?_
          refine Z_goto (q := 4) (off := -41) (by decide +kernel) (by decide) ?_
          exact h
        · replace h := h.2 hc
          refine Z_aload_n (a := 0) (q := 32) (by decide +kernel) rfl rfl ?_
          refine Z_iload_n (a := 3) (q := 33) (by decide +kernel) rfl rfl ?_
          refine Z_iload_n (a := 2) (q := 34) (by decide +kernel) rfl rfl ?_
          obtain ⟨Q2, hm, h⟩ := h
          refine Z_callVi (M2 := mX4_itemGoesAhead) (idx := 52) (d2 := d) (ci := 4) (As := [.int _, .int _]) (q := 37) (by decide +kernel) kX4_itemGoesAhead lX4_52 rfl rfl (by decide) rfl rfl (by decide +kernel) (Nat.le_of_ble_eq_true rfl) (Nat.le_refl _) hm rfl (fun v7 iv3 rv4 lv5 hq => ?_)
          obtain ⟨hT6, h⟩ := h v7 iv3 rv4 lv5 hq
          refine Z_if_eq (t := 42) (off := 5) (q := 40) (by decide +kernel) (by decide) rfl (fun hc => ?_) (fun hc => ?_)
          · replace h := h.1 hc
            refine Z_iinc (a := 3) (b := 1) (v := _ + 1) (loc2 := [_, _, _, _]) (q := 45) (by decide +kernel) rfl (zinc _) (by decide +kernel) rfl rfl rfl ?_
            refine Z_goto (q := 4) (off := -41) (by decide +kernel) (by decide) ?_
            exact h
          · replace h := h.2 hc
            refine Z_iload_n (a := 3) (q := 41) (by decide +kernel) rfl rfl ?_
            refine Z_istore_n (a := 2) (loc2 := [_, _, _, _]) (q := 42) (by decide +kernel) (by decide +kernel) rfl rfl rfl ?_
            refine Z_iinc (a := 3) (b := 1) (v := _ + 1) (loc2 := [_, _, _, _]) (q := 45) (by decide +kernel) rfl (zinc _) (by decide +kernel) rfl rfl rfl ?_
            refine Z_goto (q := 4) (off := -41) (by decide +kernel) (by decide) ?_
            exact h
theorem eX4_itemGoesAhead {d : Nat} (x1 : Int32) (x2 : Int32) {iv : zI} {rv : zR} {lv : zJ} {Q : Int32 → zI → zR → zJ → Prop} (h : Zi mX4_itemGoesAhead (d + 1) 0 [some (.ref 130), some (.int x1), some (.int x2)] [] iv rv lv Q) : Ci mX4_itemGoesAhead (d + 1) [.ref 130, .int x1, .int x2] iv rv lv Q := Ci.of (by decide +kernel) (by simp [Value.category]) (Nat.le_of_ble_eq_true rfl) rfl h
set_option maxRecDepth 4000 in
theorem bX4_itemGoesAhead_0 {d : Nat} (x1 : Int32) (x2 : Int32) {iv : zI} {rv : zR} {lv : zJ} {Q : Int32 → zI → zR → zJ → Prop} (hT : zTop rv) 
    (h : ∃ Q1 : Int32 → zI → zR → zJ → Prop, Ci mX4_width d [.ref 130, .int x1] iv rv lv Q1 ∧ ∀ (v6 : Int32) (iv2 : zI) (rv3 : zR) (lv4 : zJ), Q1 v6 iv2 rv3 lv4 → zTop rv3 ∧ (∃ Q7 : Int32 → zI → zR → zJ → Prop, Ci mX4_width d [.ref 130, .int x2] iv2 rv3 lv4 Q7 ∧ ∀ (v12 : Int32) (iv8 : zI) (rv9 : zR) (lv10 : zJ), Q7 v12 iv8 rv9 lv10 → zTop rv9 ∧ ((v12 < v6 → Q (1 : Int32) iv8 rv9 lv10) ∧ (¬ v12 < v6 → ∃ Q13 : Int32 → zI → zR → zJ → Prop, Ci mX4_width d [.ref 130, .int x1] iv8 rv9 lv10 Q13 ∧ ∀ (v18 : Int32) (iv14 : zI) (rv15 : zR) (lv16 : zJ), Q13 v18 iv14 rv15 lv16 → zTop rv15 ∧ (∃ Q19 : Int32 → zI → zR → zJ → Prop, Ci mX4_width d [.ref 130, .int x2] iv14 rv15 lv16 Q19 ∧ ∀ (v24 : Int32) (iv20 : zI) (rv21 : zR) (lv22 : zJ), Q19 v24 iv20 rv21 lv22 → zTop rv21 ∧ ((¬ v18 = v24 → Q (0 : Int32) iv20 rv21 lv22) ∧ (v18 = v24 → ∃ Q25 : Int32 → zI → zR → zJ → Prop, Ci mX4_allMembers d [.ref 130, .int x1] iv20 rv21 lv22 Q25 ∧ ∀ (v30 : Int32) (iv26 : zI) (rv27 : zR) (lv28 : zJ), Q25 v30 iv26 rv27 lv28 → zTop rv27 ∧ (∃ Q31 : Int32 → zI → zR → zJ → Prop, Ci mX10_leastMember d [.int v30] iv26 rv27 lv28 Q31 ∧ ∀ (v36 : Int32) (iv32 : zI) (rv33 : zR) (lv34 : zJ), Q31 v36 iv32 rv33 lv34 → zTop rv33 ∧ (∃ Q37 : Int32 → zI → zR → zJ → Prop, Ci mX4_allMembers d [.ref 130, .int x2] iv32 rv33 lv34 Q37 ∧ ∀ (v42 : Int32) (iv38 : zI) (rv39 : zR) (lv40 : zJ), Q37 v42 iv38 rv39 lv40 → zTop rv39 ∧ (∃ Q43 : Int32 → zI → zR → zJ → Prop, Ci mX10_leastMember d [.int v42] iv38 rv39 lv40 Q43 ∧ ∀ (v48 : Int32) (iv44 : zI) (rv45 : zR) (lv46 : zJ), Q43 v48 iv44 rv45 lv46 → zTop rv45 ∧ ((v48 ≤ v36 → Q (0 : Int32) iv44 rv45 lv46) ∧ (¬ v48 ≤ v36 → Q (1 : Int32) iv44 rv45 lv46)))))))))))) :
    Zi mX4_itemGoesAhead (d + 1) 0 [some (.ref 130), some (.int x1), some (.int x2)] [] iv rv lv Q := by
  unfold Zi
  refine Z_aload_n (a := 0) (q := 1) (by decide +kernel) rfl rfl ?_
  refine Z_iload_n (a := 1) (q := 2) (by decide +kernel) rfl rfl ?_
  obtain ⟨Q1, hm, h⟩ := h
  refine Z_callVi (M2 := mX4_width) (idx := 49) (d2 := d) (ci := 4) (As := [.int _]) (q := 5) (by decide +kernel) kX4_width lX4_49 rfl rfl (by decide) rfl rfl (by decide +kernel) (Nat.le_of_ble_eq_true rfl) (Nat.le_refl _) hm rfl (fun v6 iv2 rv3 lv4 hq => ?_)
  obtain ⟨hT5, h⟩ := h v6 iv2 rv3 lv4 hq
  refine Z_aload_n (a := 0) (q := 6) (by decide +kernel) rfl rfl ?_
  refine Z_iload_n (a := 2) (q := 7) (by decide +kernel) rfl rfl ?_
  obtain ⟨Q7, hm, h⟩ := h
  refine Z_callVi (M2 := mX4_width) (idx := 49) (d2 := d) (ci := 4) (As := [.int _]) (q := 10) (by decide +kernel) kX4_width lX4_49 rfl rfl (by decide) rfl rfl (by decide +kernel) (Nat.le_of_ble_eq_true rfl) (Nat.le_refl _) hm rfl (fun v12 iv8 rv9 lv10 hq => ?_)
  obtain ⟨hT11, h⟩ := h v12 iv8 rv9 lv10 hq
  refine Z_icmp_gt (t := 45) (off := 35) (q := 13) (by decide +kernel) (by decide) rfl (fun hc => ?_) (fun hc => ?_)
  · replace h := h.1 hc
    refine Z_iconst (a := 1) (v := 1) (q := 46) (by decide +kernel) (by decide +kernel) rfl ?_
    refine Z_goto (q := 50) (off := 4) (by decide +kernel) (by decide) ?_
    exact Z_iret (ty := .boolean) (by decide +kernel) rfl rfl rfl ⟨_, rfl, h⟩
  · replace h := h.2 hc
    refine Z_aload_n (a := 0) (q := 14) (by decide +kernel) rfl rfl ?_
    refine Z_iload_n (a := 1) (q := 15) (by decide +kernel) rfl rfl ?_
    obtain ⟨Q13, hm, h⟩ := h
    refine Z_callVi (M2 := mX4_width) (idx := 49) (d2 := d) (ci := 4) (As := [.int _]) (q := 18) (by decide +kernel) kX4_width lX4_49 rfl rfl (by decide) rfl rfl (by decide +kernel) (Nat.le_of_ble_eq_true rfl) (Nat.le_refl _) hm rfl (fun v18 iv14 rv15 lv16 hq => ?_)
    obtain ⟨hT17, h⟩ := h v18 iv14 rv15 lv16 hq
    refine Z_aload_n (a := 0) (q := 19) (by decide +kernel) rfl rfl ?_
    refine Z_iload_n (a := 2) (q := 20) (by decide +kernel) rfl rfl ?_
    obtain ⟨Q19, hm, h⟩ := h
    refine Z_callVi (M2 := mX4_width) (idx := 49) (d2 := d) (ci := 4) (As := [.int _]) (q := 23) (by decide +kernel) kX4_width lX4_49 rfl rfl (by decide) rfl rfl (by decide +kernel) (Nat.le_of_ble_eq_true rfl) (Nat.le_refl _) hm rfl (fun v24 iv20 rv21 lv22 hq => ?_)
    obtain ⟨hT23, h⟩ := h v24 iv20 rv21 lv22 hq
    refine Z_icmp_ne (t := 49) (off := 26) (q := 26) (by decide +kernel) (by decide) rfl (fun hc => ?_) (fun hc => ?_)
    · replace h := h.1 hc
      refine Z_iconst (a := 0) (v := 0) (q := 50) (by decide +kernel) (by decide +kernel) rfl ?_
      exact Z_iret (ty := .boolean) (by decide +kernel) rfl rfl rfl ⟨_, rfl, h⟩
    · replace h := h.2 hc
      refine Z_aload_n (a := 0) (q := 27) (by decide +kernel) rfl rfl ?_
      refine Z_iload_n (a := 1) (q := 28) (by decide +kernel) rfl rfl ?_
      obtain ⟨Q25, hm, h⟩ := h
      refine Z_callVi (M2 := mX4_allMembers) (idx := 56) (d2 := d) (ci := 4) (As := [.int _]) (q := 31) (by decide +kernel) kX4_allMembers lX4_56 rfl rfl (by decide) rfl rfl (by decide +kernel) (Nat.le_of_ble_eq_true rfl) (Nat.le_refl _) hm rfl (fun v30 iv26 rv27 lv28 hq => ?_)
      obtain ⟨hT29, h⟩ := h v30 iv26 rv27 lv28 hq
      obtain ⟨Q31, hm, h⟩ := h
      refine Z_callSNi (M2 := mX10_leastMember) (idx := 59) (d2 := d) (As := [.int _]) (q := 34) (by decide +kernel) kX10_leastMember nX4_59 rfl rfl (by decide +kernel) (Nat.le_of_ble_eq_true rfl) (Nat.le_refl _) hm rfl (fun v36 iv32 rv33 lv34 hq => ?_)
      obtain ⟨hT35, h⟩ := h v36 iv32 rv33 lv34 hq
      refine Z_aload_n (a := 0) (q := 35) (by decide +kernel) rfl rfl ?_
      refine Z_iload_n (a := 2) (q := 36) (by decide +kernel) rfl rfl ?_
      obtain ⟨Q37, hm, h⟩ := h
      refine Z_callVi (M2 := mX4_allMembers) (idx := 56) (d2 := d) (ci := 4) (As := [.int _]) (q := 39) (by decide +kernel) kX4_allMembers lX4_56 rfl rfl (by decide) rfl rfl (by decide +kernel) (Nat.le_of_ble_eq_true rfl) (Nat.le_refl _) hm rfl (fun v42 iv38 rv39 lv40 hq => ?_)
      obtain ⟨hT41, h⟩ := h v42 iv38 rv39 lv40 hq
      obtain ⟨Q43, hm, h⟩ := h
      refine Z_callSNi (M2 := mX10_leastMember) (idx := 59) (d2 := d) (As := [.int _]) (q := 42) (by decide +kernel) kX10_leastMember nX4_59 rfl rfl (by decide +kernel) (Nat.le_of_ble_eq_true rfl) (Nat.le_refl _) hm rfl (fun v48 iv44 rv45 lv46 hq => ?_)
      obtain ⟨hT47, h⟩ := h v48 iv44 rv45 lv46 hq
      refine Z_icmp_ge (t := 49) (off := 7) (q := 45) (by decide +kernel) (by decide) rfl (fun hc => ?_) (fun hc => ?_)
      · replace h := h.1 hc
        refine Z_iconst (a := 0) (v := 0) (q := 50) (by decide +kernel) (by decide +kernel) rfl ?_
        exact Z_iret (ty := .boolean) (by decide +kernel) rfl rfl rfl ⟨_, rfl, h⟩
      · replace h := h.2 hc
        refine Z_iconst (a := 1) (v := 1) (q := 46) (by decide +kernel) (by decide +kernel) rfl ?_
        refine Z_goto (q := 50) (off := 4) (by decide +kernel) (by decide) ?_
        exact Z_iret (ty := .boolean) (by decide +kernel) rfl rfl rfl ⟨_, rfl, h⟩
theorem eX4_width {d : Nat} (x1 : Int32) {iv : zI} {rv : zR} {lv : zJ} {Q : Int32 → zI → zR → zJ → Prop} (h : Zi mX4_width d 0 [some (.ref 130), some (.int x1)] [] iv rv lv Q) : Ci mX4_width d [.ref 130, .int x1] iv rv lv Q := Ci.of (by decide +kernel) (by simp [Value.category]) (Nat.le_of_ble_eq_true rfl) rfl h
set_option maxRecDepth 4000 in
theorem bX4_width_0 {d : Nat} (x1 : Int32) {iv : zI} {rv : zR} {lv : zJ} {Q : Int32 → zI → zR → zJ → Prop} (hT : zTop rv) 
    (h : vp_in x1 10 ∧ (∃ r2 : Nat, rv 131 x1.toNatClampNeg = some r2 ∧ zSH r2 = (0, 4) ∧ r2 < 200 ∧ (∃ r3 : Nat, rv 131 x1.toNatClampNeg = some r3 ∧ zSH r3 = (0, 4) ∧ r3 < 200 ∧ (vp_in ((iv 130 4) - (1 : Int32)) 4 ∧ (Q ((iv r2 0) - (iv r3 ((iv 130 4) - (1 : Int32)).toNatClampNeg)) iv rv lv))))) :
    Zi mX4_width d 0 [some (.ref 130), some (.int x1)] [] iv rv lv Q := by
  unfold Zi
  refine Z_aload_n (a := 0) (q := 1) (by decide +kernel) rfl rfl ?_
  refine g4_0 (idx := 11) (q := 4) (by decide +kernel) fX4_11 rfl (by decide) (t4_0 hT) rfl ?_
  refine Z_iload_n (a := 1) (q := 5) (by decide +kernel) rfl rfl ?_
  obtain ⟨hin1, h⟩ := h
  obtain ⟨r2, hr, hsr2, har2, h⟩ := h
  refine Z_aald (len := 10) (t := 7) (r := r2) (q := 6) (by decide +kernel) rfl (by decide) (by decide) (by decide) hin1 hr rfl ?_
  refine Z_iconst (a := 0) (v := 0) (q := 7) (by decide +kernel) (by decide +kernel) rfl ?_
  refine Z_iald (len := 4) (q := 8) (by decide +kernel) hsr2 har2 (by unfold vp_in; decide) rfl ?_
  refine Z_aload_n (a := 0) (q := 9) (by decide +kernel) rfl rfl ?_
  refine g4_0 (idx := 11) (q := 12) (by decide +kernel) fX4_11 rfl (by decide) (t4_0 hT) rfl ?_
  refine Z_iload_n (a := 1) (q := 13) (by decide +kernel) rfl rfl ?_
  obtain ⟨r3, hr, hsr3, har3, h⟩ := h
  refine Z_aald (len := 10) (t := 7) (r := r3) (q := 14) (by decide +kernel) rfl (by decide) (by decide) (by decide) hin1 hr rfl ?_
  refine Z_aload_n (a := 0) (q := 15) (by decide +kernel) rfl rfl ?_
  refine g4_4 (idx := 27) (q := 18) (by decide +kernel) fX4_27 rfl (by decide) rfl ?_
  refine Z_iconst (a := 1) (v := 1) (q := 19) (by decide +kernel) (by decide +kernel) rfl ?_
  refine Z_isub (q := 20) (by decide +kernel) rfl ?_
  obtain ⟨hin4, h⟩ := h
  refine Z_iald (len := 4) (q := 21) (by decide +kernel) hsr3 har3 hin4 rfl ?_
  refine Z_isub (q := 22) (by decide +kernel) rfl ?_
  exact Z_iret (ty := .int) (by decide +kernel) rfl rfl rfl ⟨_, rfl, h⟩
theorem eX4_allMembers {d : Nat} (x1 : Int32) {iv : zI} {rv : zR} {lv : zJ} {Q : Int32 → zI → zR → zJ → Prop} (h : Zi mX4_allMembers d 0 [some (.ref 130), some (.int x1), none, none] [] iv rv lv Q) : Ci mX4_allMembers d [.ref 130, .int x1] iv rv lv Q := Ci.of (by decide +kernel) (by simp [Value.category]) (Nat.le_of_ble_eq_true rfl) rfl h
set_option maxRecDepth 4000 in
theorem bX4_allMembers_0 {d : Nat} (x1 : Int32) {iv : zI} {rv : zR} {lv : zJ} {Q : Int32 → zI → zR → zJ → Prop} (hT : zTop rv) 
    (h : Zi mX4_allMembers d 4 [some (.ref 130), some (.int x1), some (.int (0 : Int32)), some (.int (0 : Int32))] [] iv rv lv Q) :
    Zi mX4_allMembers d 0 [some (.ref 130), some (.int x1), none, none] [] iv rv lv Q := by
  unfold Zi
  refine Z_iconst (a := 0) (v := 0) (q := 1) (by decide +kernel) (by decide +kernel) rfl ?_
  refine Z_istore_n (a := 2) (loc2 := [_, _, _, _]) (q := 2) (by decide +kernel) (by decide +kernel) rfl rfl rfl ?_
  refine Z_iconst (a := 0) (v := 0) (q := 3) (by decide +kernel) (by decide +kernel) rfl ?_
  refine Z_istore_n (a := 3) (loc2 := [_, _, _, _]) (q := 4) (by decide +kernel) (by decide +kernel) rfl rfl rfl ?_
  exact h
set_option maxRecDepth 4000 in
theorem bX4_allMembers_4 {d : Nat} (x1 : Int32) (x2 : Int32) (x3 : Int32) {iv : zI} {rv : zR} {lv : zJ} {Q : Int32 → zI → zR → zJ → Prop} (hT : zTop rv) 
    (h : ((iv 130 4) ≤ x3 → Q x2 iv rv lv) ∧ (¬ (iv 130 4) ≤ x3 → vp_in x1 10 ∧ (∃ r2 : Nat, rv 142 x1.toNatClampNeg = some r2 ∧ zSH r2 = (0, 4) ∧ r2 < 200 ∧ (vp_in x3 4 ∧ (Zi mX4_allMembers d 4 [some (.ref 130), some (.int x1), some (.int (x2 ||| (iv r2 x3.toNatClampNeg))), some (.int (x3 + 1))] [] iv rv lv Q))))) :
    Zi mX4_allMembers d 4 [some (.ref 130), some (.int x1), some (.int x2), some (.int x3)] [] iv rv lv Q := by
  unfold Zi
  refine Z_iload_n (a := 3) (q := 5) (by decide +kernel) rfl rfl ?_
  refine Z_aload_n (a := 0) (q := 6) (by decide +kernel) rfl rfl ?_
  refine g4_4 (idx := 27) (q := 9) (by decide +kernel) fX4_27 rfl (by decide) rfl ?_
  refine Z_icmp_ge (t := 29) (off := 20) (q := 12) (by decide +kernel) (by decide) rfl (fun hc => ?_) (fun hc => ?_)
  · replace h := h.1 hc
    refine Z_iload_n (a := 2) (q := 30) (by decide +kernel) rfl rfl ?_
    exact Z_iret (ty := .int) (by decide +kernel) rfl rfl rfl ⟨_, rfl, h⟩
  · replace h := h.2 hc
    refine Z_iload_n (a := 2) (q := 13) (by decide +kernel) rfl rfl ?_
    refine Z_aload_n (a := 0) (q := 14) (by decide +kernel) rfl rfl ?_
    refine g4_1 (idx := 16) (q := 17) (by decide +kernel) fX4_16 rfl (by decide) (t4_1 hT) rfl ?_
    refine Z_iload_n (a := 1) (q := 18) (by decide +kernel) rfl rfl ?_
    obtain ⟨hin1, h⟩ := h
    obtain ⟨r2, hr, hsr2, har2, h⟩ := h
    refine Z_aald (len := 10) (t := 7) (r := r2) (q := 19) (by decide +kernel) rfl (by decide) (by decide) (by decide) hin1 hr rfl ?_
    refine Z_iload_n (a := 3) (q := 20) (by decide +kernel) rfl rfl ?_
    obtain ⟨hin3, h⟩ := h
    refine Z_iald (len := 4) (q := 21) (by decide +kernel) hsr2 har2 hin3 rfl ?_
    refine Z_ior (q := 22) (by decide +kernel) rfl ?_
    refine Z_istore_n (a := 2) (loc2 := [_, _, _, _]) (q := 23) (by decide +kernel) (by decide +kernel) rfl rfl rfl ?_
    refine Z_iinc (a := 3) (b := 1) (v := _ + 1) (loc2 := [_, _, _, _]) (q := 26) (by decide +kernel) rfl (zinc _) (by decide +kernel) rfl rfl rfl ?_
    refine Z_goto (q := 4) (off := -22) (by decide +kernel) (by decide) ?_
    exact h
theorem eX4_join {d : Nat} (x1 : Int32) (x2 : Int32) {iv : zI} {rv : zR} {lv : zJ} {Q : zI → zR → zJ → Prop} (h : Zv mX4_join (d + 1) 0 [some (.ref 130), some (.int x1), some (.int x2), none, none] [] iv rv lv Q) : Cv mX4_join (d + 1) [.ref 130, .int x1, .int x2] iv rv lv Q := Cv.of (by decide +kernel) (by simp [Value.category]) (Nat.le_of_ble_eq_true rfl) rfl h
set_option maxRecDepth 4000 in
theorem bX4_join_0 {d : Nat} (x1 : Int32) (x2 : Int32) {iv : zI} {rv : zR} {lv : zJ} {Q : zI → zR → zJ → Prop} (hT : zTop rv) 
    (h : Zv mX4_join (d + 1) 2 [some (.ref 130), some (.int x1), some (.int x2), some (.int (0 : Int32)), none] [] iv rv lv Q) :
    Zv mX4_join (d + 1) 0 [some (.ref 130), some (.int x1), some (.int x2), none, none] [] iv rv lv Q := by
  unfold Zv
  refine Z_iconst (a := 0) (v := 0) (q := 1) (by decide +kernel) (by decide +kernel) rfl ?_
  refine Z_istore_n (a := 3) (loc2 := [_, _, _, _, _]) (q := 2) (by decide +kernel) (by decide +kernel) rfl rfl rfl ?_
  exact h
set_option maxRecDepth 4000 in
theorem bX4_join_2 {d : Nat} (x1 : Int32) (x2 : Int32) (x3 : Int32) {iv : zI} {rv : zR} {lv : zJ} {Q : zI → zR → zJ → Prop} (hT : zTop rv) 
    (h : ((iv 130 4) ≤ x3 → vp_in x2 10 ∧ (∀ iv2 : zI, iv2 = zu iv 153 x2.toNatClampNeg (vp_nar .boolean (1 : Int32)) → vp_in x1 10 ∧ (∃ r4 : Nat, rv 131 x1.toNatClampNeg = some r4 ∧ zSH r4 = (0, 4) ∧ r4 < 200 ∧ (∃ r5 : Nat, rv 142 x1.toNatClampNeg = some r5 ∧ zSH r5 = (0, 4) ∧ r5 < 200 ∧ (∃ Q6 : zI → zR → zJ → Prop, Cv mX4_orderParts d [.ref 130, .ref r4, .ref r5] iv2 rv lv Q6 ∧ ∀ (iv7 : zI) (rv8 : zR) (lv9 : zJ), Q6 iv7 rv8 lv9 → zTop rv8 ∧ (∃ r12 : Nat, rv8 131 x1.toNatClampNeg = some r12 ∧ zSH r12 = (0, 4) ∧ r12 < 200 ∧ (vp_in ((iv7 130 4) - (1 : Int32)) 4 ∧ (Zv mX4_join (d + 1) 108 [some (.ref 130), some (.int x1), some (.int x2), some (.int (iv7 r12 ((iv7 130 4) - (1 : Int32)).toNatClampNeg)), some (.int (0 : Int32))] [] iv7 rv8 lv9 Q)))))))) ∧ (¬ (iv 130 4) ≤ x3 → vp_in x1 10 ∧ (∃ r15 : Nat, rv 131 x1.toNatClampNeg = some r15 ∧ zSH r15 = (0, 4) ∧ r15 < 200 ∧ (vp_in x3 4 ∧ (vp_in x2 10 ∧ (∃ r18 : Nat, rv 131 x2.toNatClampNeg = some r18 ∧ zSH r18 = (0, 4) ∧ r18 < 200 ∧ (vp_in (((iv 130 4) - (1 : Int32)) - x3) 4 ∧ (∀ iv20 : zI, iv20 = zu iv r15 x3.toNatClampNeg ((iv r15 x3.toNatClampNeg) + (iv r18 (((iv 130 4) - (1 : Int32)) - x3).toNatClampNeg)) → ∃ r21 : Nat, rv 142 x1.toNatClampNeg = some r21 ∧ zSH r21 = (0, 4) ∧ r21 < 200 ∧ (∃ r22 : Nat, rv 142 x2.toNatClampNeg = some r22 ∧ zSH r22 = (0, 4) ∧ r22 < 200 ∧ (vp_in (((iv20 130 4) - (1 : Int32)) - x3) 4 ∧ (∀ iv24 : zI, iv24 = zu iv20 r21 x3.toNatClampNeg ((iv20 r21 x3.toNatClampNeg) ||| (iv20 r22 (((iv20 130 4) - (1 : Int32)) - x3).toNatClampNeg)) → Zv mX4_join (d + 1) 2 [some (.ref 130), some (.int x1), some (.int x2), some (.int (x3 + 1)), none] [] iv24 rv lv Q))))))))))) :
    Zv mX4_join (d + 1) 2 [some (.ref 130), some (.int x1), some (.int x2), some (.int x3), none] [] iv rv lv Q := by
  unfold Zv
  refine Z_iload_n (a := 3) (q := 3) (by decide +kernel) rfl rfl ?_
  refine Z_aload_n (a := 0) (q := 4) (by decide +kernel) rfl rfl ?_
  refine g4_4 (idx := 27) (q := 7) (by decide +kernel) fX4_27 rfl (by decide) rfl ?_
  refine Z_icmp_ge (t := 68) (off := 61) (q := 10) (by decide +kernel) (by decide) rfl (fun hc => ?_) (fun hc => ?_)
  · replace h := h.1 hc
    refine Z_aload_n (a := 0) (q := 69) (by decide +kernel) rfl rfl ?_
    refine g4_2 (idx := 19) (q := 72) (by decide +kernel) fX4_19 rfl (by decide) (t4_2 hT) rfl ?_
    refine Z_iload_n (a := 2) (q := 73) (by decide +kernel) rfl rfl ?_
    refine Z_iconst (a := 1) (v := 1) (q := 74) (by decide +kernel) (by decide +kernel) rfl ?_
    obtain ⟨hin1, h⟩ := h
    refine Z_zast (len := 10) (q := 75) (by decide +kernel) rfl (by decide) hin1 rfl ?_
    replace h := h _ rfl
    refine Z_aload_n (a := 0) (q := 76) (by decide +kernel) rfl rfl ?_
    refine Z_aload_n (a := 0) (q := 77) (by decide +kernel) rfl rfl ?_
    refine g4_0 (idx := 11) (q := 80) (by decide +kernel) fX4_11 rfl (by decide) (t4_0 hT) rfl ?_
    refine Z_iload_n (a := 1) (q := 81) (by decide +kernel) rfl rfl ?_
    obtain ⟨hin3, h⟩ := h
    obtain ⟨r4, hr, hsr4, har4, h⟩ := h
    refine Z_aald (len := 10) (t := 7) (r := r4) (q := 82) (by decide +kernel) rfl (by decide) (by decide) (by decide) hin3 hr rfl ?_
    refine Z_aload_n (a := 0) (q := 83) (by decide +kernel) rfl rfl ?_
    refine g4_1 (idx := 16) (q := 86) (by decide +kernel) fX4_16 rfl (by decide) (t4_1 hT) rfl ?_
    refine Z_iload_n (a := 1) (q := 87) (by decide +kernel) rfl rfl ?_
    obtain ⟨r5, hr, hsr5, har5, h⟩ := h
    refine Z_aald (len := 10) (t := 7) (r := r5) (q := 88) (by decide +kernel) rfl (by decide) (by decide) (by decide) hin3 hr rfl ?_
    obtain ⟨Q6, hm, h⟩ := h
    refine Z_callVv (M2 := mX4_orderParts) (idx := 62) (d2 := d) (ci := 4) (As := [.ref _, .ref _]) (q := 91) (by decide +kernel) kX4_orderParts lX4_62 rfl rfl (by decide) rfl rfl (by decide +kernel) (Nat.le_of_ble_eq_true rfl) (Nat.le_refl _) hm rfl (fun iv7 rv8 lv9 hq => ?_)
    obtain ⟨hT10, h⟩ := h iv7 rv8 lv9 hq
    refine Z_aload_n (a := 0) (q := 92) (by decide +kernel) rfl rfl ?_
    refine g4_0 (idx := 11) (q := 95) (by decide +kernel) fX4_11 rfl (by decide) (t4_0 hT10) rfl ?_
    refine Z_iload_n (a := 1) (q := 96) (by decide +kernel) rfl rfl ?_
    obtain ⟨r12, hr, hsr12, har12, h⟩ := h
    refine Z_aald (len := 10) (t := 7) (r := r12) (q := 97) (by decide +kernel) rfl (by decide) (by decide) (by decide) hin3 hr rfl ?_
    refine Z_aload_n (a := 0) (q := 98) (by decide +kernel) rfl rfl ?_
    refine g4_4 (idx := 27) (q := 101) (by decide +kernel) fX4_27 rfl (by decide) rfl ?_
    refine Z_iconst (a := 1) (v := 1) (q := 102) (by decide +kernel) (by decide +kernel) rfl ?_
    refine Z_isub (q := 103) (by decide +kernel) rfl ?_
    obtain ⟨hin13, h⟩ := h
    refine Z_iald (len := 4) (q := 104) (by decide +kernel) hsr12 har12 hin13 rfl ?_
    refine Z_istore_n (a := 3) (loc2 := [_, _, _, _, _]) (q := 105) (by decide +kernel) (by decide +kernel) rfl rfl rfl ?_
    refine Z_iconst (a := 0) (v := 0) (q := 106) (by decide +kernel) (by decide +kernel) rfl ?_
    refine Z_istore (a := 4) (loc2 := [_, _, _, _, _]) (q := 108) (by decide +kernel) (by decide +kernel) rfl rfl rfl ?_
    exact h
  · replace h := h.2 hc
    refine Z_aload_n (a := 0) (q := 11) (by decide +kernel) rfl rfl ?_
    refine g4_0 (idx := 11) (q := 14) (by decide +kernel) fX4_11 rfl (by decide) (t4_0 hT) rfl ?_
    refine Z_iload_n (a := 1) (q := 15) (by decide +kernel) rfl rfl ?_
    obtain ⟨hin14, h⟩ := h
    obtain ⟨r15, hr, hsr15, har15, h⟩ := h
    refine Z_aald (len := 10) (t := 7) (r := r15) (q := 16) (by decide +kernel) rfl (by decide) (by decide) (by decide) hin14 hr rfl ?_
    refine Z_iload_n (a := 3) (q := 17) (by decide +kernel) rfl rfl ?_
    refine Z_dup2 (q := 18) (by decide +kernel) rfl rfl rfl ?_
    obtain ⟨hin16, h⟩ := h
    refine Z_iald (len := 4) (q := 19) (by decide +kernel) hsr15 har15 hin16 rfl ?_
    refine Z_aload_n (a := 0) (q := 20) (by decide +kernel) rfl rfl ?_
    refine g4_0 (idx := 11) (q := 23) (by decide +kernel) fX4_11 rfl (by decide) (t4_0 hT) rfl ?_
    refine Z_iload_n (a := 2) (q := 24) (by decide +kernel) rfl rfl ?_
    obtain ⟨hin17, h⟩ := h
    obtain ⟨r18, hr, hsr18, har18, h⟩ := h
    refine Z_aald (len := 10) (t := 7) (r := r18) (q := 25) (by decide +kernel) rfl (by decide) (by decide) (by decide) hin17 hr rfl ?_
    refine Z_aload_n (a := 0) (q := 26) (by decide +kernel) rfl rfl ?_
    refine g4_4 (idx := 27) (q := 29) (by decide +kernel) fX4_27 rfl (by decide) rfl ?_
    refine Z_iconst (a := 1) (v := 1) (q := 30) (by decide +kernel) (by decide +kernel) rfl ?_
    refine Z_isub (q := 31) (by decide +kernel) rfl ?_
    refine Z_iload_n (a := 3) (q := 32) (by decide +kernel) rfl rfl ?_
    refine Z_isub (q := 33) (by decide +kernel) rfl ?_
    obtain ⟨hin19, h⟩ := h
    refine Z_iald (len := 4) (q := 34) (by decide +kernel) hsr18 har18 hin19 rfl ?_
    refine Z_iadd (q := 35) (by decide +kernel) rfl ?_
    refine Z_iast (len := 4) (q := 36) (by decide +kernel) hsr15 har15 hin16 rfl ?_
    replace h := h _ rfl
    refine Z_aload_n (a := 0) (q := 37) (by decide +kernel) rfl rfl ?_
    refine g4_1 (idx := 16) (q := 40) (by decide +kernel) fX4_16 rfl (by decide) (t4_1 hT) rfl ?_
    refine Z_iload_n (a := 1) (q := 41) (by decide +kernel) rfl rfl ?_
    obtain ⟨r21, hr, hsr21, har21, h⟩ := h
    refine Z_aald (len := 10) (t := 7) (r := r21) (q := 42) (by decide +kernel) rfl (by decide) (by decide) (by decide) hin14 hr rfl ?_
    refine Z_iload_n (a := 3) (q := 43) (by decide +kernel) rfl rfl ?_
    refine Z_dup2 (q := 44) (by decide +kernel) rfl rfl rfl ?_
    refine Z_iald (len := 4) (q := 45) (by decide +kernel) hsr21 har21 hin16 rfl ?_
    refine Z_aload_n (a := 0) (q := 46) (by decide +kernel) rfl rfl ?_
    refine g4_1 (idx := 16) (q := 49) (by decide +kernel) fX4_16 rfl (by decide) (t4_1 hT) rfl ?_
    refine Z_iload_n (a := 2) (q := 50) (by decide +kernel) rfl rfl ?_
    obtain ⟨r22, hr, hsr22, har22, h⟩ := h
    refine Z_aald (len := 10) (t := 7) (r := r22) (q := 51) (by decide +kernel) rfl (by decide) (by decide) (by decide) hin17 hr rfl ?_
    refine Z_aload_n (a := 0) (q := 52) (by decide +kernel) rfl rfl ?_
    refine g4_4 (idx := 27) (q := 55) (by decide +kernel) fX4_27 rfl (by decide) rfl ?_
    refine Z_iconst (a := 1) (v := 1) (q := 56) (by decide +kernel) (by decide +kernel) rfl ?_
    refine Z_isub (q := 57) (by decide +kernel) rfl ?_
    refine Z_iload_n (a := 3) (q := 58) (by decide +kernel) rfl rfl ?_
    refine Z_isub (q := 59) (by decide +kernel) rfl ?_
    obtain ⟨hin23, h⟩ := h
    refine Z_iald (len := 4) (q := 60) (by decide +kernel) hsr22 har22 hin23 rfl ?_
    refine Z_ior (q := 61) (by decide +kernel) rfl ?_
    refine Z_iast (len := 4) (q := 62) (by decide +kernel) hsr21 har21 hin16 rfl ?_
    replace h := h _ rfl
    refine Z_iinc (a := 3) (b := 1) (v := _ + 1) (loc2 := [_, _, _, _, _]) (q := 65) (by decide +kernel) rfl (zinc _) (by decide +kernel) rfl rfl rfl ?_
    refine Z_goto (q := 2) (off := -63) (by decide +kernel) (by decide) ?_
    exact h
set_option maxRecDepth 4000 in
theorem bX4_join_108 {d : Nat} (x1 : Int32) (x2 : Int32) (x3 : Int32) (x4 : Int32) {iv : zI} {rv : zR} {lv : zJ} {Q : zI → zR → zJ → Prop} (hT : zTop rv) 
    (h : ((iv 130 4) ≤ x4 → Q iv rv lv) ∧ (¬ (iv 130 4) ≤ x4 → vp_in x1 10 ∧ (∃ r2 : Nat, rv 131 x1.toNatClampNeg = some r2 ∧ zSH r2 = (0, 4) ∧ r2 < 200 ∧ (vp_in x4 4 ∧ (∀ iv4 : zI, iv4 = zu iv r2 x4.toNatClampNeg ((iv r2 x4.toNatClampNeg) - x3) → Zv mX4_join (d + 1) 108 [some (.ref 130), some (.int x1), some (.int x2), some (.int x3), some (.int (x4 + 1))] [] iv4 rv lv Q))))) :
    Zv mX4_join (d + 1) 108 [some (.ref 130), some (.int x1), some (.int x2), some (.int x3), some (.int x4)] [] iv rv lv Q := by
  unfold Zv
  refine Z_iload (a := 4) (q := 110) (by decide +kernel) rfl rfl ?_
  refine Z_aload_n (a := 0) (q := 111) (by decide +kernel) rfl rfl ?_
  refine g4_4 (idx := 27) (q := 114) (by decide +kernel) fX4_27 rfl (by decide) rfl ?_
  refine Z_icmp_ge (t := 136) (off := 22) (q := 117) (by decide +kernel) (by decide) rfl (fun hc => ?_) (fun hc => ?_)
  · replace h := h.1 hc
    exact Z_vret (by decide +kernel) rfl rfl ⟨rfl, h⟩
  · replace h := h.2 hc
    refine Z_aload_n (a := 0) (q := 118) (by decide +kernel) rfl rfl ?_
    refine g4_0 (idx := 11) (q := 121) (by decide +kernel) fX4_11 rfl (by decide) (t4_0 hT) rfl ?_
    refine Z_iload_n (a := 1) (q := 122) (by decide +kernel) rfl rfl ?_
    obtain ⟨hin1, h⟩ := h
    obtain ⟨r2, hr, hsr2, har2, h⟩ := h
    refine Z_aald (len := 10) (t := 7) (r := r2) (q := 123) (by decide +kernel) rfl (by decide) (by decide) (by decide) hin1 hr rfl ?_
    refine Z_iload (a := 4) (q := 125) (by decide +kernel) rfl rfl ?_
    refine Z_dup2 (q := 126) (by decide +kernel) rfl rfl rfl ?_
    obtain ⟨hin3, h⟩ := h
    refine Z_iald (len := 4) (q := 127) (by decide +kernel) hsr2 har2 hin3 rfl ?_
    refine Z_iload_n (a := 3) (q := 128) (by decide +kernel) rfl rfl ?_
    refine Z_isub (q := 129) (by decide +kernel) rfl ?_
    refine Z_iast (len := 4) (q := 130) (by decide +kernel) hsr2 har2 hin3 rfl ?_
    replace h := h _ rfl
    refine Z_iinc (a := 4) (b := 1) (v := _ + 1) (loc2 := [_, _, _, _, _]) (q := 133) (by decide +kernel) rfl (zinc _) (by decide +kernel) rfl rfl rfl ?_
    refine Z_goto (q := 108) (off := -25) (by decide +kernel) (by decide) ?_
    exact h
theorem eX4_orderParts {d : Nat} (x1 l_x1 : Nat) (x2 l_x2 : Nat) {iv : zI} {rv : zR} {lv : zJ} {Q : zI → zR → zJ → Prop} (h : Zv mX4_orderParts (d + 1) 0 [some (.ref 130), some (.ref x1), some (.ref x2), none, none, none, none] [] iv rv lv Q) : Cv mX4_orderParts (d + 1) [.ref 130, .ref x1, .ref x2] iv rv lv Q := Cv.of (by decide +kernel) (by simp [Value.category]) (Nat.le_of_ble_eq_true rfl) rfl h
set_option maxRecDepth 4000 in
theorem bX4_orderParts_0 {d : Nat} (x1 l_x1 : Nat) (x2 l_x2 : Nat) {iv : zI} {rv : zR} {lv : zJ} {Q : zI → zR → zJ → Prop} (hT : zTop rv) (s_x1 : zSH x1 = (0, l_x1)) (a_x1 : x1 < 200) (s_x2 : zSH x2 = (0, l_x2)) (a_x2 : x2 < 200)
    (h : Zv mX4_orderParts (d + 1) 2 [some (.ref 130), some (.ref x1), some (.ref x2), some (.int (1 : Int32)), none, none, none] [] iv rv lv Q) :
    Zv mX4_orderParts (d + 1) 0 [some (.ref 130), some (.ref x1), some (.ref x2), none, none, none, none] [] iv rv lv Q := by
  unfold Zv
  refine Z_iconst (a := 1) (v := 1) (q := 1) (by decide +kernel) (by decide +kernel) rfl ?_
  refine Z_istore_n (a := 3) (loc2 := [_, _, _, _, _, _, _]) (q := 2) (by decide +kernel) (by decide +kernel) rfl rfl rfl ?_
  exact h
set_option maxRecDepth 4000 in
theorem bX4_orderParts_2 {d : Nat} (x1 l_x1 : Nat) (x2 l_x2 : Nat) (x3 : Int32) {iv : zI} {rv : zR} {lv : zJ} {Q : zI → zR → zJ → Prop} (hT : zTop rv) (s_x1 : zSH x1 = (0, l_x1)) (a_x1 : x1 < 200) (s_x2 : zSH x2 = (0, l_x2)) (a_x2 : x2 < 200)
    (h : ((iv 130 4) ≤ x3 → Q iv rv lv) ∧ (¬ (iv 130 4) ≤ x3 → vp_in x3 l_x1 ∧ (vp_in x3 l_x2 ∧ (Zv mX4_orderParts (d + 1) 23 [some (.ref 130), some (.ref x1), some (.ref x2), some (.int x3), some (.int (iv x1 x3.toNatClampNeg)), some (.int (iv x2 x3.toNatClampNeg)), some (.int x3)] [] iv rv lv Q)))) :
    Zv mX4_orderParts (d + 1) 2 [some (.ref 130), some (.ref x1), some (.ref x2), some (.int x3), none, none, none] [] iv rv lv Q := by
  unfold Zv
  refine Z_iload_n (a := 3) (q := 3) (by decide +kernel) rfl rfl ?_
  refine Z_aload_n (a := 0) (q := 4) (by decide +kernel) rfl rfl ?_
  refine g4_4 (idx := 27) (q := 7) (by decide +kernel) fX4_27 rfl (by decide) rfl ?_
  refine Z_icmp_ge (t := 111) (off := 104) (q := 10) (by decide +kernel) (by decide) rfl (fun hc => ?_) (fun hc => ?_)
  · replace h := h.1 hc
    exact Z_vret (by decide +kernel) rfl rfl ⟨rfl, h⟩
  · replace h := h.2 hc
    refine Z_aload_n (a := 1) (q := 11) (by decide +kernel) rfl rfl ?_
    refine Z_iload_n (a := 3) (q := 12) (by decide +kernel) rfl rfl ?_
    obtain ⟨hin1, h⟩ := h
    refine Z_iald (len := l_x1) (q := 13) (by decide +kernel) s_x1 a_x1 hin1 rfl ?_
    refine Z_istore (a := 4) (loc2 := [_, _, _, _, _, _, _]) (q := 15) (by decide +kernel) (by decide +kernel) rfl rfl rfl ?_
    refine Z_aload_n (a := 2) (q := 16) (by decide +kernel) rfl rfl ?_
    refine Z_iload_n (a := 3) (q := 17) (by decide +kernel) rfl rfl ?_
    obtain ⟨hin2, h⟩ := h
    refine Z_iald (len := l_x2) (q := 18) (by decide +kernel) s_x2 a_x2 hin2 rfl ?_
    refine Z_istore (a := 5) (loc2 := [_, _, _, _, _, _, _]) (q := 20) (by decide +kernel) (by decide +kernel) rfl rfl rfl ?_
    refine Z_iload_n (a := 3) (q := 21) (by decide +kernel) rfl rfl ?_
    refine Z_istore (a := 6) (loc2 := [_, _, _, _, _, _, _]) (q := 23) (by decide +kernel) (by decide +kernel) rfl rfl rfl ?_
    exact h
set_option maxRecDepth 4000 in
theorem bX4_orderParts_23 {d : Nat} (x1 l_x1 : Nat) (x2 l_x2 : Nat) (x3 : Int32) (x4 : Int32) (x5 : Int32) (x6 : Int32) {iv : zI} {rv : zR} {lv : zJ} {Q : zI → zR → zJ → Prop} (hT : zTop rv) (s_x1 : zSH x1 = (0, l_x1)) (a_x1 : x1 < 200) (s_x2 : zSH x2 = (0, l_x2)) (a_x2 : x2 < 200)
    (h : (x6 ≤ 0 → vp_in x6 l_x1 ∧ (∀ iv2 : zI, iv2 = zu iv x1 x6.toNatClampNeg x4 → vp_in x6 l_x2 ∧ (∀ iv4 : zI, iv4 = zu iv2 x2 x6.toNatClampNeg x5 → Zv mX4_orderParts (d + 1) 2 [some (.ref 130), some (.ref x1), some (.ref x2), some (.int (x3 + 1)), none, none, none] [] iv4 rv lv Q))) ∧ (¬ x6 ≤ 0 → vp_in (x6 - (1 : Int32)) l_x1 ∧ (((iv x1 (x6 - (1 : Int32)).toNatClampNeg) < x4 → Zv mX4_orderParts (d + 1) 67 [some (.ref 130), some (.ref x1), some (.ref x2), some (.int x3), some (.int x4), some (.int x5), some (.int x6)] [] iv rv lv Q) ∧ (¬ (iv x1 (x6 - (1 : Int32)).toNatClampNeg) < x4 → (¬ x4 = (iv x1 (x6 - (1 : Int32)).toNatClampNeg) → vp_in x6 l_x1 ∧ (∀ iv7 : zI, iv7 = zu iv x1 x6.toNatClampNeg x4 → vp_in x6 l_x2 ∧ (∀ iv9 : zI, iv9 = zu iv7 x2 x6.toNatClampNeg x5 → Zv mX4_orderParts (d + 1) 2 [some (.ref 130), some (.ref x1), some (.ref x2), some (.int (x3 + 1)), none, none, none] [] iv9 rv lv Q))) ∧ (x4 = (iv x1 (x6 - (1 : Int32)).toNatClampNeg) → ∃ Q10 : Int32 → zI → zR → zJ → Prop, Ci mX10_leastMember d [.int x5] iv rv lv Q10 ∧ ∀ (v15 : Int32) (iv11 : zI) (rv12 : zR) (lv13 : zJ), Q10 v15 iv11 rv12 lv13 → zTop rv12 ∧ (vp_in (x6 - (1 : Int32)) l_x2 ∧ (∃ Q17 : Int32 → zI → zR → zJ → Prop, Ci mX10_leastMember d [.int (iv11 x2 (x6 - (1 : Int32)).toNatClampNeg)] iv11 rv12 lv13 Q17 ∧ ∀ (v22 : Int32) (iv18 : zI) (rv19 : zR) (lv20 : zJ), Q17 v22 iv18 rv19 lv20 → zTop rv19 ∧ ((v22 ≤ v15 → vp_in x6 l_x1 ∧ (∀ iv24 : zI, iv24 = zu iv18 x1 x6.toNatClampNeg x4 → vp_in x6 l_x2 ∧ (∀ iv26 : zI, iv26 = zu iv24 x2 x6.toNatClampNeg x5 → Zv mX4_orderParts (d + 1) 2 [some (.ref 130), some (.ref x1), some (.ref x2), some (.int (x3 + 1)), none, none, none] [] iv26 rv19 lv20 Q))) ∧ (¬ v22 ≤ v15 → Zv mX4_orderParts (d + 1) 67 [some (.ref 130), some (.ref x1), some (.ref x2), some (.int x3), some (.int x4), some (.int x5), some (.int x6)] [] iv18 rv19 lv20 Q))))))))) :
    Zv mX4_orderParts (d + 1) 23 [some (.ref 130), some (.ref x1), some (.ref x2), some (.int x3), some (.int x4), some (.int x5), some (.int x6)] [] iv rv lv Q := by
  unfold Zv
  refine Z_iload (a := 6) (q := 25) (by decide +kernel) rfl rfl ?_
  refine Z_if_le (t := 93) (off := 68) (q := 28) (by decide +kernel) (by decide) rfl (fun hc => ?_) (fun hc => ?_)
  · replace h := h.1 hc
    refine Z_aload_n (a := 1) (q := 94) (by decide +kernel) rfl rfl ?_
    refine Z_iload (a := 6) (q := 96) (by decide +kernel) rfl rfl ?_
    refine Z_iload (a := 4) (q := 98) (by decide +kernel) rfl rfl ?_
    obtain ⟨hin1, h⟩ := h
    refine Z_iast (len := l_x1) (q := 99) (by decide +kernel) s_x1 a_x1 hin1 rfl ?_
    replace h := h _ rfl
    refine Z_aload_n (a := 2) (q := 100) (by decide +kernel) rfl rfl ?_
    refine Z_iload (a := 6) (q := 102) (by decide +kernel) rfl rfl ?_
    refine Z_iload (a := 5) (q := 104) (by decide +kernel) rfl rfl ?_
    obtain ⟨hin3, h⟩ := h
    refine Z_iast (len := l_x2) (q := 105) (by decide +kernel) s_x2 a_x2 hin3 rfl ?_
    replace h := h _ rfl
    refine Z_iinc (a := 3) (b := 1) (v := _ + 1) (loc2 := [_, _, _, _, _, _, _]) (q := 108) (by decide +kernel) rfl (zinc _) (by decide +kernel) rfl rfl rfl ?_
    refine Z_goto (q := 2) (off := -106) (by decide +kernel) (by decide) ?_
    exact Z_forget h (And.intro rfl (And.intro rfl (And.intro rfl (And.intro rfl trivial))))
  · replace h := h.2 hc
    refine Z_iload (a := 4) (q := 30) (by decide +kernel) rfl rfl ?_
    refine Z_aload_n (a := 1) (q := 31) (by decide +kernel) rfl rfl ?_
    refine Z_iload (a := 6) (q := 33) (by decide +kernel) rfl rfl ?_
    refine Z_iconst (a := 1) (v := 1) (q := 34) (by decide +kernel) (by decide +kernel) rfl ?_
    refine Z_isub (q := 35) (by decide +kernel) rfl ?_
    obtain ⟨hin5, h⟩ := h
    refine Z_iald (len := l_x1) (q := 36) (by decide +kernel) s_x1 a_x1 hin5 rfl ?_
    refine Z_icmp_gt (t := 67) (off := 31) (q := 39) (by decide +kernel) (by decide) rfl (fun hc => ?_) (fun hc => ?_)
    · replace h := h.1 hc
      exact h
    · replace h := h.2 hc
      refine Z_iload (a := 4) (q := 41) (by decide +kernel) rfl rfl ?_
      refine Z_aload_n (a := 1) (q := 42) (by decide +kernel) rfl rfl ?_
      refine Z_iload (a := 6) (q := 44) (by decide +kernel) rfl rfl ?_
      refine Z_iconst (a := 1) (v := 1) (q := 45) (by decide +kernel) (by decide +kernel) rfl ?_
      refine Z_isub (q := 46) (by decide +kernel) rfl ?_
      refine Z_iald (len := l_x1) (q := 47) (by decide +kernel) s_x1 a_x1 hin5 rfl ?_
      refine Z_icmp_ne (t := 93) (off := 46) (q := 50) (by decide +kernel) (by decide) rfl (fun hc => ?_) (fun hc => ?_)
      · replace h := h.1 hc
        refine Z_aload_n (a := 1) (q := 94) (by decide +kernel) rfl rfl ?_
        refine Z_iload (a := 6) (q := 96) (by decide +kernel) rfl rfl ?_
        refine Z_iload (a := 4) (q := 98) (by decide +kernel) rfl rfl ?_
        obtain ⟨hin6, h⟩ := h
        refine Z_iast (len := l_x1) (q := 99) (by decide +kernel) s_x1 a_x1 hin6 rfl ?_
        replace h := h _ rfl
        refine Z_aload_n (a := 2) (q := 100) (by decide +kernel) rfl rfl ?_
        refine Z_iload (a := 6) (q := 102) (by decide +kernel) rfl rfl ?_
        refine Z_iload (a := 5) (q := 104) (by decide +kernel) rfl rfl ?_
        obtain ⟨hin8, h⟩ := h
        refine Z_iast (len := l_x2) (q := 105) (by decide +kernel) s_x2 a_x2 hin8 rfl ?_
        replace h := h _ rfl
        refine Z_iinc (a := 3) (b := 1) (v := _ + 1) (loc2 := [_, _, _, _, _, _, _]) (q := 108) (by decide +kernel) rfl (zinc _) (by decide +kernel) rfl rfl rfl ?_
        refine Z_goto (q := 2) (off := -106) (by decide +kernel) (by decide) ?_
        exact Z_forget h (And.intro rfl (And.intro rfl (And.intro rfl (And.intro rfl trivial))))
      · replace h := h.2 hc
        refine Z_iload (a := 5) (q := 52) (by decide +kernel) rfl rfl ?_
        obtain ⟨Q10, hm, h⟩ := h
        refine Z_callSNi (M2 := mX10_leastMember) (idx := 59) (d2 := d) (As := [.int _]) (q := 55) (by decide +kernel) kX10_leastMember nX4_59 rfl rfl (by decide +kernel) (Nat.le_of_ble_eq_true rfl) (Nat.le_refl _) hm rfl (fun v15 iv11 rv12 lv13 hq => ?_)
        obtain ⟨hT14, h⟩ := h v15 iv11 rv12 lv13 hq
        refine Z_aload_n (a := 2) (q := 56) (by decide +kernel) rfl rfl ?_
        refine Z_iload (a := 6) (q := 58) (by decide +kernel) rfl rfl ?_
        refine Z_iconst (a := 1) (v := 1) (q := 59) (by decide +kernel) (by decide +kernel) rfl ?_
        refine Z_isub (q := 60) (by decide +kernel) rfl ?_
        obtain ⟨hin16, h⟩ := h
        refine Z_iald (len := l_x2) (q := 61) (by decide +kernel) s_x2 a_x2 hin16 rfl ?_
        obtain ⟨Q17, hm, h⟩ := h
        refine Z_callSNi (M2 := mX10_leastMember) (idx := 59) (d2 := d) (As := [.int _]) (q := 64) (by decide +kernel) kX10_leastMember nX4_59 rfl rfl (by decide +kernel) (Nat.le_of_ble_eq_true rfl) (Nat.le_refl _) hm rfl (fun v22 iv18 rv19 lv20 hq => ?_)
        obtain ⟨hT21, h⟩ := h v22 iv18 rv19 lv20 hq
        refine Z_icmp_ge (t := 93) (off := 29) (q := 67) (by decide +kernel) (by decide) rfl (fun hc => ?_) (fun hc => ?_)
        · replace h := h.1 hc
          refine Z_aload_n (a := 1) (q := 94) (by decide +kernel) rfl rfl ?_
          refine Z_iload (a := 6) (q := 96) (by decide +kernel) rfl rfl ?_
          refine Z_iload (a := 4) (q := 98) (by decide +kernel) rfl rfl ?_
          obtain ⟨hin23, h⟩ := h
          refine Z_iast (len := l_x1) (q := 99) (by decide +kernel) s_x1 a_x1 hin23 rfl ?_
          replace h := h _ rfl
          refine Z_aload_n (a := 2) (q := 100) (by decide +kernel) rfl rfl ?_
          refine Z_iload (a := 6) (q := 102) (by decide +kernel) rfl rfl ?_
          refine Z_iload (a := 5) (q := 104) (by decide +kernel) rfl rfl ?_
          obtain ⟨hin25, h⟩ := h
          refine Z_iast (len := l_x2) (q := 105) (by decide +kernel) s_x2 a_x2 hin25 rfl ?_
          replace h := h _ rfl
          refine Z_iinc (a := 3) (b := 1) (v := _ + 1) (loc2 := [_, _, _, _, _, _, _]) (q := 108) (by decide +kernel) rfl (zinc _) (by decide +kernel) rfl rfl rfl ?_
          refine Z_goto (q := 2) (off := -106) (by decide +kernel) (by decide) ?_
          exact Z_forget h (And.intro rfl (And.intro rfl (And.intro rfl (And.intro rfl trivial))))
        · replace h := h.2 hc
          exact h
set_option maxRecDepth 4000 in
theorem bX4_orderParts_67 {d : Nat} (x1 l_x1 : Nat) (x2 l_x2 : Nat) (x3 : Int32) (x4 : Int32) (x5 : Int32) (x6 : Int32) {iv : zI} {rv : zR} {lv : zJ} {Q : zI → zR → zJ → Prop} (hT : zTop rv) (s_x1 : zSH x1 = (0, l_x1)) (a_x1 : x1 < 200) (s_x2 : zSH x2 = (0, l_x2)) (a_x2 : x2 < 200)
    (h : vp_in (x6 - (1 : Int32)) l_x1 ∧ (vp_in x6 l_x1 ∧ (∀ iv3 : zI, iv3 = zu iv x1 x6.toNatClampNeg (iv x1 (x6 - (1 : Int32)).toNatClampNeg) → vp_in (x6 - (1 : Int32)) l_x2 ∧ (vp_in x6 l_x2 ∧ (∀ iv6 : zI, iv6 = zu iv3 x2 x6.toNatClampNeg (iv3 x2 (x6 - (1 : Int32)).toNatClampNeg) → Zv mX4_orderParts (d + 1) 23 [some (.ref 130), some (.ref x1), some (.ref x2), some (.int x3), some (.int x4), some (.int x5), some (.int (x6 + -1))] [] iv6 rv lv Q))))) :
    Zv mX4_orderParts (d + 1) 67 [some (.ref 130), some (.ref x1), some (.ref x2), some (.int x3), some (.int x4), some (.int x5), some (.int x6)] [] iv rv lv Q := by
  unfold Zv
  refine Z_aload_n (a := 1) (q := 68) (by decide +kernel) rfl rfl ?_
  refine Z_iload (a := 6) (q := 70) (by decide +kernel) rfl rfl ?_
  refine Z_aload_n (a := 1) (q := 71) (by decide +kernel) rfl rfl ?_
  refine Z_iload (a := 6) (q := 73) (by decide +kernel) rfl rfl ?_
  refine Z_iconst (a := 1) (v := 1) (q := 74) (by decide +kernel) (by decide +kernel) rfl ?_
  refine Z_isub (q := 75) (by decide +kernel) rfl ?_
  obtain ⟨hin1, h⟩ := h
  refine Z_iald (len := l_x1) (q := 76) (by decide +kernel) s_x1 a_x1 hin1 rfl ?_
  obtain ⟨hin2, h⟩ := h
  refine Z_iast (len := l_x1) (q := 77) (by decide +kernel) s_x1 a_x1 hin2 rfl ?_
  replace h := h _ rfl
  refine Z_aload_n (a := 2) (q := 78) (by decide +kernel) rfl rfl ?_
  refine Z_iload (a := 6) (q := 80) (by decide +kernel) rfl rfl ?_
  refine Z_aload_n (a := 2) (q := 81) (by decide +kernel) rfl rfl ?_
  refine Z_iload (a := 6) (q := 83) (by decide +kernel) rfl rfl ?_
  refine Z_iconst (a := 1) (v := 1) (q := 84) (by decide +kernel) (by decide +kernel) rfl ?_
  refine Z_isub (q := 85) (by decide +kernel) rfl ?_
  obtain ⟨hin4, h⟩ := h
  refine Z_iald (len := l_x2) (q := 86) (by decide +kernel) s_x2 a_x2 hin4 rfl ?_
  obtain ⟨hin5, h⟩ := h
  refine Z_iast (len := l_x2) (q := 87) (by decide +kernel) s_x2 a_x2 hin5 rfl ?_
  replace h := h _ rfl
  refine Z_iinc (a := 6) (b := -1) (v := _ + -1) (loc2 := [_, _, _, _, _, _, _]) (q := 90) (by decide +kernel) rfl (zdec _) (by decide +kernel) rfl rfl rfl ?_
  refine Z_goto (q := 23) (off := -67) (by decide +kernel) (by decide) ?_
  exact h
