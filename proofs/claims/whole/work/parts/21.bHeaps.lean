/-! BLOCKS of X10, by program. -/
theorem eX10_feed {d : Nat} (x1 : Int32) (x2 : Int32) (x3 : Int32) (x4 : Int32) (x5 : Int32) {iv : zI} {rv : zR} {lv : zJ} {Q : Int32 → zI → zR → zJ → Prop} (h : Zi mX10_feed (d + 1) 0 [some (.ref 0), some (.int x1), some (.int x2), some (.int x3), some (.int x4), some (.int x5)] [] iv rv lv Q) : Ci mX10_feed (d + 1) [.ref 0, .int x1, .int x2, .int x3, .int x4, .int x5] iv rv lv Q := Ci.of (by decide +kernel) (by simp [Value.category]) (Nat.le_of_ble_eq_true rfl) rfl h
set_option maxRecDepth 4000 in
theorem bX10_feed_0 {d : Nat} (x1 : Int32) (x2 : Int32) (x3 : Int32) (x4 : Int32) (x5 : Int32) {iv : zI} {rv : zR} {lv : zJ} {Q : Int32 → zI → zR → zJ → Prop} (hT : zTop rv) 
    (h : (((iv 1 0) + (20 : Int32)) ≤ (300 : Int32) → ∃ Q1 : zI → zR → zJ → Prop, Cv mX6_putFour d [.ref 1, .int x1] iv rv lv Q1 ∧ ∀ (iv2 : zI) (rv3 : zR) (lv4 : zJ), Q1 iv2 rv3 lv4 → zTop rv3 ∧ (∃ Q7 : zI → zR → zJ → Prop, Cv mX6_putFour d [.ref 1, .int x2] iv2 rv3 lv4 Q7 ∧ ∀ (iv8 : zI) (rv9 : zR) (lv10 : zJ), Q7 iv8 rv9 lv10 → zTop rv9 ∧ (∃ Q13 : zI → zR → zJ → Prop, Cv mX6_putFour d [.ref 1, .int x3] iv8 rv9 lv10 Q13 ∧ ∀ (iv14 : zI) (rv15 : zR) (lv16 : zJ), Q13 iv14 rv15 lv16 → zTop rv15 ∧ (∃ Q19 : zI → zR → zJ → Prop, Cv mX6_putFour d [.ref 1, .int x4] iv14 rv15 lv16 Q19 ∧ ∀ (iv20 : zI) (rv21 : zR) (lv22 : zJ), Q19 iv20 rv21 lv22 → zTop rv21 ∧ (∃ Q25 : zI → zR → zJ → Prop, Cv mX6_putFour d [.ref 1, .int x5] iv20 rv21 lv22 Q25 ∧ ∀ (iv26 : zI) (rv27 : zR) (lv28 : zJ), Q25 iv26 rv27 lv28 → zTop rv27 ∧ (Q (iv26 1 0) iv26 rv27 lv28)))))) ∧ (¬ ((iv 1 0) + (20 : Int32)) ≤ (300 : Int32) → Q (-1 : Int32) iv rv lv)) :
    Zi mX10_feed (d + 1) 0 [some (.ref 0), some (.int x1), some (.int x2), some (.int x3), some (.int x4), some (.int x5)] [] iv rv lv Q := by
  unfold Zi
  refine Z_aload_n (a := 0) (q := 1) (by decide +kernel) rfl rfl ?_
  refine g10_0 (idx := 10) (q := 4) (by decide +kernel) fX10_10 rfl (by decide) (t10_0 hT) rfl ?_
  refine g6_0 (idx := 94) (q := 7) (by decide +kernel) fX10_94 rfl (by decide) rfl ?_
  refine Z_bipush (a := 20) (v := 20) (q := 9) (by decide +kernel) (by decide +kernel) rfl ?_
  refine Z_iadd (q := 10) (by decide +kernel) rfl ?_
  refine Z_sipush (a := 300) (v := 300) (q := 13) (by decide +kernel) (by decide +kernel) rfl ?_
  refine Z_icmp_le (t := 18) (off := 5) (q := 16) (by decide +kernel) (by decide) rfl (fun hc => ?_) (fun hc => ?_)
  · replace h := h.1 hc
    refine Z_aload_n (a := 0) (q := 19) (by decide +kernel) rfl rfl ?_
    refine g10_0 (idx := 10) (q := 22) (by decide +kernel) fX10_10 rfl (by decide) (t10_0 hT) rfl ?_
    refine Z_iload_n (a := 1) (q := 23) (by decide +kernel) rfl rfl ?_
    obtain ⟨Q1, hm, h⟩ := h
    refine Z_callVv (M2 := mX6_putFour) (idx := 97) (d2 := d) (ci := 6) (As := [.int _]) (q := 26) (by decide +kernel) kX6_putFour lX10_97 rfl rfl (by decide) rfl rfl (by decide +kernel) (Nat.le_of_ble_eq_true rfl) (Nat.le_refl _) hm rfl (fun iv2 rv3 lv4 hq => ?_)
    obtain ⟨hT5, h⟩ := h iv2 rv3 lv4 hq
    refine Z_aload_n (a := 0) (q := 27) (by decide +kernel) rfl rfl ?_
    refine g10_0 (idx := 10) (q := 30) (by decide +kernel) fX10_10 rfl (by decide) (t10_0 hT5) rfl ?_
    refine Z_iload_n (a := 2) (q := 31) (by decide +kernel) rfl rfl ?_
    obtain ⟨Q7, hm, h⟩ := h
    refine Z_callVv (M2 := mX6_putFour) (idx := 97) (d2 := d) (ci := 6) (As := [.int _]) (q := 34) (by decide +kernel) kX6_putFour lX10_97 rfl rfl (by decide) rfl rfl (by decide +kernel) (Nat.le_of_ble_eq_true rfl) (Nat.le_refl _) hm rfl (fun iv8 rv9 lv10 hq => ?_)
    obtain ⟨hT11, h⟩ := h iv8 rv9 lv10 hq
    refine Z_aload_n (a := 0) (q := 35) (by decide +kernel) rfl rfl ?_
    refine g10_0 (idx := 10) (q := 38) (by decide +kernel) fX10_10 rfl (by decide) (t10_0 hT11) rfl ?_
    refine Z_iload_n (a := 3) (q := 39) (by decide +kernel) rfl rfl ?_
    obtain ⟨Q13, hm, h⟩ := h
    refine Z_callVv (M2 := mX6_putFour) (idx := 97) (d2 := d) (ci := 6) (As := [.int _]) (q := 42) (by decide +kernel) kX6_putFour lX10_97 rfl rfl (by decide) rfl rfl (by decide +kernel) (Nat.le_of_ble_eq_true rfl) (Nat.le_refl _) hm rfl (fun iv14 rv15 lv16 hq => ?_)
    obtain ⟨hT17, h⟩ := h iv14 rv15 lv16 hq
    refine Z_aload_n (a := 0) (q := 43) (by decide +kernel) rfl rfl ?_
    refine g10_0 (idx := 10) (q := 46) (by decide +kernel) fX10_10 rfl (by decide) (t10_0 hT17) rfl ?_
    refine Z_iload (a := 4) (q := 48) (by decide +kernel) rfl rfl ?_
    obtain ⟨Q19, hm, h⟩ := h
    refine Z_callVv (M2 := mX6_putFour) (idx := 97) (d2 := d) (ci := 6) (As := [.int _]) (q := 51) (by decide +kernel) kX6_putFour lX10_97 rfl rfl (by decide) rfl rfl (by decide +kernel) (Nat.le_of_ble_eq_true rfl) (Nat.le_refl _) hm rfl (fun iv20 rv21 lv22 hq => ?_)
    obtain ⟨hT23, h⟩ := h iv20 rv21 lv22 hq
    refine Z_aload_n (a := 0) (q := 52) (by decide +kernel) rfl rfl ?_
    refine g10_0 (idx := 10) (q := 55) (by decide +kernel) fX10_10 rfl (by decide) (t10_0 hT23) rfl ?_
    refine Z_iload (a := 5) (q := 57) (by decide +kernel) rfl rfl ?_
    obtain ⟨Q25, hm, h⟩ := h
    refine Z_callVv (M2 := mX6_putFour) (idx := 97) (d2 := d) (ci := 6) (As := [.int _]) (q := 60) (by decide +kernel) kX6_putFour lX10_97 rfl rfl (by decide) rfl rfl (by decide +kernel) (Nat.le_of_ble_eq_true rfl) (Nat.le_refl _) hm rfl (fun iv26 rv27 lv28 hq => ?_)
    obtain ⟨hT29, h⟩ := h iv26 rv27 lv28 hq
    refine Z_aload_n (a := 0) (q := 61) (by decide +kernel) rfl rfl ?_
    refine g10_0 (idx := 10) (q := 64) (by decide +kernel) fX10_10 rfl (by decide) (t10_0 hT29) rfl ?_
    refine g6_0 (idx := 94) (q := 67) (by decide +kernel) fX10_94 rfl (by decide) rfl ?_
    exact Z_iret (ty := .int) (by decide +kernel) rfl rfl rfl ⟨_, rfl, h⟩
  · replace h := h.2 hc
    refine Z_iconst (a := -1) (v := -1) (q := 17) (by decide +kernel) (by decide +kernel) rfl ?_
    exact Z_iret (ty := .int) (by decide +kernel) rfl rfl rfl ⟨_, rfl, h⟩
theorem eX10_text {d : Nat} (x1 : Int32) {iv : zI} {rv : zR} {lv : zJ} {Q : Int32 → zI → zR → zJ → Prop} (h : Zi mX10_text (d + 1) 0 [some (.ref 0), some (.int x1), none] [] iv rv lv Q) : Ci mX10_text (d + 1) [.ref 0, .int x1] iv rv lv Q := Ci.of (by decide +kernel) (by simp [Value.category]) (Nat.le_of_ble_eq_true rfl) rfl h
set_option maxRecDepth 4000 in
theorem bX10_text_0 {d : Nat} (x1 : Int32) {iv : zI} {rv : zR} {lv : zJ} {Q : Int32 → zI → zR → zJ → Prop} (hT : zTop rv) 
    (h : (x1 < 0 → ∃ Q1 : Int32 → zI → zR → zJ → Prop, Ci mX10_refuse d [.ref 0, .int (2 : Int32)] iv rv lv Q1 ∧ ∀ (v6 : Int32) (iv2 : zI) (rv3 : zR) (lv4 : zJ), Q1 v6 iv2 rv3 lv4 → zTop rv3 ∧ (Q v6 iv2 rv3 lv4)) ∧ (¬ x1 < 0 → (x1 ≤ (iv 1 0) → ∃ Q7 : Int32 → zI → zR → zJ → Prop, Ci mX6_readText d [.ref 1, .int x1] iv rv lv Q7 ∧ ∀ (v12 : Int32) (iv8 : zI) (rv9 : zR) (lv10 : zJ), Q7 v12 iv8 rv9 lv10 → zTop rv9 ∧ (∀ iv13 : zI, iv13 = zu iv8 0 13 (iv8 1 2) → (¬ v12 = 0 → ∃ Q14 : zI → zR → zJ → Prop, Cv mX9_copyFrom d [.ref 8, .ref 2] iv13 rv9 lv10 Q14 ∧ ∀ (iv15 : zI) (rv16 : zR) (lv17 : zJ), Q14 iv15 rv16 lv17 → zTop rv16 ∧ (∃ Q20 : zI → zR → zJ → Prop, Cv mX2_forgetActs d [.ref 13] iv15 rv16 lv17 Q20 ∧ ∀ (iv21 : zI) (rv22 : zR) (lv23 : zJ), Q20 iv21 rv22 lv23 → zTop rv22 ∧ (∃ Q26 : zI → zR → zJ → Prop, Cv mX2_forgetImages d [.ref 13] iv21 rv22 lv23 Q26 ∧ ∀ (iv27 : zI) (rv28 : zR) (lv29 : zJ), Q26 iv27 rv28 lv29 → zTop rv28 ∧ (∃ Q32 : zI → zR → zJ → Prop, Cv mX10_changed d [.ref 0] iv27 rv28 lv29 Q32 ∧ ∀ (iv33 : zI) (rv34 : zR) (lv35 : zJ), Q32 iv33 rv34 lv35 → zTop rv34 ∧ (∃ Q38 : Int32 → zI → zR → zJ → Prop, Ci mX10_answer d [.ref 0, .int (iv33 8 0)] iv33 rv34 lv35 Q38 ∧ ∀ (v43 : Int32) (iv39 : zI) (rv40 : zR) (lv41 : zJ), Q38 v43 iv39 rv40 lv41 → zTop rv40 ∧ (Q v43 iv39 rv40 lv41)))))) ∧ (v12 = 0 → ∃ Q44 : Int32 → zI → zR → zJ → Prop, Ci mX10_refuse d [.ref 0, .int (4 : Int32)] iv13 rv9 lv10 Q44 ∧ ∀ (v49 : Int32) (iv45 : zI) (rv46 : zR) (lv47 : zJ), Q44 v49 iv45 rv46 lv47 → zTop rv46 ∧ (∀ iv50 : zI, iv50 = zu iv45 0 14 (iv45 1 3) → Q (-1 : Int32) iv50 rv46 lv47)))) ∧ (¬ x1 ≤ (iv 1 0) → ∃ Q51 : Int32 → zI → zR → zJ → Prop, Ci mX10_refuse d [.ref 0, .int (2 : Int32)] iv rv lv Q51 ∧ ∀ (v56 : Int32) (iv52 : zI) (rv53 : zR) (lv54 : zJ), Q51 v56 iv52 rv53 lv54 → zTop rv53 ∧ (Q v56 iv52 rv53 lv54)))) :
    Zi mX10_text (d + 1) 0 [some (.ref 0), some (.int x1), none] [] iv rv lv Q := by
  unfold Zi
  refine Z_iload_n (a := 1) (q := 1) (by decide +kernel) rfl rfl ?_
  refine Z_if_lt (t := 15) (off := 14) (q := 4) (by decide +kernel) (by decide) rfl (fun hc => ?_) (fun hc => ?_)
  · replace h := h.1 hc
    refine Z_aload_n (a := 0) (q := 16) (by decide +kernel) rfl rfl ?_
    refine Z_iconst (a := 2) (v := 2) (q := 17) (by decide +kernel) (by decide +kernel) rfl ?_
    obtain ⟨Q1, hm, h⟩ := h
    refine Z_callVi (M2 := mX10_refuse) (idx := 100) (d2 := d) (ci := 10) (As := [.int _]) (q := 20) (by decide +kernel) kX10_refuse lX10_100 rfl rfl (by decide) rfl rfl (by decide +kernel) (Nat.le_of_ble_eq_true rfl) (Nat.le_refl _) hm rfl (fun v6 iv2 rv3 lv4 hq => ?_)
    obtain ⟨hT5, h⟩ := h v6 iv2 rv3 lv4 hq
    exact Z_iret (ty := .int) (by decide +kernel) rfl rfl rfl ⟨_, rfl, h⟩
  · replace h := h.2 hc
    refine Z_iload_n (a := 1) (q := 5) (by decide +kernel) rfl rfl ?_
    refine Z_aload_n (a := 0) (q := 6) (by decide +kernel) rfl rfl ?_
    refine g10_0 (idx := 10) (q := 9) (by decide +kernel) fX10_10 rfl (by decide) (t10_0 hT) rfl ?_
    refine g6_0 (idx := 94) (q := 12) (by decide +kernel) fX10_94 rfl (by decide) rfl ?_
    refine Z_icmp_le (t := 21) (off := 9) (q := 15) (by decide +kernel) (by decide) rfl (fun hc => ?_) (fun hc => ?_)
    · replace h := h.1 hc
      refine Z_aload_n (a := 0) (q := 22) (by decide +kernel) rfl rfl ?_
      refine g10_0 (idx := 10) (q := 25) (by decide +kernel) fX10_10 rfl (by decide) (t10_0 hT) rfl ?_
      refine Z_iload_n (a := 1) (q := 26) (by decide +kernel) rfl rfl ?_
      obtain ⟨Q7, hm, h⟩ := h
      refine Z_callVi (M2 := mX6_readText) (idx := 104) (d2 := d) (ci := 6) (As := [.int _]) (q := 29) (by decide +kernel) kX6_readText lX10_104 rfl rfl (by decide) rfl rfl (by decide +kernel) (Nat.le_of_ble_eq_true rfl) (Nat.le_refl _) hm rfl (fun v12 iv8 rv9 lv10 hq => ?_)
      obtain ⟨hT11, h⟩ := h v12 iv8 rv9 lv10 hq
      refine Z_istore_n (a := 2) (loc2 := [_, _, _]) (q := 30) (by decide +kernel) (by decide +kernel) rfl rfl rfl ?_
      refine Z_aload_n (a := 0) (q := 31) (by decide +kernel) rfl rfl ?_
      refine Z_aload_n (a := 0) (q := 32) (by decide +kernel) rfl rfl ?_
      refine g10_0 (idx := 10) (q := 35) (by decide +kernel) fX10_10 rfl (by decide) (t10_0 hT11) rfl ?_
      refine g6_2 (idx := 108) (q := 38) (by decide +kernel) fX10_108 rfl (by decide) rfl ?_
      refine p10_13 (idx := 85) (q := 41) (by decide +kernel) fX10_85 rfl (by decide) rfl ?_
      replace h := h _ rfl
      refine Z_iload_n (a := 2) (q := 42) (by decide +kernel) rfl rfl ?_
      refine Z_if_ne (t := 64) (off := 22) (q := 45) (by decide +kernel) (by decide) rfl (fun hc => ?_) (fun hc => ?_)
      · replace h := h.1 hc
        refine Z_aload_n (a := 0) (q := 65) (by decide +kernel) rfl rfl ?_
        refine g10_1 (idx := 19) (q := 68) (by decide +kernel) fX10_19 rfl (by decide) (t10_1 hT11) rfl ?_
        refine Z_aload_n (a := 0) (q := 69) (by decide +kernel) rfl rfl ?_
        refine g10_0 (idx := 10) (q := 72) (by decide +kernel) fX10_10 rfl (by decide) (t10_0 hT11) rfl ?_
        refine g6_1 (idx := 114) (q := 75) (by decide +kernel) fX10_114 rfl (by decide) (t6_1 hT11) rfl ?_
        obtain ⟨Q14, hm, h⟩ := h
        refine Z_callVv (M2 := mX9_copyFrom) (idx := 117) (d2 := d) (ci := 9) (As := [.ref _]) (q := 78) (by decide +kernel) kX9_copyFrom lX10_117 rfl (hS9_0 (by decide : 8 ∈ zSts)) (hL9_0 (by decide : 8 ∈ zSts)) rfl rfl (by decide +kernel) (Nat.le_of_ble_eq_true rfl) (Nat.le_refl _) hm rfl (fun iv15 rv16 lv17 hq => ?_)
        obtain ⟨hT18, h⟩ := h iv15 rv16 lv17 hq
        refine Z_aload_n (a := 0) (q := 79) (by decide +kernel) rfl rfl ?_
        refine g10_2 (idx := 26) (q := 82) (by decide +kernel) fX10_26 rfl (by decide) (t10_2 hT18) rfl ?_
        obtain ⟨Q20, hm, h⟩ := h
        refine Z_callVv (M2 := mX2_forgetActs) (idx := 121) (d2 := d) (ci := 2) (As := []) (q := 85) (by decide +kernel) kX2_forgetActs lX10_121 rfl rfl (by decide) rfl rfl (by decide +kernel) (Nat.le_of_ble_eq_true rfl) (Nat.le_refl _) hm rfl (fun iv21 rv22 lv23 hq => ?_)
        obtain ⟨hT24, h⟩ := h iv21 rv22 lv23 hq
        refine Z_aload_n (a := 0) (q := 86) (by decide +kernel) rfl rfl ?_
        refine g10_2 (idx := 26) (q := 89) (by decide +kernel) fX10_26 rfl (by decide) (t10_2 hT24) rfl ?_
        obtain ⟨Q26, hm, h⟩ := h
        refine Z_callVv (M2 := mX2_forgetImages) (idx := 124) (d2 := d) (ci := 2) (As := []) (q := 92) (by decide +kernel) kX2_forgetImages lX10_124 rfl rfl (by decide) rfl rfl (by decide +kernel) (Nat.le_of_ble_eq_true rfl) (Nat.le_refl _) hm rfl (fun iv27 rv28 lv29 hq => ?_)
        obtain ⟨hT30, h⟩ := h iv27 rv28 lv29 hq
        refine Z_aload_n (a := 0) (q := 93) (by decide +kernel) rfl rfl ?_
        obtain ⟨Q32, hm, h⟩ := h
        refine Z_callVv (M2 := mX10_changed) (idx := 127) (d2 := d) (ci := 10) (As := []) (q := 96) (by decide +kernel) kX10_changed lX10_127 rfl rfl (by decide) rfl rfl (by decide +kernel) (Nat.le_of_ble_eq_true rfl) (Nat.le_refl _) hm rfl (fun iv33 rv34 lv35 hq => ?_)
        obtain ⟨hT36, h⟩ := h iv33 rv34 lv35 hq
        refine Z_aload_n (a := 0) (q := 97) (by decide +kernel) rfl rfl ?_
        refine Z_aload_n (a := 0) (q := 98) (by decide +kernel) rfl rfl ?_
        refine g10_1 (idx := 19) (q := 101) (by decide +kernel) fX10_19 rfl (by decide) (t10_1 hT36) rfl ?_
        refine g9_0 (idx := 130) (q := 104) (by decide +kernel) fX10_130 (hS9_0 (by decide : 8 ∈ zSts)) (hL9_0 (by decide : 8 ∈ zSts)) rfl ?_
        obtain ⟨Q38, hm, h⟩ := h
        refine Z_callVi (M2 := mX10_answer) (idx := 133) (d2 := d) (ci := 10) (As := [.int _]) (q := 107) (by decide +kernel) kX10_answer lX10_133 rfl rfl (by decide) rfl rfl (by decide +kernel) (Nat.le_of_ble_eq_true rfl) (Nat.le_refl _) hm rfl (fun v43 iv39 rv40 lv41 hq => ?_)
        obtain ⟨hT42, h⟩ := h v43 iv39 rv40 lv41 hq
        exact Z_iret (ty := .int) (by decide +kernel) rfl rfl rfl ⟨_, rfl, h⟩
      · replace h := h.2 hc
        refine Z_aload_n (a := 0) (q := 46) (by decide +kernel) rfl rfl ?_
        refine Z_iconst (a := 4) (v := 4) (q := 47) (by decide +kernel) (by decide +kernel) rfl ?_
        obtain ⟨Q44, hm, h⟩ := h
        refine Z_callVi (M2 := mX10_refuse) (idx := 100) (d2 := d) (ci := 10) (As := [.int _]) (q := 50) (by decide +kernel) kX10_refuse lX10_100 rfl rfl (by decide) rfl rfl (by decide +kernel) (Nat.le_of_ble_eq_true rfl) (Nat.le_refl _) hm rfl (fun v49 iv45 rv46 lv47 hq => ?_)
        obtain ⟨hT48, h⟩ := h v49 iv45 rv46 lv47 hq
        refine Z_pop (q := 51) (by decide +kernel) rfl rfl ?_
        refine Z_aload_n (a := 0) (q := 52) (by decide +kernel) rfl rfl ?_
        refine Z_aload_n (a := 0) (q := 53) (by decide +kernel) rfl rfl ?_
        refine g10_0 (idx := 10) (q := 56) (by decide +kernel) fX10_10 rfl (by decide) (t10_0 hT48) rfl ?_
        refine g6_3 (idx := 111) (q := 59) (by decide +kernel) fX10_111 rfl (by decide) rfl ?_
        refine p10_14 (idx := 88) (q := 62) (by decide +kernel) fX10_88 rfl (by decide) rfl ?_
        replace h := h _ rfl
        refine Z_iconst (a := -1) (v := -1) (q := 63) (by decide +kernel) (by decide +kernel) rfl ?_
        exact Z_iret (ty := .int) (by decide +kernel) rfl rfl rfl ⟨_, rfl, h⟩
    · replace h := h.2 hc
      refine Z_aload_n (a := 0) (q := 16) (by decide +kernel) rfl rfl ?_
      refine Z_iconst (a := 2) (v := 2) (q := 17) (by decide +kernel) (by decide +kernel) rfl ?_
      obtain ⟨Q51, hm, h⟩ := h
      refine Z_callVi (M2 := mX10_refuse) (idx := 100) (d2 := d) (ci := 10) (As := [.int _]) (q := 20) (by decide +kernel) kX10_refuse lX10_100 rfl rfl (by decide) rfl rfl (by decide +kernel) (Nat.le_of_ble_eq_true rfl) (Nat.le_refl _) hm rfl (fun v56 iv52 rv53 lv54 hq => ?_)
      obtain ⟨hT55, h⟩ := h v56 iv52 rv53 lv54 hq
      exact Z_iret (ty := .int) (by decide +kernel) rfl rfl rfl ⟨_, rfl, h⟩
theorem eX10_fault {d : Nat}  {iv : zI} {rv : zR} {lv : zJ} {Q : Int32 → zI → zR → zJ → Prop} (h : Zi mX10_fault d 0 [some (.ref 0)] [] iv rv lv Q) : Ci mX10_fault d [.ref 0] iv rv lv Q := Ci.of (by decide +kernel) (by simp [Value.category]) (Nat.le_of_ble_eq_true rfl) rfl h
set_option maxRecDepth 4000 in
theorem bX10_fault_0 {d : Nat}  {iv : zI} {rv : zR} {lv : zJ} {Q : Int32 → zI → zR → zJ → Prop} (hT : zTop rv) 
    (h : Q (iv 0 13) iv rv lv) :
    Zi mX10_fault d 0 [some (.ref 0)] [] iv rv lv Q := by
  unfold Zi
  refine Z_aload_n (a := 0) (q := 1) (by decide +kernel) rfl rfl ?_
  refine g10_13 (idx := 85) (q := 4) (by decide +kernel) fX10_85 rfl (by decide) rfl ?_
  exact Z_iret (ty := .int) (by decide +kernel) rfl rfl rfl ⟨_, rfl, h⟩
theorem eX10_where {d : Nat}  {iv : zI} {rv : zR} {lv : zJ} {Q : Int32 → zI → zR → zJ → Prop} (h : Zi mX10_where d 0 [some (.ref 0)] [] iv rv lv Q) : Ci mX10_where d [.ref 0] iv rv lv Q := Ci.of (by decide +kernel) (by simp [Value.category]) (Nat.le_of_ble_eq_true rfl) rfl h
set_option maxRecDepth 4000 in
theorem bX10_where_0 {d : Nat}  {iv : zI} {rv : zR} {lv : zJ} {Q : Int32 → zI → zR → zJ → Prop} (hT : zTop rv) 
    (h : Q (iv 0 14) iv rv lv) :
    Zi mX10_where d 0 [some (.ref 0)] [] iv rv lv Q := by
  unfold Zi
  refine Z_aload_n (a := 0) (q := 1) (by decide +kernel) rfl rfl ?_
  refine g10_14 (idx := 88) (q := 4) (by decide +kernel) fX10_88 rfl (by decide) rfl ?_
  exact Z_iret (ty := .int) (by decide +kernel) rfl rfl rfl ⟨_, rfl, h⟩
theorem eX10_about {d : Nat} (x1 : Int32) {iv : zI} {rv : zR} {lv : zJ} {Q : Int32 → zI → zR → zJ → Prop} (h : Zi mX10_about (d + 1) 0 [some (.ref 0), some (.int x1)] [] iv rv lv Q) : Ci mX10_about (d + 1) [.ref 0, .int x1] iv rv lv Q := Ci.of (by decide +kernel) (by simp [Value.category]) (Nat.le_of_ble_eq_true rfl) rfl h
set_option maxRecDepth 4000 in
theorem bX10_about_0 {d : Nat} (x1 : Int32) {iv : zI} {rv : zR} {lv : zJ} {Q : Int32 → zI → zR → zJ → Prop} (hT : zTop rv) 
    (h : ∃ Q1 : Int32 → zI → zR → zJ → Prop, Ci mX10_noText d [.ref 0] iv rv lv Q1 ∧ ∀ (v6 : Int32) (iv2 : zI) (rv3 : zR) (lv4 : zJ), Q1 v6 iv2 rv3 lv4 → zTop rv3 ∧ ((v6 = 0 → (x1 = 0 → ∃ Q7 : Int32 → zI → zR → zJ → Prop, Ci mX10_answer d [.ref 0, .int (iv2 8 0)] iv2 rv3 lv4 Q7 ∧ ∀ (v12 : Int32) (iv8 : zI) (rv9 : zR) (lv10 : zJ), Q7 v12 iv8 rv9 lv10 → zTop rv9 ∧ (Q v12 iv8 rv9 lv10)) ∧ (x1 = 1 → ∃ Q13 : Int32 → zI → zR → zJ → Prop, Ci mX10_answer d [.ref 0, .int (iv2 8 1)] iv2 rv3 lv4 Q13 ∧ ∀ (v18 : Int32) (iv14 : zI) (rv15 : zR) (lv16 : zJ), Q13 v18 iv14 rv15 lv16 → zTop rv15 ∧ (Q v18 iv14 rv15 lv16)) ∧ (x1 = 2 → ∃ Q19 : Int32 → zI → zR → zJ → Prop, Ci mX9_total d [.ref 8] iv2 rv3 lv4 Q19 ∧ ∀ (v24 : Int32) (iv20 : zI) (rv21 : zR) (lv22 : zJ), Q19 v24 iv20 rv21 lv22 → zTop rv21 ∧ (∃ Q25 : Int32 → zI → zR → zJ → Prop, Ci mX10_answer d [.ref 0, .int v24] iv20 rv21 lv22 Q25 ∧ ∀ (v30 : Int32) (iv26 : zI) (rv27 : zR) (lv28 : zJ), Q25 v30 iv26 rv27 lv28 → zTop rv27 ∧ (Q v30 iv26 rv27 lv28))) ∧ (x1 = 3 → ∃ Q31 : Int32 → zI → zR → zJ → Prop, Ci mX9_keptCount d [.ref 8] iv2 rv3 lv4 Q31 ∧ ∀ (v36 : Int32) (iv32 : zI) (rv33 : zR) (lv34 : zJ), Q31 v36 iv32 rv33 lv34 → zTop rv33 ∧ (∃ Q37 : Int32 → zI → zR → zJ → Prop, Ci mX10_answer d [.ref 0, .int v36] iv32 rv33 lv34 Q37 ∧ ∀ (v42 : Int32) (iv38 : zI) (rv39 : zR) (lv40 : zJ), Q37 v42 iv38 rv39 lv40 → zTop rv39 ∧ (Q v42 iv38 rv39 lv40))) ∧ (x1 = 4 → ∃ Q43 : Int32 → zI → zR → zJ → Prop, Ci mX9_pairs d [.ref 8] iv2 rv3 lv4 Q43 ∧ ∀ (v48 : Int32) (iv44 : zI) (rv45 : zR) (lv46 : zJ), Q43 v48 iv44 rv45 lv46 → zTop rv45 ∧ (∃ Q49 : Int32 → zI → zR → zJ → Prop, Ci mX10_answer d [.ref 0, .int v48] iv44 rv45 lv46 Q49 ∧ ∀ (v54 : Int32) (iv50 : zI) (rv51 : zR) (lv52 : zJ), Q49 v54 iv50 rv51 lv52 → zTop rv51 ∧ (Q v54 iv50 rv51 lv52))) ∧ (x1 = 5 → ∃ Q55 : Int32 → zI → zR → zJ → Prop, Ci mX10_answer d [.ref 0, .int (iv2 13 2)] iv2 rv3 lv4 Q55 ∧ ∀ (v60 : Int32) (iv56 : zI) (rv57 : zR) (lv58 : zJ), Q55 v60 iv56 rv57 lv58 → zTop rv57 ∧ (Q v60 iv56 rv57 lv58)) ∧ (x1 = 6 → vp_in (iv2 (8 + 4) 0) 10 ∧ (∃ Q62 : Int32 → zI → zR → zJ → Prop, Ci mX10_answer d [.ref 0, .int (iv2 (8 + 1) (iv2 (8 + 4) 0).toNatClampNeg)] iv2 rv3 lv4 Q62 ∧ ∀ (v67 : Int32) (iv63 : zI) (rv64 : zR) (lv65 : zJ), Q62 v67 iv63 rv64 lv65 → zTop rv64 ∧ (Q v67 iv63 rv64 lv65))) ∧ (x1 = 7 → vp_in ((iv2 8 0) - (1 : Int32)) 10 ∧ (vp_in (iv2 (8 + 4) ((iv2 8 0) - (1 : Int32)).toNatClampNeg) 10 ∧ (∃ Q70 : Int32 → zI → zR → zJ → Prop, Ci mX10_answer d [.ref 0, .int (iv2 (8 + 1) (iv2 (8 + 4) ((iv2 8 0) - (1 : Int32)).toNatClampNeg).toNatClampNeg)] iv2 rv3 lv4 Q70 ∧ ∀ (v75 : Int32) (iv71 : zI) (rv72 : zR) (lv73 : zJ), Q70 v75 iv71 rv72 lv73 → zTop rv72 ∧ (Q v75 iv71 rv72 lv73)))) ∧ (¬ x1 = 0 → ¬ x1 = 1 → ¬ x1 = 2 → ¬ x1 = 3 → ¬ x1 = 4 → ¬ x1 = 5 → ¬ x1 = 6 → ¬ x1 = 7 → ∃ Q76 : Int32 → zI → zR → zJ → Prop, Ci mX10_refuse d [.ref 0, .int (1 : Int32)] iv2 rv3 lv4 Q76 ∧ ∀ (v81 : Int32) (iv77 : zI) (rv78 : zR) (lv79 : zJ), Q76 v81 iv77 rv78 lv79 → zTop rv78 ∧ (Q v81 iv77 rv78 lv79))) ∧ (¬ v6 = 0 → ∃ Q82 : Int32 → zI → zR → zJ → Prop, Ci mX10_refuse d [.ref 0, .int (1 : Int32)] iv2 rv3 lv4 Q82 ∧ ∀ (v87 : Int32) (iv83 : zI) (rv84 : zR) (lv85 : zJ), Q82 v87 iv83 rv84 lv85 → zTop rv84 ∧ (Q v87 iv83 rv84 lv85)))) :
    Zi mX10_about (d + 1) 0 [some (.ref 0), some (.int x1)] [] iv rv lv Q := by
  unfold Zi
  refine Z_aload_n (a := 0) (q := 1) (by decide +kernel) rfl rfl ?_
  obtain ⟨Q1, hm, h⟩ := h
  refine Z_callVi (M2 := mX10_noText) (idx := 136) (d2 := d) (ci := 10) (As := []) (q := 4) (by decide +kernel) kX10_noText lX10_136 rfl rfl (by decide) rfl rfl (by decide +kernel) (Nat.le_of_ble_eq_true rfl) (Nat.le_refl _) hm rfl (fun v6 iv2 rv3 lv4 hq => ?_)
  obtain ⟨hT5, h⟩ := h v6 iv2 rv3 lv4 hq
  refine Z_if_eq (t := 13) (off := 9) (q := 7) (by decide +kernel) (by decide) rfl (fun hc => ?_) (fun hc => ?_)
  · replace h := h.1 hc
    refine Z_iload_n (a := 1) (q := 14) (by decide +kernel) rfl rfl ?_
    by_cases hk0 : x1 = 0
    · replace h := h.1 hk0
      refine Z_tableIn (q := 60) (off := 46) (by decide +kernel : decode mX10_about.2.1 14 = .ok (.tableswitch 170 0 7 #[46, 58, 70, 82, 94, 106, 118, 140], 46)) (by rw [hk0]; decide) (by rw [hk0]; decide) (by rw [hk0]; rfl) (by decide) ?_
      refine Z_aload_n (a := 0) (q := 61) (by decide +kernel) rfl rfl ?_
      refine Z_aload_n (a := 0) (q := 62) (by decide +kernel) rfl rfl ?_
      refine g10_1 (idx := 19) (q := 65) (by decide +kernel) fX10_19 rfl (by decide) (t10_1 hT5) rfl ?_
      refine g9_0 (idx := 130) (q := 68) (by decide +kernel) fX10_130 (hS9_0 (by decide : 8 ∈ zSts)) (hL9_0 (by decide : 8 ∈ zSts)) rfl ?_
      obtain ⟨Q7, hm, h⟩ := h
      refine Z_callVi (M2 := mX10_answer) (idx := 133) (d2 := d) (ci := 10) (As := [.int _]) (q := 71) (by decide +kernel) kX10_answer lX10_133 rfl rfl (by decide) rfl rfl (by decide +kernel) (Nat.le_of_ble_eq_true rfl) (Nat.le_refl _) hm rfl (fun v12 iv8 rv9 lv10 hq => ?_)
      obtain ⟨hT11, h⟩ := h v12 iv8 rv9 lv10 hq
      exact Z_iret (ty := .int) (by decide +kernel) rfl rfl rfl ⟨_, rfl, h⟩
    replace h := h.2
    by_cases hk1 : x1 = 1
    · replace h := h.1 hk1
      refine Z_tableIn (q := 72) (off := 58) (by decide +kernel : decode mX10_about.2.1 14 = .ok (.tableswitch 170 0 7 #[46, 58, 70, 82, 94, 106, 118, 140], 46)) (by rw [hk1]; decide) (by rw [hk1]; decide) (by rw [hk1]; rfl) (by decide) ?_
      refine Z_aload_n (a := 0) (q := 73) (by decide +kernel) rfl rfl ?_
      refine Z_aload_n (a := 0) (q := 74) (by decide +kernel) rfl rfl ?_
      refine g10_1 (idx := 19) (q := 77) (by decide +kernel) fX10_19 rfl (by decide) (t10_1 hT5) rfl ?_
      refine g9_1 (idx := 140) (q := 80) (by decide +kernel) fX10_140 (hS9_0 (by decide : 8 ∈ zSts)) (hL9_0 (by decide : 8 ∈ zSts)) rfl ?_
      obtain ⟨Q13, hm, h⟩ := h
      refine Z_callVi (M2 := mX10_answer) (idx := 133) (d2 := d) (ci := 10) (As := [.int _]) (q := 83) (by decide +kernel) kX10_answer lX10_133 rfl rfl (by decide) rfl rfl (by decide +kernel) (Nat.le_of_ble_eq_true rfl) (Nat.le_refl _) hm rfl (fun v18 iv14 rv15 lv16 hq => ?_)
      obtain ⟨hT17, h⟩ := h v18 iv14 rv15 lv16 hq
      exact Z_iret (ty := .int) (by decide +kernel) rfl rfl rfl ⟨_, rfl, h⟩
    replace h := h.2
    by_cases hk2 : x1 = 2
    · replace h := h.1 hk2
      refine Z_tableIn (q := 84) (off := 70) (by decide +kernel : decode mX10_about.2.1 14 = .ok (.tableswitch 170 0 7 #[46, 58, 70, 82, 94, 106, 118, 140], 46)) (by rw [hk2]; decide) (by rw [hk2]; decide) (by rw [hk2]; rfl) (by decide) ?_
      refine Z_aload_n (a := 0) (q := 85) (by decide +kernel) rfl rfl ?_
      refine Z_aload_n (a := 0) (q := 86) (by decide +kernel) rfl rfl ?_
      refine g10_1 (idx := 19) (q := 89) (by decide +kernel) fX10_19 rfl (by decide) (t10_1 hT5) rfl ?_
      obtain ⟨Q19, hm, h⟩ := h
      refine Z_callVi (M2 := mX9_total) (idx := 143) (d2 := d) (ci := 9) (As := []) (q := 92) (by decide +kernel) kX9_total lX10_143 rfl (hS9_0 (by decide : 8 ∈ zSts)) (hL9_0 (by decide : 8 ∈ zSts)) rfl rfl (by decide +kernel) (Nat.le_of_ble_eq_true rfl) (Nat.le_refl _) hm rfl (fun v24 iv20 rv21 lv22 hq => ?_)
      obtain ⟨hT23, h⟩ := h v24 iv20 rv21 lv22 hq
      obtain ⟨Q25, hm, h⟩ := h
      refine Z_callVi (M2 := mX10_answer) (idx := 133) (d2 := d) (ci := 10) (As := [.int _]) (q := 95) (by decide +kernel) kX10_answer lX10_133 rfl rfl (by decide) rfl rfl (by decide +kernel) (Nat.le_of_ble_eq_true rfl) (Nat.le_refl _) hm rfl (fun v30 iv26 rv27 lv28 hq => ?_)
      obtain ⟨hT29, h⟩ := h v30 iv26 rv27 lv28 hq
      exact Z_iret (ty := .int) (by decide +kernel) rfl rfl rfl ⟨_, rfl, h⟩
    replace h := h.2
    by_cases hk3 : x1 = 3
    · replace h := h.1 hk3
      refine Z_tableIn (q := 96) (off := 82) (by decide +kernel : decode mX10_about.2.1 14 = .ok (.tableswitch 170 0 7 #[46, 58, 70, 82, 94, 106, 118, 140], 46)) (by rw [hk3]; decide) (by rw [hk3]; decide) (by rw [hk3]; rfl) (by decide) ?_
      refine Z_aload_n (a := 0) (q := 97) (by decide +kernel) rfl rfl ?_
      refine Z_aload_n (a := 0) (q := 98) (by decide +kernel) rfl rfl ?_
      refine g10_1 (idx := 19) (q := 101) (by decide +kernel) fX10_19 rfl (by decide) (t10_1 hT5) rfl ?_
      obtain ⟨Q31, hm, h⟩ := h
      refine Z_callVi (M2 := mX9_keptCount) (idx := 147) (d2 := d) (ci := 9) (As := []) (q := 104) (by decide +kernel) kX9_keptCount lX10_147 rfl (hS9_0 (by decide : 8 ∈ zSts)) (hL9_0 (by decide : 8 ∈ zSts)) rfl rfl (by decide +kernel) (Nat.le_of_ble_eq_true rfl) (Nat.le_refl _) hm rfl (fun v36 iv32 rv33 lv34 hq => ?_)
      obtain ⟨hT35, h⟩ := h v36 iv32 rv33 lv34 hq
      obtain ⟨Q37, hm, h⟩ := h
      refine Z_callVi (M2 := mX10_answer) (idx := 133) (d2 := d) (ci := 10) (As := [.int _]) (q := 107) (by decide +kernel) kX10_answer lX10_133 rfl rfl (by decide) rfl rfl (by decide +kernel) (Nat.le_of_ble_eq_true rfl) (Nat.le_refl _) hm rfl (fun v42 iv38 rv39 lv40 hq => ?_)
      obtain ⟨hT41, h⟩ := h v42 iv38 rv39 lv40 hq
      exact Z_iret (ty := .int) (by decide +kernel) rfl rfl rfl ⟨_, rfl, h⟩
    replace h := h.2
    by_cases hk4 : x1 = 4
    · replace h := h.1 hk4
      refine Z_tableIn (q := 108) (off := 94) (by decide +kernel : decode mX10_about.2.1 14 = .ok (.tableswitch 170 0 7 #[46, 58, 70, 82, 94, 106, 118, 140], 46)) (by rw [hk4]; decide) (by rw [hk4]; decide) (by rw [hk4]; rfl) (by decide) ?_
      refine Z_aload_n (a := 0) (q := 109) (by decide +kernel) rfl rfl ?_
      refine Z_aload_n (a := 0) (q := 110) (by decide +kernel) rfl rfl ?_
      refine g10_1 (idx := 19) (q := 113) (by decide +kernel) fX10_19 rfl (by decide) (t10_1 hT5) rfl ?_
      obtain ⟨Q43, hm, h⟩ := h
      refine Z_callVi (M2 := mX9_pairs) (idx := 150) (d2 := d) (ci := 9) (As := []) (q := 116) (by decide +kernel) kX9_pairs lX10_150 rfl (hS9_0 (by decide : 8 ∈ zSts)) (hL9_0 (by decide : 8 ∈ zSts)) rfl rfl (by decide +kernel) (Nat.le_of_ble_eq_true rfl) (Nat.le_refl _) hm rfl (fun v48 iv44 rv45 lv46 hq => ?_)
      obtain ⟨hT47, h⟩ := h v48 iv44 rv45 lv46 hq
      obtain ⟨Q49, hm, h⟩ := h
      refine Z_callVi (M2 := mX10_answer) (idx := 133) (d2 := d) (ci := 10) (As := [.int _]) (q := 119) (by decide +kernel) kX10_answer lX10_133 rfl rfl (by decide) rfl rfl (by decide +kernel) (Nat.le_of_ble_eq_true rfl) (Nat.le_refl _) hm rfl (fun v54 iv50 rv51 lv52 hq => ?_)
      obtain ⟨hT53, h⟩ := h v54 iv50 rv51 lv52 hq
      exact Z_iret (ty := .int) (by decide +kernel) rfl rfl rfl ⟨_, rfl, h⟩
    replace h := h.2
    by_cases hk5 : x1 = 5
    · replace h := h.1 hk5
      refine Z_tableIn (q := 120) (off := 106) (by decide +kernel : decode mX10_about.2.1 14 = .ok (.tableswitch 170 0 7 #[46, 58, 70, 82, 94, 106, 118, 140], 46)) (by rw [hk5]; decide) (by rw [hk5]; decide) (by rw [hk5]; rfl) (by decide) ?_
      refine Z_aload_n (a := 0) (q := 121) (by decide +kernel) rfl rfl ?_
      refine Z_aload_n (a := 0) (q := 122) (by decide +kernel) rfl rfl ?_
      refine g10_2 (idx := 26) (q := 125) (by decide +kernel) fX10_26 rfl (by decide) (t10_2 hT5) rfl ?_
      refine g2_2 (idx := 153) (q := 128) (by decide +kernel) fX10_153 rfl (by decide) rfl ?_
      obtain ⟨Q55, hm, h⟩ := h
      refine Z_callVi (M2 := mX10_answer) (idx := 133) (d2 := d) (ci := 10) (As := [.int _]) (q := 131) (by decide +kernel) kX10_answer lX10_133 rfl rfl (by decide) rfl rfl (by decide +kernel) (Nat.le_of_ble_eq_true rfl) (Nat.le_refl _) hm rfl (fun v60 iv56 rv57 lv58 hq => ?_)
      obtain ⟨hT59, h⟩ := h v60 iv56 rv57 lv58 hq
      exact Z_iret (ty := .int) (by decide +kernel) rfl rfl rfl ⟨_, rfl, h⟩
    replace h := h.2
    by_cases hk6 : x1 = 6
    · replace h := h.1 hk6
      refine Z_tableIn (q := 132) (off := 118) (by decide +kernel : decode mX10_about.2.1 14 = .ok (.tableswitch 170 0 7 #[46, 58, 70, 82, 94, 106, 118, 140], 46)) (by rw [hk6]; decide) (by rw [hk6]; decide) (by rw [hk6]; rfl) (by decide) ?_
      refine Z_aload_n (a := 0) (q := 133) (by decide +kernel) rfl rfl ?_
      refine Z_aload_n (a := 0) (q := 134) (by decide +kernel) rfl rfl ?_
      refine g10_1 (idx := 19) (q := 137) (by decide +kernel) fX10_19 rfl (by decide) (t10_1 hT5) rfl ?_
      refine g9_2 (idx := 156) (q := 140) (by decide +kernel) fX10_156 (hS9_0 (by decide : 8 ∈ zSts)) (hL9_0 (by decide : 8 ∈ zSts)) (t9_2 hT5 (by decide : 8 ∈ zSts)) rfl ?_
      refine Z_aload_n (a := 0) (q := 141) (by decide +kernel) rfl rfl ?_
      refine g10_1 (idx := 19) (q := 144) (by decide +kernel) fX10_19 rfl (by decide) (t10_1 hT5) rfl ?_
      refine g9_5 (idx := 160) (q := 147) (by decide +kernel) fX10_160 (hS9_0 (by decide : 8 ∈ zSts)) (hL9_0 (by decide : 8 ∈ zSts)) (t9_5 hT5 (by decide : 8 ∈ zSts)) rfl ?_
      refine Z_iconst (a := 0) (v := 0) (q := 148) (by decide +kernel) (by decide +kernel) rfl ?_
      refine Z_iald (len := 10) (q := 149) (by decide +kernel) (hS9_4 (by decide : 8 ∈ zSts)) (hL9_4 (by decide : 8 ∈ zSts)) (by unfold vp_in; decide) rfl ?_
      obtain ⟨hin61, h⟩ := h
      refine Z_iald (len := 10) (q := 150) (by decide +kernel) (hS9_1 (by decide : 8 ∈ zSts)) (hL9_1 (by decide : 8 ∈ zSts)) hin61 rfl ?_
      obtain ⟨Q62, hm, h⟩ := h
      refine Z_callVi (M2 := mX10_answer) (idx := 133) (d2 := d) (ci := 10) (As := [.int _]) (q := 153) (by decide +kernel) kX10_answer lX10_133 rfl rfl (by decide) rfl rfl (by decide +kernel) (Nat.le_of_ble_eq_true rfl) (Nat.le_refl _) hm rfl (fun v67 iv63 rv64 lv65 hq => ?_)
      obtain ⟨hT66, h⟩ := h v67 iv63 rv64 lv65 hq
      exact Z_iret (ty := .int) (by decide +kernel) rfl rfl rfl ⟨_, rfl, h⟩
    replace h := h.2
    by_cases hk7 : x1 = 7
    · replace h := h.1 hk7
      refine Z_tableIn (q := 154) (off := 140) (by decide +kernel : decode mX10_about.2.1 14 = .ok (.tableswitch 170 0 7 #[46, 58, 70, 82, 94, 106, 118, 140], 46)) (by rw [hk7]; decide) (by rw [hk7]; decide) (by rw [hk7]; rfl) (by decide) ?_
      refine Z_aload_n (a := 0) (q := 155) (by decide +kernel) rfl rfl ?_
      refine Z_aload_n (a := 0) (q := 156) (by decide +kernel) rfl rfl ?_
      refine g10_1 (idx := 19) (q := 159) (by decide +kernel) fX10_19 rfl (by decide) (t10_1 hT5) rfl ?_
      refine g9_2 (idx := 156) (q := 162) (by decide +kernel) fX10_156 (hS9_0 (by decide : 8 ∈ zSts)) (hL9_0 (by decide : 8 ∈ zSts)) (t9_2 hT5 (by decide : 8 ∈ zSts)) rfl ?_
      refine Z_aload_n (a := 0) (q := 163) (by decide +kernel) rfl rfl ?_
      refine g10_1 (idx := 19) (q := 166) (by decide +kernel) fX10_19 rfl (by decide) (t10_1 hT5) rfl ?_
      refine g9_5 (idx := 160) (q := 169) (by decide +kernel) fX10_160 (hS9_0 (by decide : 8 ∈ zSts)) (hL9_0 (by decide : 8 ∈ zSts)) (t9_5 hT5 (by decide : 8 ∈ zSts)) rfl ?_
      refine Z_aload_n (a := 0) (q := 170) (by decide +kernel) rfl rfl ?_
      refine g10_1 (idx := 19) (q := 173) (by decide +kernel) fX10_19 rfl (by decide) (t10_1 hT5) rfl ?_
      refine g9_0 (idx := 130) (q := 176) (by decide +kernel) fX10_130 (hS9_0 (by decide : 8 ∈ zSts)) (hL9_0 (by decide : 8 ∈ zSts)) rfl ?_
      refine Z_iconst (a := 1) (v := 1) (q := 177) (by decide +kernel) (by decide +kernel) rfl ?_
      refine Z_isub (q := 178) (by decide +kernel) rfl ?_
      obtain ⟨hin68, h⟩ := h
      refine Z_iald (len := 10) (q := 179) (by decide +kernel) (hS9_4 (by decide : 8 ∈ zSts)) (hL9_4 (by decide : 8 ∈ zSts)) hin68 rfl ?_
      obtain ⟨hin69, h⟩ := h
      refine Z_iald (len := 10) (q := 180) (by decide +kernel) (hS9_1 (by decide : 8 ∈ zSts)) (hL9_1 (by decide : 8 ∈ zSts)) hin69 rfl ?_
      obtain ⟨Q70, hm, h⟩ := h
      refine Z_callVi (M2 := mX10_answer) (idx := 133) (d2 := d) (ci := 10) (As := [.int _]) (q := 183) (by decide +kernel) kX10_answer lX10_133 rfl rfl (by decide) rfl rfl (by decide +kernel) (Nat.le_of_ble_eq_true rfl) (Nat.le_refl _) hm rfl (fun v75 iv71 rv72 lv73 hq => ?_)
      obtain ⟨hT74, h⟩ := h v75 iv71 rv72 lv73 hq
      exact Z_iret (ty := .int) (by decide +kernel) rfl rfl rfl ⟨_, rfl, h⟩
    replace h := h.2
    replace h := h hk0 hk1 hk2 hk3 hk4 hk5 hk6 hk7
    have hout : x1.toInt < 0 ∨ 7 < x1.toInt := by
      rcases Int.lt_or_le x1.toInt 0 with h1 | h1
      · exact Or.inl h1
      rcases Int.lt_or_le 7 x1.toInt with h2 | h2
      · exact Or.inr h2
      exfalso
      rcases (show x1.toInt = 0 ∨ x1.toInt = 1 ∨ x1.toInt = 2 ∨ x1.toInt = 3 ∨ x1.toInt = 4 ∨ x1.toInt = 5 ∨ x1.toInt = 6 ∨ x1.toInt = 7 by omega) with h3 | h3 | h3 | h3 | h3 | h3 | h3 | h3
      · exact hk0 (zeqI h3)
      · exact hk1 (zeqI h3)
      · exact hk2 (zeqI h3)
      · exact hk3 (zeqI h3)
      · exact hk4 (zeqI h3)
      · exact hk5 (zeqI h3)
      · exact hk6 (zeqI h3)
      · exact hk7 (zeqI h3)
    refine Z_tableOut (q := 184) (by decide +kernel : decode mX10_about.2.1 14 = .ok (.tableswitch 170 0 7 #[46, 58, 70, 82, 94, 106, 118, 140], 46)) hout (by decide) ?_
    refine Z_aload_n (a := 0) (q := 185) (by decide +kernel) rfl rfl ?_
    refine Z_iconst (a := 1) (v := 1) (q := 186) (by decide +kernel) (by decide +kernel) rfl ?_
    obtain ⟨Q76, hm, h⟩ := h
    refine Z_callVi (M2 := mX10_refuse) (idx := 100) (d2 := d) (ci := 10) (As := [.int _]) (q := 189) (by decide +kernel) kX10_refuse lX10_100 rfl rfl (by decide) rfl rfl (by decide +kernel) (Nat.le_of_ble_eq_true rfl) (Nat.le_refl _) hm rfl (fun v81 iv77 rv78 lv79 hq => ?_)
    obtain ⟨hT80, h⟩ := h v81 iv77 rv78 lv79 hq
    exact Z_iret (ty := .int) (by decide +kernel) rfl rfl rfl ⟨_, rfl, h⟩
  · replace h := h.2 hc
    refine Z_aload_n (a := 0) (q := 8) (by decide +kernel) rfl rfl ?_
    refine Z_iconst (a := 1) (v := 1) (q := 9) (by decide +kernel) (by decide +kernel) rfl ?_
    obtain ⟨Q82, hm, h⟩ := h
    refine Z_callVi (M2 := mX10_refuse) (idx := 100) (d2 := d) (ci := 10) (As := [.int _]) (q := 12) (by decide +kernel) kX10_refuse lX10_100 rfl rfl (by decide) rfl rfl (by decide +kernel) (Nat.le_of_ble_eq_true rfl) (Nat.le_refl _) hm rfl (fun v87 iv83 rv84 lv85 hq => ?_)
    obtain ⟨hT86, h⟩ := h v87 iv83 rv84 lv85 hq
    exact Z_iret (ty := .int) (by decide +kernel) rfl rfl rfl ⟨_, rfl, h⟩
theorem eX10_number {d : Nat} (x1 : Int32) (x2 : Int32) {iv : zI} {rv : zR} {lv : zJ} {Q : Int32 → zI → zR → zJ → Prop} (h : Zi mX10_number (d + 1) 0 [some (.ref 0), some (.int x1), some (.int x2)] [] iv rv lv Q) : Ci mX10_number (d + 1) [.ref 0, .int x1, .int x2] iv rv lv Q := Ci.of (by decide +kernel) (by simp [Value.category]) (Nat.le_of_ble_eq_true rfl) rfl h
set_option maxRecDepth 4000 in
theorem bX10_number_0 {d : Nat} (x1 : Int32) (x2 : Int32) {iv : zI} {rv : zR} {lv : zJ} {Q : Int32 → zI → zR → zJ → Prop} (hT : zTop rv) 
    (h : ∃ Q1 : Int32 → zI → zR → zJ → Prop, Ci mX10_noNumber d [.ref 0, .int x1] iv rv lv Q1 ∧ ∀ (v6 : Int32) (iv2 : zI) (rv3 : zR) (lv4 : zJ), Q1 v6 iv2 rv3 lv4 → zTop rv3 ∧ ((v6 = 0 → (x2 = 0 → vp_in x1 10 ∧ (∃ Q8 : Int32 → zI → zR → zJ → Prop, Ci mX10_answer d [.ref 0, .int (iv2 (8 + 1) x1.toNatClampNeg)] iv2 rv3 lv4 Q8 ∧ ∀ (v13 : Int32) (iv9 : zI) (rv10 : zR) (lv11 : zJ), Q8 v13 iv9 rv10 lv11 → zTop rv10 ∧ (Q v13 iv9 rv10 lv11))) ∧ (x2 = 1 → ∃ Q14 : Int32 → zI → zR → zJ → Prop, Ci mX9_placeBySize d [.ref 8, .int x1] iv2 rv3 lv4 Q14 ∧ ∀ (v19 : Int32) (iv15 : zI) (rv16 : zR) (lv17 : zJ), Q14 v19 iv15 rv16 lv17 → zTop rv16 ∧ (∃ Q20 : Int32 → zI → zR → zJ → Prop, Ci mX10_answer d [.ref 0, .int v19] iv15 rv16 lv17 Q20 ∧ ∀ (v25 : Int32) (iv21 : zI) (rv22 : zR) (lv23 : zJ), Q20 v25 iv21 rv22 lv23 → zTop rv22 ∧ (Q v25 iv21 rv22 lv23))) ∧ (x2 = 2 → vp_in x1 10 ∧ (∃ Q27 : Int32 → zI → zR → zJ → Prop, Ci mX10_answer d [.ref 0, .int (iv2 (8 + 2) x1.toNatClampNeg)] iv2 rv3 lv4 Q27 ∧ ∀ (v32 : Int32) (iv28 : zI) (rv29 : zR) (lv30 : zJ), Q27 v32 iv28 rv29 lv30 → zTop rv29 ∧ (Q v32 iv28 rv29 lv30))) ∧ (x2 = 3 → vp_in x1 10 ∧ (∃ Q34 : Int32 → zI → zR → zJ → Prop, Ci mX10_answer d [.ref 0, .int (iv2 (8 + 3) x1.toNatClampNeg)] iv2 rv3 lv4 Q34 ∧ ∀ (v39 : Int32) (iv35 : zI) (rv36 : zR) (lv37 : zJ), Q34 v39 iv35 rv36 lv37 → zTop rv36 ∧ (Q v39 iv35 rv36 lv37))) ∧ (¬ x2 = 0 → ¬ x2 = 1 → ¬ x2 = 2 → ¬ x2 = 3 → ∃ Q40 : Int32 → zI → zR → zJ → Prop, Ci mX10_refuse d [.ref 0, .int (1 : Int32)] iv2 rv3 lv4 Q40 ∧ ∀ (v45 : Int32) (iv41 : zI) (rv42 : zR) (lv43 : zJ), Q40 v45 iv41 rv42 lv43 → zTop rv42 ∧ (Q v45 iv41 rv42 lv43))) ∧ (¬ v6 = 0 → ∃ Q46 : Int32 → zI → zR → zJ → Prop, Ci mX10_refuse d [.ref 0, .int (1 : Int32)] iv2 rv3 lv4 Q46 ∧ ∀ (v51 : Int32) (iv47 : zI) (rv48 : zR) (lv49 : zJ), Q46 v51 iv47 rv48 lv49 → zTop rv48 ∧ (Q v51 iv47 rv48 lv49)))) :
    Zi mX10_number (d + 1) 0 [some (.ref 0), some (.int x1), some (.int x2)] [] iv rv lv Q := by
  unfold Zi
  refine Z_aload_n (a := 0) (q := 1) (by decide +kernel) rfl rfl ?_
  refine Z_iload_n (a := 1) (q := 2) (by decide +kernel) rfl rfl ?_
  obtain ⟨Q1, hm, h⟩ := h
  refine Z_callVi (M2 := mX10_noNumber) (idx := 163) (d2 := d) (ci := 10) (As := [.int _]) (q := 5) (by decide +kernel) kX10_noNumber lX10_163 rfl rfl (by decide) rfl rfl (by decide +kernel) (Nat.le_of_ble_eq_true rfl) (Nat.le_refl _) hm rfl (fun v6 iv2 rv3 lv4 hq => ?_)
  obtain ⟨hT5, h⟩ := h v6 iv2 rv3 lv4 hq
  refine Z_if_eq (t := 14) (off := 9) (q := 8) (by decide +kernel) (by decide) rfl (fun hc => ?_) (fun hc => ?_)
  · replace h := h.1 hc
    refine Z_iload_n (a := 2) (q := 15) (by decide +kernel) rfl rfl ?_
    by_cases hk0 : x2 = 0
    · replace h := h.1 hk0
      refine Z_tableIn (q := 44) (off := 29) (by decide +kernel : decode mX10_number.2.1 15 = .ok (.tableswitch 84 0 3 #[29, 43, 56, 70], 29)) (by rw [hk0]; decide) (by rw [hk0]; decide) (by rw [hk0]; rfl) (by decide) ?_
      refine Z_aload_n (a := 0) (q := 45) (by decide +kernel) rfl rfl ?_
      refine Z_aload_n (a := 0) (q := 46) (by decide +kernel) rfl rfl ?_
      refine g10_1 (idx := 19) (q := 49) (by decide +kernel) fX10_19 rfl (by decide) (t10_1 hT5) rfl ?_
      refine g9_2 (idx := 156) (q := 52) (by decide +kernel) fX10_156 (hS9_0 (by decide : 8 ∈ zSts)) (hL9_0 (by decide : 8 ∈ zSts)) (t9_2 hT5 (by decide : 8 ∈ zSts)) rfl ?_
      refine Z_iload_n (a := 1) (q := 53) (by decide +kernel) rfl rfl ?_
      obtain ⟨hin7, h⟩ := h
      refine Z_iald (len := 10) (q := 54) (by decide +kernel) (hS9_1 (by decide : 8 ∈ zSts)) (hL9_1 (by decide : 8 ∈ zSts)) hin7 rfl ?_
      obtain ⟨Q8, hm, h⟩ := h
      refine Z_callVi (M2 := mX10_answer) (idx := 133) (d2 := d) (ci := 10) (As := [.int _]) (q := 57) (by decide +kernel) kX10_answer lX10_133 rfl rfl (by decide) rfl rfl (by decide +kernel) (Nat.le_of_ble_eq_true rfl) (Nat.le_refl _) hm rfl (fun v13 iv9 rv10 lv11 hq => ?_)
      obtain ⟨hT12, h⟩ := h v13 iv9 rv10 lv11 hq
      exact Z_iret (ty := .int) (by decide +kernel) rfl rfl rfl ⟨_, rfl, h⟩
    replace h := h.2
    by_cases hk1 : x2 = 1
    · replace h := h.1 hk1
      refine Z_tableIn (q := 58) (off := 43) (by decide +kernel : decode mX10_number.2.1 15 = .ok (.tableswitch 84 0 3 #[29, 43, 56, 70], 29)) (by rw [hk1]; decide) (by rw [hk1]; decide) (by rw [hk1]; rfl) (by decide) ?_
      refine Z_aload_n (a := 0) (q := 59) (by decide +kernel) rfl rfl ?_
      refine Z_aload_n (a := 0) (q := 60) (by decide +kernel) rfl rfl ?_
      refine g10_1 (idx := 19) (q := 63) (by decide +kernel) fX10_19 rfl (by decide) (t10_1 hT5) rfl ?_
      refine Z_iload_n (a := 1) (q := 64) (by decide +kernel) rfl rfl ?_
      obtain ⟨Q14, hm, h⟩ := h
      refine Z_callVi (M2 := mX9_placeBySize) (idx := 166) (d2 := d) (ci := 9) (As := [.int _]) (q := 67) (by decide +kernel) kX9_placeBySize lX10_166 rfl (hS9_0 (by decide : 8 ∈ zSts)) (hL9_0 (by decide : 8 ∈ zSts)) rfl rfl (by decide +kernel) (Nat.le_of_ble_eq_true rfl) (Nat.le_refl _) hm rfl (fun v19 iv15 rv16 lv17 hq => ?_)
      obtain ⟨hT18, h⟩ := h v19 iv15 rv16 lv17 hq
      obtain ⟨Q20, hm, h⟩ := h
      refine Z_callVi (M2 := mX10_answer) (idx := 133) (d2 := d) (ci := 10) (As := [.int _]) (q := 70) (by decide +kernel) kX10_answer lX10_133 rfl rfl (by decide) rfl rfl (by decide +kernel) (Nat.le_of_ble_eq_true rfl) (Nat.le_refl _) hm rfl (fun v25 iv21 rv22 lv23 hq => ?_)
      obtain ⟨hT24, h⟩ := h v25 iv21 rv22 lv23 hq
      exact Z_iret (ty := .int) (by decide +kernel) rfl rfl rfl ⟨_, rfl, h⟩
    replace h := h.2
    by_cases hk2 : x2 = 2
    · replace h := h.1 hk2
      refine Z_tableIn (q := 71) (off := 56) (by decide +kernel : decode mX10_number.2.1 15 = .ok (.tableswitch 84 0 3 #[29, 43, 56, 70], 29)) (by rw [hk2]; decide) (by rw [hk2]; decide) (by rw [hk2]; rfl) (by decide) ?_
      refine Z_aload_n (a := 0) (q := 72) (by decide +kernel) rfl rfl ?_
      refine Z_aload_n (a := 0) (q := 73) (by decide +kernel) rfl rfl ?_
      refine g10_1 (idx := 19) (q := 76) (by decide +kernel) fX10_19 rfl (by decide) (t10_1 hT5) rfl ?_
      refine g9_3 (idx := 169) (q := 79) (by decide +kernel) fX10_169 (hS9_0 (by decide : 8 ∈ zSts)) (hL9_0 (by decide : 8 ∈ zSts)) (t9_3 hT5 (by decide : 8 ∈ zSts)) rfl ?_
      refine Z_iload_n (a := 1) (q := 80) (by decide +kernel) rfl rfl ?_
      obtain ⟨hin26, h⟩ := h
      refine Z_iald (len := 10) (q := 81) (by decide +kernel) (hS9_2 (by decide : 8 ∈ zSts)) (hL9_2 (by decide : 8 ∈ zSts)) hin26 rfl ?_
      obtain ⟨Q27, hm, h⟩ := h
      refine Z_callVi (M2 := mX10_answer) (idx := 133) (d2 := d) (ci := 10) (As := [.int _]) (q := 84) (by decide +kernel) kX10_answer lX10_133 rfl rfl (by decide) rfl rfl (by decide +kernel) (Nat.le_of_ble_eq_true rfl) (Nat.le_refl _) hm rfl (fun v32 iv28 rv29 lv30 hq => ?_)
      obtain ⟨hT31, h⟩ := h v32 iv28 rv29 lv30 hq
      exact Z_iret (ty := .int) (by decide +kernel) rfl rfl rfl ⟨_, rfl, h⟩
    replace h := h.2
    by_cases hk3 : x2 = 3
    · replace h := h.1 hk3
      refine Z_tableIn (q := 85) (off := 70) (by decide +kernel : decode mX10_number.2.1 15 = .ok (.tableswitch 84 0 3 #[29, 43, 56, 70], 29)) (by rw [hk3]; decide) (by rw [hk3]; decide) (by rw [hk3]; rfl) (by decide) ?_
      refine Z_aload_n (a := 0) (q := 86) (by decide +kernel) rfl rfl ?_
      refine Z_aload_n (a := 0) (q := 87) (by decide +kernel) rfl rfl ?_
      refine g10_1 (idx := 19) (q := 90) (by decide +kernel) fX10_19 rfl (by decide) (t10_1 hT5) rfl ?_
      refine g9_4 (idx := 172) (q := 93) (by decide +kernel) fX10_172 (hS9_0 (by decide : 8 ∈ zSts)) (hL9_0 (by decide : 8 ∈ zSts)) (t9_4 hT5 (by decide : 8 ∈ zSts)) rfl ?_
      refine Z_iload_n (a := 1) (q := 94) (by decide +kernel) rfl rfl ?_
      obtain ⟨hin33, h⟩ := h
      refine Z_iald (len := 10) (q := 95) (by decide +kernel) (hS9_3 (by decide : 8 ∈ zSts)) (hL9_3 (by decide : 8 ∈ zSts)) hin33 rfl ?_
      obtain ⟨Q34, hm, h⟩ := h
      refine Z_callVi (M2 := mX10_answer) (idx := 133) (d2 := d) (ci := 10) (As := [.int _]) (q := 98) (by decide +kernel) kX10_answer lX10_133 rfl rfl (by decide) rfl rfl (by decide +kernel) (Nat.le_of_ble_eq_true rfl) (Nat.le_refl _) hm rfl (fun v39 iv35 rv36 lv37 hq => ?_)
      obtain ⟨hT38, h⟩ := h v39 iv35 rv36 lv37 hq
      exact Z_iret (ty := .int) (by decide +kernel) rfl rfl rfl ⟨_, rfl, h⟩
    replace h := h.2
    replace h := h hk0 hk1 hk2 hk3
    have hout : x2.toInt < 0 ∨ 3 < x2.toInt := by
      rcases Int.lt_or_le x2.toInt 0 with h1 | h1
      · exact Or.inl h1
      rcases Int.lt_or_le 3 x2.toInt with h2 | h2
      · exact Or.inr h2
      exfalso
      rcases (show x2.toInt = 0 ∨ x2.toInt = 1 ∨ x2.toInt = 2 ∨ x2.toInt = 3 by omega) with h3 | h3 | h3 | h3
      · exact hk0 (zeqI h3)
      · exact hk1 (zeqI h3)
      · exact hk2 (zeqI h3)
      · exact hk3 (zeqI h3)
    refine Z_tableOut (q := 99) (by decide +kernel : decode mX10_number.2.1 15 = .ok (.tableswitch 84 0 3 #[29, 43, 56, 70], 29)) hout (by decide) ?_
    refine Z_aload_n (a := 0) (q := 100) (by decide +kernel) rfl rfl ?_
    refine Z_iconst (a := 1) (v := 1) (q := 101) (by decide +kernel) (by decide +kernel) rfl ?_
    obtain ⟨Q40, hm, h⟩ := h
    refine Z_callVi (M2 := mX10_refuse) (idx := 100) (d2 := d) (ci := 10) (As := [.int _]) (q := 104) (by decide +kernel) kX10_refuse lX10_100 rfl rfl (by decide) rfl rfl (by decide +kernel) (Nat.le_of_ble_eq_true rfl) (Nat.le_refl _) hm rfl (fun v45 iv41 rv42 lv43 hq => ?_)
    obtain ⟨hT44, h⟩ := h v45 iv41 rv42 lv43 hq
    exact Z_iret (ty := .int) (by decide +kernel) rfl rfl rfl ⟨_, rfl, h⟩
  · replace h := h.2 hc
    refine Z_aload_n (a := 0) (q := 9) (by decide +kernel) rfl rfl ?_
    refine Z_iconst (a := 1) (v := 1) (q := 10) (by decide +kernel) (by decide +kernel) rfl ?_
    obtain ⟨Q46, hm, h⟩ := h
    refine Z_callVi (M2 := mX10_refuse) (idx := 100) (d2 := d) (ci := 10) (As := [.int _]) (q := 13) (by decide +kernel) kX10_refuse lX10_100 rfl rfl (by decide) rfl rfl (by decide +kernel) (Nat.le_of_ble_eq_true rfl) (Nat.le_refl _) hm rfl (fun v51 iv47 rv48 lv49 hq => ?_)
    obtain ⟨hT50, h⟩ := h v51 iv47 rv48 lv49 hq
    exact Z_iret (ty := .int) (by decide +kernel) rfl rfl rfl ⟨_, rfl, h⟩
theorem eX10_sized {d : Nat} (x1 : Int32) {iv : zI} {rv : zR} {lv : zJ} {Q : Int32 → zI → zR → zJ → Prop} (h : Zi mX10_sized (d + 1) 0 [some (.ref 0), some (.int x1)] [] iv rv lv Q) : Ci mX10_sized (d + 1) [.ref 0, .int x1] iv rv lv Q := Ci.of (by decide +kernel) (by simp [Value.category]) (Nat.le_of_ble_eq_true rfl) rfl h
set_option maxRecDepth 4000 in
theorem bX10_sized_0 {d : Nat} (x1 : Int32) {iv : zI} {rv : zR} {lv : zJ} {Q : Int32 → zI → zR → zJ → Prop} (hT : zTop rv) 
    (h : ∃ Q1 : Int32 → zI → zR → zJ → Prop, Ci mX10_noNumber d [.ref 0, .int x1] iv rv lv Q1 ∧ ∀ (v6 : Int32) (iv2 : zI) (rv3 : zR) (lv4 : zJ), Q1 v6 iv2 rv3 lv4 → zTop rv3 ∧ ((v6 = 0 → vp_in x1 10 ∧ (∃ Q8 : Int32 → zI → zR → zJ → Prop, Ci mX10_answer d [.ref 0, .int (iv2 (8 + 4) x1.toNatClampNeg)] iv2 rv3 lv4 Q8 ∧ ∀ (v13 : Int32) (iv9 : zI) (rv10 : zR) (lv11 : zJ), Q8 v13 iv9 rv10 lv11 → zTop rv10 ∧ (Q v13 iv9 rv10 lv11))) ∧ (¬ v6 = 0 → ∃ Q14 : Int32 → zI → zR → zJ → Prop, Ci mX10_refuse d [.ref 0, .int (1 : Int32)] iv2 rv3 lv4 Q14 ∧ ∀ (v19 : Int32) (iv15 : zI) (rv16 : zR) (lv17 : zJ), Q14 v19 iv15 rv16 lv17 → zTop rv16 ∧ (Q v19 iv15 rv16 lv17)))) :
    Zi mX10_sized (d + 1) 0 [some (.ref 0), some (.int x1)] [] iv rv lv Q := by
  unfold Zi
  refine Z_aload_n (a := 0) (q := 1) (by decide +kernel) rfl rfl ?_
  refine Z_iload_n (a := 1) (q := 2) (by decide +kernel) rfl rfl ?_
  obtain ⟨Q1, hm, h⟩ := h
  refine Z_callVi (M2 := mX10_noNumber) (idx := 163) (d2 := d) (ci := 10) (As := [.int _]) (q := 5) (by decide +kernel) kX10_noNumber lX10_163 rfl rfl (by decide) rfl rfl (by decide +kernel) (Nat.le_of_ble_eq_true rfl) (Nat.le_refl _) hm rfl (fun v6 iv2 rv3 lv4 hq => ?_)
  obtain ⟨hT5, h⟩ := h v6 iv2 rv3 lv4 hq
  refine Z_if_eq (t := 14) (off := 9) (q := 8) (by decide +kernel) (by decide) rfl (fun hc => ?_) (fun hc => ?_)
  · replace h := h.1 hc
    refine Z_aload_n (a := 0) (q := 15) (by decide +kernel) rfl rfl ?_
    refine Z_aload_n (a := 0) (q := 16) (by decide +kernel) rfl rfl ?_
    refine g10_1 (idx := 19) (q := 19) (by decide +kernel) fX10_19 rfl (by decide) (t10_1 hT5) rfl ?_
    refine g9_5 (idx := 160) (q := 22) (by decide +kernel) fX10_160 (hS9_0 (by decide : 8 ∈ zSts)) (hL9_0 (by decide : 8 ∈ zSts)) (t9_5 hT5 (by decide : 8 ∈ zSts)) rfl ?_
    refine Z_iload_n (a := 1) (q := 23) (by decide +kernel) rfl rfl ?_
    obtain ⟨hin7, h⟩ := h
    refine Z_iald (len := 10) (q := 24) (by decide +kernel) (hS9_4 (by decide : 8 ∈ zSts)) (hL9_4 (by decide : 8 ∈ zSts)) hin7 rfl ?_
    obtain ⟨Q8, hm, h⟩ := h
    refine Z_callVi (M2 := mX10_answer) (idx := 133) (d2 := d) (ci := 10) (As := [.int _]) (q := 27) (by decide +kernel) kX10_answer lX10_133 rfl rfl (by decide) rfl rfl (by decide +kernel) (Nat.le_of_ble_eq_true rfl) (Nat.le_refl _) hm rfl (fun v13 iv9 rv10 lv11 hq => ?_)
    obtain ⟨hT12, h⟩ := h v13 iv9 rv10 lv11 hq
    exact Z_iret (ty := .int) (by decide +kernel) rfl rfl rfl ⟨_, rfl, h⟩
  · replace h := h.2 hc
    refine Z_aload_n (a := 0) (q := 9) (by decide +kernel) rfl rfl ?_
    refine Z_iconst (a := 1) (v := 1) (q := 10) (by decide +kernel) (by decide +kernel) rfl ?_
    obtain ⟨Q14, hm, h⟩ := h
    refine Z_callVi (M2 := mX10_refuse) (idx := 100) (d2 := d) (ci := 10) (As := [.int _]) (q := 13) (by decide +kernel) kX10_refuse lX10_100 rfl rfl (by decide) rfl rfl (by decide +kernel) (Nat.le_of_ble_eq_true rfl) (Nat.le_refl _) hm rfl (fun v19 iv15 rv16 lv17 hq => ?_)
    obtain ⟨hT18, h⟩ := h v19 iv15 rv16 lv17 hq
    exact Z_iret (ty := .int) (by decide +kernel) rfl rfl rfl ⟨_, rfl, h⟩
theorem eX10_greedy {d : Nat} (x1 : Int32) (x2 : Int32) {iv : zI} {rv : zR} {lv : zJ} {Q : Int32 → zI → zR → zJ → Prop} (h : Zi mX10_greedy (d + 1) 0 [some (.ref 0), some (.int x1), some (.int x2)] [] iv rv lv Q) : Ci mX10_greedy (d + 1) [.ref 0, .int x1, .int x2] iv rv lv Q := Ci.of (by decide +kernel) (by simp [Value.category]) (Nat.le_of_ble_eq_true rfl) rfl h
set_option maxRecDepth 4000 in
theorem bX10_greedy_0 {d : Nat} (x1 : Int32) (x2 : Int32) {iv : zI} {rv : zR} {lv : zJ} {Q : Int32 → zI → zR → zJ → Prop} (hT : zTop rv) 
    (h : ∃ Q1 : Int32 → zI → zR → zJ → Prop, Ci mX10_noText d [.ref 0] iv rv lv Q1 ∧ ∀ (v6 : Int32) (iv2 : zI) (rv3 : zR) (lv4 : zJ), Q1 v6 iv2 rv3 lv4 → zTop rv3 ∧ ((¬ v6 = 0 → Zi mX10_greedy (d + 1) 20 [some (.ref 0), some (.int x1), some (.int x2)] [.int (1 : Int32), .ref 0] iv2 rv3 lv4 Q) ∧ (v6 = 0 → ∃ Q7 : Int32 → zI → zR → zJ → Prop, Ci mX10_notZeroOrOne d [.int x2] iv2 rv3 lv4 Q7 ∧ ∀ (v12 : Int32) (iv8 : zI) (rv9 : zR) (lv10 : zJ), Q7 v12 iv8 rv9 lv10 → zTop rv9 ∧ ((v12 = 0 → Zi mX10_greedy (d + 1) 20 [some (.ref 0), some (.int x1), some (.int x2)] [.int (0 : Int32), .ref 0] iv8 rv9 lv10 Q) ∧ (¬ v12 = 0 → Zi mX10_greedy (d + 1) 20 [some (.ref 0), some (.int x1), some (.int x2)] [.int (1 : Int32), .ref 0] iv8 rv9 lv10 Q))))) :
    Zi mX10_greedy (d + 1) 0 [some (.ref 0), some (.int x1), some (.int x2)] [] iv rv lv Q := by
  unfold Zi
  refine Z_aload_n (a := 0) (q := 1) (by decide +kernel) rfl rfl ?_
  refine Z_aload_n (a := 0) (q := 2) (by decide +kernel) rfl rfl ?_
  obtain ⟨Q1, hm, h⟩ := h
  refine Z_callVi (M2 := mX10_noText) (idx := 136) (d2 := d) (ci := 10) (As := []) (q := 5) (by decide +kernel) kX10_noText lX10_136 rfl rfl (by decide) rfl rfl (by decide +kernel) (Nat.le_of_ble_eq_true rfl) (Nat.le_refl _) hm rfl (fun v6 iv2 rv3 lv4 hq => ?_)
  obtain ⟨hT5, h⟩ := h v6 iv2 rv3 lv4 hq
  refine Z_if_ne (t := 15) (off := 10) (q := 8) (by decide +kernel) (by decide) rfl (fun hc => ?_) (fun hc => ?_)
  · replace h := h.1 hc
    refine Z_iconst (a := 1) (v := 1) (q := 16) (by decide +kernel) (by decide +kernel) rfl ?_
    refine Z_goto (q := 20) (off := 4) (by decide +kernel) (by decide) ?_
    exact h
  · replace h := h.2 hc
    refine Z_iload_n (a := 2) (q := 9) (by decide +kernel) rfl rfl ?_
    obtain ⟨Q7, hm, h⟩ := h
    refine Z_callSi (M2 := mX10_notZeroOrOne) (idx := 175) (d2 := d) (As := [.int _]) (q := 12) (by decide +kernel) kX10_notZeroOrOne lX10_175 rfl rfl (by decide +kernel) (Nat.le_of_ble_eq_true rfl) (Nat.le_refl _) hm rfl (fun v12 iv8 rv9 lv10 hq => ?_)
    obtain ⟨hT11, h⟩ := h v12 iv8 rv9 lv10 hq
    refine Z_if_eq (t := 19) (off := 7) (q := 15) (by decide +kernel) (by decide) rfl (fun hc => ?_) (fun hc => ?_)
    · replace h := h.1 hc
      refine Z_iconst (a := 0) (v := 0) (q := 20) (by decide +kernel) (by decide +kernel) rfl ?_
      exact h
    · replace h := h.2 hc
      refine Z_iconst (a := 1) (v := 1) (q := 16) (by decide +kernel) (by decide +kernel) rfl ?_
      refine Z_goto (q := 20) (off := 4) (by decide +kernel) (by decide) ?_
      exact h
set_option maxRecDepth 4000 in
theorem bX10_greedy_20 {d : Nat} (x1 : Int32) (x2 : Int32) (y0 : Int32) {iv : zI} {rv : zR} {lv : zJ} {Q : Int32 → zI → zR → zJ → Prop} (hT : zTop rv) 
    (h : ∃ Q1 : Int32 → zI → zR → zJ → Prop, Ci mX10_noSuchHeaps d [.int x1] iv rv lv Q1 ∧ ∀ (v6 : Int32) (iv2 : zI) (rv3 : zR) (lv4 : zJ), Q1 v6 iv2 rv3 lv4 → zTop rv3 ∧ (∃ Q7 : Int32 → zI → zR → zJ → Prop, Ci mX10_refused d [.ref 0, .int y0, .int v6] iv2 rv3 lv4 Q7 ∧ ∀ (v12 : Int32) (iv8 : zI) (rv9 : zR) (lv10 : zJ), Q7 v12 iv8 rv9 lv10 → zTop rv9 ∧ ((v12 = 0 → ∃ Q13 : zI → zR → zJ → Prop, Cv mX1_fillBySize d [.ref 76, .ref 8, .int x1] iv8 rv9 lv10 Q13 ∧ ∀ (iv14 : zI) (rv15 : zR) (lv16 : zJ), Q13 iv14 rv15 lv16 → zTop rv15 ∧ ((¬ x2 = 0 → ∃ Q19 : Int32 → zI → zR → zJ → Prop, Ci mX1_greatest d [.ref 76] iv14 rv15 lv16 Q19 ∧ ∀ (v24 : Int32) (iv20 : zI) (rv21 : zR) (lv22 : zJ), Q19 v24 iv20 rv21 lv22 → zTop rv21 ∧ (∃ Q25 : Int32 → zI → zR → zJ → Prop, Ci mX10_answer d [.ref 0, .int v24] iv20 rv21 lv22 Q25 ∧ ∀ (v30 : Int32) (iv26 : zI) (rv27 : zR) (lv28 : zJ), Q25 v30 iv26 rv27 lv28 → zTop rv27 ∧ (Q v30 iv26 rv27 lv28))) ∧ (x2 = 0 → ∃ Q31 : Int32 → zI → zR → zJ → Prop, Ci mX1_spread d [.ref 76] iv14 rv15 lv16 Q31 ∧ ∀ (v36 : Int32) (iv32 : zI) (rv33 : zR) (lv34 : zJ), Q31 v36 iv32 rv33 lv34 → zTop rv33 ∧ (∃ Q37 : Int32 → zI → zR → zJ → Prop, Ci mX10_answer d [.ref 0, .int v36] iv32 rv33 lv34 Q37 ∧ ∀ (v42 : Int32) (iv38 : zI) (rv39 : zR) (lv40 : zJ), Q37 v42 iv38 rv39 lv40 → zTop rv39 ∧ (Q v42 iv38 rv39 lv40))))) ∧ (¬ v12 = 0 → Q (-1 : Int32) iv8 rv9 lv10)))) :
    Zi mX10_greedy (d + 1) 20 [some (.ref 0), some (.int x1), some (.int x2)] [.int y0, .ref 0] iv rv lv Q := by
  unfold Zi
  refine Z_iload_n (a := 1) (q := 21) (by decide +kernel) rfl rfl ?_
  obtain ⟨Q1, hm, h⟩ := h
  refine Z_callSi (M2 := mX10_noSuchHeaps) (idx := 178) (d2 := d) (As := [.int _]) (q := 24) (by decide +kernel) kX10_noSuchHeaps lX10_178 rfl rfl (by decide +kernel) (Nat.le_of_ble_eq_true rfl) (Nat.le_refl _) hm rfl (fun v6 iv2 rv3 lv4 hq => ?_)
  obtain ⟨hT5, h⟩ := h v6 iv2 rv3 lv4 hq
  obtain ⟨Q7, hm, h⟩ := h
  refine Z_callVi (M2 := mX10_refused) (idx := 181) (d2 := d) (ci := 10) (As := [.int _, .int _]) (q := 27) (by decide +kernel) kX10_refused lX10_181 rfl rfl (by decide) rfl rfl (by decide +kernel) (Nat.le_of_ble_eq_true rfl) (Nat.le_refl _) hm rfl (fun v12 iv8 rv9 lv10 hq => ?_)
  obtain ⟨hT11, h⟩ := h v12 iv8 rv9 lv10 hq
  refine Z_if_eq (t := 32) (off := 5) (q := 30) (by decide +kernel) (by decide) rfl (fun hc => ?_) (fun hc => ?_)
  · replace h := h.1 hc
    refine Z_aload_n (a := 0) (q := 33) (by decide +kernel) rfl rfl ?_
    refine g10_4 (idx := 37) (q := 36) (by decide +kernel) fX10_37 rfl (by decide) (t10_4 hT11) rfl ?_
    refine Z_aload_n (a := 0) (q := 37) (by decide +kernel) rfl rfl ?_
    refine g10_1 (idx := 19) (q := 40) (by decide +kernel) fX10_19 rfl (by decide) (t10_1 hT11) rfl ?_
    refine Z_iload_n (a := 1) (q := 41) (by decide +kernel) rfl rfl ?_
    obtain ⟨Q13, hm, h⟩ := h
    refine Z_callVv (M2 := mX1_fillBySize) (idx := 185) (d2 := d) (ci := 1) (As := [.ref _, .int _]) (q := 44) (by decide +kernel) kX1_fillBySize lX10_185 rfl rfl (by decide) rfl rfl (by decide +kernel) (Nat.le_of_ble_eq_true rfl) (Nat.le_refl _) hm rfl (fun iv14 rv15 lv16 hq => ?_)
    obtain ⟨hT17, h⟩ := h iv14 rv15 lv16 hq
    refine Z_aload_n (a := 0) (q := 45) (by decide +kernel) rfl rfl ?_
    refine Z_iload_n (a := 2) (q := 46) (by decide +kernel) rfl rfl ?_
    refine Z_if_ne (t := 59) (off := 13) (q := 49) (by decide +kernel) (by decide) rfl (fun hc => ?_) (fun hc => ?_)
    · replace h := h.1 hc
      refine Z_aload_n (a := 0) (q := 60) (by decide +kernel) rfl rfl ?_
      refine g10_4 (idx := 37) (q := 63) (by decide +kernel) fX10_37 rfl (by decide) (t10_4 hT17) rfl ?_
      obtain ⟨Q19, hm, h⟩ := h
      refine Z_callVi (M2 := mX1_greatest) (idx := 192) (d2 := d) (ci := 1) (As := []) (q := 66) (by decide +kernel) kX1_greatest lX10_192 rfl rfl (by decide) rfl rfl (by decide +kernel) (Nat.le_of_ble_eq_true rfl) (Nat.le_refl _) hm rfl (fun v24 iv20 rv21 lv22 hq => ?_)
      obtain ⟨hT23, h⟩ := h v24 iv20 rv21 lv22 hq
      obtain ⟨Q25, hm, h⟩ := h
      refine Z_callVi (M2 := mX10_answer) (idx := 133) (d2 := d) (ci := 10) (As := [.int _]) (q := 69) (by decide +kernel) kX10_answer lX10_133 rfl rfl (by decide) rfl rfl (by decide +kernel) (Nat.le_of_ble_eq_true rfl) (Nat.le_refl _) hm rfl (fun v30 iv26 rv27 lv28 hq => ?_)
      obtain ⟨hT29, h⟩ := h v30 iv26 rv27 lv28 hq
      exact Z_iret (ty := .int) (by decide +kernel) rfl rfl rfl ⟨_, rfl, h⟩
    · replace h := h.2 hc
      refine Z_aload_n (a := 0) (q := 50) (by decide +kernel) rfl rfl ?_
      refine g10_4 (idx := 37) (q := 53) (by decide +kernel) fX10_37 rfl (by decide) (t10_4 hT17) rfl ?_
      obtain ⟨Q31, hm, h⟩ := h
      refine Z_callVi (M2 := mX1_spread) (idx := 189) (d2 := d) (ci := 1) (As := []) (q := 56) (by decide +kernel) kX1_spread lX10_189 rfl rfl (by decide) rfl rfl (by decide +kernel) (Nat.le_of_ble_eq_true rfl) (Nat.le_refl _) hm rfl (fun v36 iv32 rv33 lv34 hq => ?_)
      obtain ⟨hT35, h⟩ := h v36 iv32 rv33 lv34 hq
      refine Z_goto (q := 66) (off := 10) (by decide +kernel) (by decide) ?_
      obtain ⟨Q37, hm, h⟩ := h
      refine Z_callVi (M2 := mX10_answer) (idx := 133) (d2 := d) (ci := 10) (As := [.int _]) (q := 69) (by decide +kernel) kX10_answer lX10_133 rfl rfl (by decide) rfl rfl (by decide +kernel) (Nat.le_of_ble_eq_true rfl) (Nat.le_refl _) hm rfl (fun v42 iv38 rv39 lv40 hq => ?_)
      obtain ⟨hT41, h⟩ := h v42 iv38 rv39 lv40 hq
      exact Z_iret (ty := .int) (by decide +kernel) rfl rfl rfl ⟨_, rfl, h⟩
  · replace h := h.2 hc
    refine Z_iconst (a := -1) (v := -1) (q := 31) (by decide +kernel) (by decide +kernel) rfl ?_
    exact Z_iret (ty := .int) (by decide +kernel) rfl rfl rfl ⟨_, rfl, h⟩
theorem eX10_greedyOf {d : Nat} (x1 : Int32) (x2 : Int32) {iv : zI} {rv : zR} {lv : zJ} {Q : Int32 → zI → zR → zJ → Prop} (h : Zi mX10_greedyOf (d + 1) 0 [some (.ref 0), some (.int x1), some (.int x2)] [] iv rv lv Q) : Ci mX10_greedyOf (d + 1) [.ref 0, .int x1, .int x2] iv rv lv Q := Ci.of (by decide +kernel) (by simp [Value.category]) (Nat.le_of_ble_eq_true rfl) rfl h
set_option maxRecDepth 4000 in
theorem bX10_greedyOf_0 {d : Nat} (x1 : Int32) (x2 : Int32) {iv : zI} {rv : zR} {lv : zJ} {Q : Int32 → zI → zR → zJ → Prop} (hT : zTop rv) 
    (h : ∃ Q1 : Int32 → zI → zR → zJ → Prop, Ci mX10_noNumber d [.ref 0, .int x2] iv rv lv Q1 ∧ ∀ (v6 : Int32) (iv2 : zI) (rv3 : zR) (lv4 : zJ), Q1 v6 iv2 rv3 lv4 → zTop rv3 ∧ (∃ Q7 : Int32 → zI → zR → zJ → Prop, Ci mX10_noSuchHeaps d [.int x1] iv2 rv3 lv4 Q7 ∧ ∀ (v12 : Int32) (iv8 : zI) (rv9 : zR) (lv10 : zJ), Q7 v12 iv8 rv9 lv10 → zTop rv9 ∧ (∃ Q13 : Int32 → zI → zR → zJ → Prop, Ci mX10_refused d [.ref 0, .int v6, .int v12] iv8 rv9 lv10 Q13 ∧ ∀ (v18 : Int32) (iv14 : zI) (rv15 : zR) (lv16 : zJ), Q13 v18 iv14 rv15 lv16 → zTop rv15 ∧ ((v18 = 0 → ∃ Q19 : zI → zR → zJ → Prop, Cv mX1_fillBySize d [.ref 76, .ref 8, .int x1] iv14 rv15 lv16 Q19 ∧ ∀ (iv20 : zI) (rv21 : zR) (lv22 : zJ), Q19 iv20 rv21 lv22 → zTop rv21 ∧ (vp_in x2 10 ∧ (∃ Q26 : Int32 → zI → zR → zJ → Prop, Ci mX10_answer d [.ref 0, .int (iv20 77 x2.toNatClampNeg)] iv20 rv21 lv22 Q26 ∧ ∀ (v31 : Int32) (iv27 : zI) (rv28 : zR) (lv29 : zJ), Q26 v31 iv27 rv28 lv29 → zTop rv28 ∧ (Q v31 iv27 rv28 lv29)))) ∧ (¬ v18 = 0 → Q (-1 : Int32) iv14 rv15 lv16))))) :
    Zi mX10_greedyOf (d + 1) 0 [some (.ref 0), some (.int x1), some (.int x2)] [] iv rv lv Q := by
  unfold Zi
  refine Z_aload_n (a := 0) (q := 1) (by decide +kernel) rfl rfl ?_
  refine Z_aload_n (a := 0) (q := 2) (by decide +kernel) rfl rfl ?_
  refine Z_iload_n (a := 2) (q := 3) (by decide +kernel) rfl rfl ?_
  obtain ⟨Q1, hm, h⟩ := h
  refine Z_callVi (M2 := mX10_noNumber) (idx := 163) (d2 := d) (ci := 10) (As := [.int _]) (q := 6) (by decide +kernel) kX10_noNumber lX10_163 rfl rfl (by decide) rfl rfl (by decide +kernel) (Nat.le_of_ble_eq_true rfl) (Nat.le_refl _) hm rfl (fun v6 iv2 rv3 lv4 hq => ?_)
  obtain ⟨hT5, h⟩ := h v6 iv2 rv3 lv4 hq
  refine Z_iload_n (a := 1) (q := 7) (by decide +kernel) rfl rfl ?_
  obtain ⟨Q7, hm, h⟩ := h
  refine Z_callSi (M2 := mX10_noSuchHeaps) (idx := 178) (d2 := d) (As := [.int _]) (q := 10) (by decide +kernel) kX10_noSuchHeaps lX10_178 rfl rfl (by decide +kernel) (Nat.le_of_ble_eq_true rfl) (Nat.le_refl _) hm rfl (fun v12 iv8 rv9 lv10 hq => ?_)
  obtain ⟨hT11, h⟩ := h v12 iv8 rv9 lv10 hq
  obtain ⟨Q13, hm, h⟩ := h
  refine Z_callVi (M2 := mX10_refused) (idx := 181) (d2 := d) (ci := 10) (As := [.int _, .int _]) (q := 13) (by decide +kernel) kX10_refused lX10_181 rfl rfl (by decide) rfl rfl (by decide +kernel) (Nat.le_of_ble_eq_true rfl) (Nat.le_refl _) hm rfl (fun v18 iv14 rv15 lv16 hq => ?_)
  obtain ⟨hT17, h⟩ := h v18 iv14 rv15 lv16 hq
  refine Z_if_eq (t := 18) (off := 5) (q := 16) (by decide +kernel) (by decide) rfl (fun hc => ?_) (fun hc => ?_)
  · replace h := h.1 hc
    refine Z_aload_n (a := 0) (q := 19) (by decide +kernel) rfl rfl ?_
    refine g10_4 (idx := 37) (q := 22) (by decide +kernel) fX10_37 rfl (by decide) (t10_4 hT17) rfl ?_
    refine Z_aload_n (a := 0) (q := 23) (by decide +kernel) rfl rfl ?_
    refine g10_1 (idx := 19) (q := 26) (by decide +kernel) fX10_19 rfl (by decide) (t10_1 hT17) rfl ?_
    refine Z_iload_n (a := 1) (q := 27) (by decide +kernel) rfl rfl ?_
    obtain ⟨Q19, hm, h⟩ := h
    refine Z_callVv (M2 := mX1_fillBySize) (idx := 185) (d2 := d) (ci := 1) (As := [.ref _, .int _]) (q := 30) (by decide +kernel) kX1_fillBySize lX10_185 rfl rfl (by decide) rfl rfl (by decide +kernel) (Nat.le_of_ble_eq_true rfl) (Nat.le_refl _) hm rfl (fun iv20 rv21 lv22 hq => ?_)
    obtain ⟨hT23, h⟩ := h iv20 rv21 lv22 hq
    refine Z_aload_n (a := 0) (q := 31) (by decide +kernel) rfl rfl ?_
    refine Z_aload_n (a := 0) (q := 32) (by decide +kernel) rfl rfl ?_
    refine g10_4 (idx := 37) (q := 35) (by decide +kernel) fX10_37 rfl (by decide) (t10_4 hT23) rfl ?_
    refine g1_0 (idx := 195) (q := 38) (by decide +kernel) fX10_195 rfl (by decide) (t1_0 hT23) rfl ?_
    refine Z_iload_n (a := 2) (q := 39) (by decide +kernel) rfl rfl ?_
    obtain ⟨hin25, h⟩ := h
    refine Z_iald (len := 10) (q := 40) (by decide +kernel) rfl (by decide) hin25 rfl ?_
    obtain ⟨Q26, hm, h⟩ := h
    refine Z_callVi (M2 := mX10_answer) (idx := 133) (d2 := d) (ci := 10) (As := [.int _]) (q := 43) (by decide +kernel) kX10_answer lX10_133 rfl rfl (by decide) rfl rfl (by decide +kernel) (Nat.le_of_ble_eq_true rfl) (Nat.le_refl _) hm rfl (fun v31 iv27 rv28 lv29 hq => ?_)
    obtain ⟨hT30, h⟩ := h v31 iv27 rv28 lv29 hq
    exact Z_iret (ty := .int) (by decide +kernel) rfl rfl rfl ⟨_, rfl, h⟩
  · replace h := h.2 hc
    refine Z_iconst (a := -1) (v := -1) (q := 17) (by decide +kernel) (by decide +kernel) rfl ?_
    exact Z_iret (ty := .int) (by decide +kernel) rfl rfl rfl ⟨_, rfl, h⟩
theorem eX10_difference {d : Nat}  {iv : zI} {rv : zR} {lv : zJ} {Q : Int32 → zI → zR → zJ → Prop} (h : Zi mX10_difference (d + 1) 0 [some (.ref 0)] [] iv rv lv Q) : Ci mX10_difference (d + 1) [.ref 0] iv rv lv Q := Ci.of (by decide +kernel) (by simp [Value.category]) (Nat.le_of_ble_eq_true rfl) rfl h
set_option maxRecDepth 4000 in
theorem bX10_difference_0 {d : Nat}  {iv : zI} {rv : zR} {lv : zJ} {Q : Int32 → zI → zR → zJ → Prop} (hT : zTop rv) 
    (h : ∃ Q1 : Int32 → zI → zR → zJ → Prop, Ci mX10_noText d [.ref 0] iv rv lv Q1 ∧ ∀ (v6 : Int32) (iv2 : zI) (rv3 : zR) (lv4 : zJ), Q1 v6 iv2 rv3 lv4 → zTop rv3 ∧ ((v6 = 0 → ∃ Q7 : zI → zR → zJ → Prop, Cv mX0_run d [.ref 79, .ref 8] iv2 rv3 lv4 Q7 ∧ ∀ (iv8 : zI) (rv9 : zR) (lv10 : zJ), Q7 iv8 rv9 lv10 → zTop rv9 ∧ (∃ Q13 : Int32 → zI → zR → zJ → Prop, Ci mX10_answer d [.ref 0, .int (iv8 (80 + 1) 0)] iv8 rv9 lv10 Q13 ∧ ∀ (v18 : Int32) (iv14 : zI) (rv15 : zR) (lv16 : zJ), Q13 v18 iv14 rv15 lv16 → zTop rv15 ∧ (Q v18 iv14 rv15 lv16))) ∧ (¬ v6 = 0 → ∃ Q19 : Int32 → zI → zR → zJ → Prop, Ci mX10_refuse d [.ref 0, .int (1 : Int32)] iv2 rv3 lv4 Q19 ∧ ∀ (v24 : Int32) (iv20 : zI) (rv21 : zR) (lv22 : zJ), Q19 v24 iv20 rv21 lv22 → zTop rv21 ∧ (Q v24 iv20 rv21 lv22)))) :
    Zi mX10_difference (d + 1) 0 [some (.ref 0)] [] iv rv lv Q := by
  unfold Zi
  refine Z_aload_n (a := 0) (q := 1) (by decide +kernel) rfl rfl ?_
  obtain ⟨Q1, hm, h⟩ := h
  refine Z_callVi (M2 := mX10_noText) (idx := 136) (d2 := d) (ci := 10) (As := []) (q := 4) (by decide +kernel) kX10_noText lX10_136 rfl rfl (by decide) rfl rfl (by decide +kernel) (Nat.le_of_ble_eq_true rfl) (Nat.le_refl _) hm rfl (fun v6 iv2 rv3 lv4 hq => ?_)
  obtain ⟨hT5, h⟩ := h v6 iv2 rv3 lv4 hq
  refine Z_if_eq (t := 13) (off := 9) (q := 7) (by decide +kernel) (by decide) rfl (fun hc => ?_) (fun hc => ?_)
  · replace h := h.1 hc
    refine Z_aload_n (a := 0) (q := 14) (by decide +kernel) rfl rfl ?_
    refine g10_5 (idx := 44) (q := 17) (by decide +kernel) fX10_44 rfl (by decide) (t10_5 hT5) rfl ?_
    refine Z_aload_n (a := 0) (q := 18) (by decide +kernel) rfl rfl ?_
    refine g10_1 (idx := 19) (q := 21) (by decide +kernel) fX10_19 rfl (by decide) (t10_1 hT5) rfl ?_
    obtain ⟨Q7, hm, h⟩ := h
    refine Z_callVv (M2 := mX0_run) (idx := 198) (d2 := d) (ci := 0) (As := [.ref _]) (q := 24) (by decide +kernel) kX0_run lX10_198 rfl rfl (by decide) rfl rfl (by decide +kernel) (Nat.le_of_ble_eq_true rfl) (Nat.le_refl _) hm rfl (fun iv8 rv9 lv10 hq => ?_)
    obtain ⟨hT11, h⟩ := h iv8 rv9 lv10 hq
    refine Z_aload_n (a := 0) (q := 25) (by decide +kernel) rfl rfl ?_
    refine Z_aload_n (a := 0) (q := 26) (by decide +kernel) rfl rfl ?_
    refine g10_5 (idx := 44) (q := 29) (by decide +kernel) fX10_44 rfl (by decide) (t10_5 hT11) rfl ?_
    refine g0_0 (idx := 201) (q := 32) (by decide +kernel) fX10_201 rfl (by decide) (t0_0 hT11) rfl ?_
    refine g3_1 (idx := 205) (q := 35) (by decide +kernel) fX10_205 (hS3_0 (by decide : 80 ∈ zIts)) (hL3_0 (by decide : 80 ∈ zIts)) (t3_1 hT11 (by decide : 80 ∈ zIts)) rfl ?_
    refine Z_iconst (a := 0) (v := 0) (q := 36) (by decide +kernel) (by decide +kernel) rfl ?_
    refine Z_iald (len := 10) (q := 37) (by decide +kernel) (hS3_1 (by decide : 80 ∈ zIts)) (hL3_1 (by decide : 80 ∈ zIts)) (by unfold vp_in; decide) rfl ?_
    obtain ⟨Q13, hm, h⟩ := h
    refine Z_callVi (M2 := mX10_answer) (idx := 133) (d2 := d) (ci := 10) (As := [.int _]) (q := 40) (by decide +kernel) kX10_answer lX10_133 rfl rfl (by decide) rfl rfl (by decide +kernel) (Nat.le_of_ble_eq_true rfl) (Nat.le_refl _) hm rfl (fun v18 iv14 rv15 lv16 hq => ?_)
    obtain ⟨hT17, h⟩ := h v18 iv14 rv15 lv16 hq
    exact Z_iret (ty := .int) (by decide +kernel) rfl rfl rfl ⟨_, rfl, h⟩
  · replace h := h.2 hc
    refine Z_aload_n (a := 0) (q := 8) (by decide +kernel) rfl rfl ?_
    refine Z_iconst (a := 1) (v := 1) (q := 9) (by decide +kernel) (by decide +kernel) rfl ?_
    obtain ⟨Q19, hm, h⟩ := h
    refine Z_callVi (M2 := mX10_refuse) (idx := 100) (d2 := d) (ci := 10) (As := [.int _]) (q := 12) (by decide +kernel) kX10_refuse lX10_100 rfl rfl (by decide) rfl rfl (by decide +kernel) (Nat.le_of_ble_eq_true rfl) (Nat.le_refl _) hm rfl (fun v24 iv20 rv21 lv22 hq => ?_)
    obtain ⟨hT23, h⟩ := h v24 iv20 rv21 lv22 hq
    exact Z_iret (ty := .int) (by decide +kernel) rfl rfl rfl ⟨_, rfl, h⟩
theorem eX10_differenceOf {d : Nat} (x1 : Int32) {iv : zI} {rv : zR} {lv : zJ} {Q : Int32 → zI → zR → zJ → Prop} (h : Zi mX10_differenceOf (d + 1) 0 [some (.ref 0), some (.int x1)] [] iv rv lv Q) : Ci mX10_differenceOf (d + 1) [.ref 0, .int x1] iv rv lv Q := Ci.of (by decide +kernel) (by simp [Value.category]) (Nat.le_of_ble_eq_true rfl) rfl h
set_option maxRecDepth 4000 in
theorem bX10_differenceOf_0 {d : Nat} (x1 : Int32) {iv : zI} {rv : zR} {lv : zJ} {Q : Int32 → zI → zR → zJ → Prop} (hT : zTop rv) 
    (h : ∃ Q1 : Int32 → zI → zR → zJ → Prop, Ci mX10_noNumber d [.ref 0, .int x1] iv rv lv Q1 ∧ ∀ (v6 : Int32) (iv2 : zI) (rv3 : zR) (lv4 : zJ), Q1 v6 iv2 rv3 lv4 → zTop rv3 ∧ ((v6 = 0 → ∃ Q7 : zI → zR → zJ → Prop, Cv mX0_run d [.ref 79, .ref 8] iv2 rv3 lv4 Q7 ∧ ∀ (iv8 : zI) (rv9 : zR) (lv10 : zJ), Q7 iv8 rv9 lv10 → zTop rv9 ∧ (∃ Q13 : Int32 → zI → zR → zJ → Prop, Ci mX10_sideOf d [.int x1, .int (iv8 (80 + 2) 0)] iv8 rv9 lv10 Q13 ∧ ∀ (v18 : Int32) (iv14 : zI) (rv15 : zR) (lv16 : zJ), Q13 v18 iv14 rv15 lv16 → zTop rv15 ∧ (∃ Q19 : Int32 → zI → zR → zJ → Prop, Ci mX10_answer d [.ref 0, .int v18] iv14 rv15 lv16 Q19 ∧ ∀ (v24 : Int32) (iv20 : zI) (rv21 : zR) (lv22 : zJ), Q19 v24 iv20 rv21 lv22 → zTop rv21 ∧ (Q v24 iv20 rv21 lv22)))) ∧ (¬ v6 = 0 → ∃ Q25 : Int32 → zI → zR → zJ → Prop, Ci mX10_refuse d [.ref 0, .int (1 : Int32)] iv2 rv3 lv4 Q25 ∧ ∀ (v30 : Int32) (iv26 : zI) (rv27 : zR) (lv28 : zJ), Q25 v30 iv26 rv27 lv28 → zTop rv27 ∧ (Q v30 iv26 rv27 lv28)))) :
    Zi mX10_differenceOf (d + 1) 0 [some (.ref 0), some (.int x1)] [] iv rv lv Q := by
  unfold Zi
  refine Z_aload_n (a := 0) (q := 1) (by decide +kernel) rfl rfl ?_
  refine Z_iload_n (a := 1) (q := 2) (by decide +kernel) rfl rfl ?_
  obtain ⟨Q1, hm, h⟩ := h
  refine Z_callVi (M2 := mX10_noNumber) (idx := 163) (d2 := d) (ci := 10) (As := [.int _]) (q := 5) (by decide +kernel) kX10_noNumber lX10_163 rfl rfl (by decide) rfl rfl (by decide +kernel) (Nat.le_of_ble_eq_true rfl) (Nat.le_refl _) hm rfl (fun v6 iv2 rv3 lv4 hq => ?_)
  obtain ⟨hT5, h⟩ := h v6 iv2 rv3 lv4 hq
  refine Z_if_eq (t := 14) (off := 9) (q := 8) (by decide +kernel) (by decide) rfl (fun hc => ?_) (fun hc => ?_)
  · replace h := h.1 hc
    refine Z_aload_n (a := 0) (q := 15) (by decide +kernel) rfl rfl ?_
    refine g10_5 (idx := 44) (q := 18) (by decide +kernel) fX10_44 rfl (by decide) (t10_5 hT5) rfl ?_
    refine Z_aload_n (a := 0) (q := 19) (by decide +kernel) rfl rfl ?_
    refine g10_1 (idx := 19) (q := 22) (by decide +kernel) fX10_19 rfl (by decide) (t10_1 hT5) rfl ?_
    obtain ⟨Q7, hm, h⟩ := h
    refine Z_callVv (M2 := mX0_run) (idx := 198) (d2 := d) (ci := 0) (As := [.ref _]) (q := 25) (by decide +kernel) kX0_run lX10_198 rfl rfl (by decide) rfl rfl (by decide +kernel) (Nat.le_of_ble_eq_true rfl) (Nat.le_refl _) hm rfl (fun iv8 rv9 lv10 hq => ?_)
    obtain ⟨hT11, h⟩ := h iv8 rv9 lv10 hq
    refine Z_aload_n (a := 0) (q := 26) (by decide +kernel) rfl rfl ?_
    refine Z_iload_n (a := 1) (q := 27) (by decide +kernel) rfl rfl ?_
    refine Z_aload_n (a := 0) (q := 28) (by decide +kernel) rfl rfl ?_
    refine g10_5 (idx := 44) (q := 31) (by decide +kernel) fX10_44 rfl (by decide) (t10_5 hT11) rfl ?_
    refine g0_0 (idx := 201) (q := 34) (by decide +kernel) fX10_201 rfl (by decide) (t0_0 hT11) rfl ?_
    refine g3_2 (idx := 208) (q := 37) (by decide +kernel) fX10_208 (hS3_0 (by decide : 80 ∈ zIts)) (hL3_0 (by decide : 80 ∈ zIts)) (t3_2 hT11 (by decide : 80 ∈ zIts)) rfl ?_
    refine Z_iconst (a := 0) (v := 0) (q := 38) (by decide +kernel) (by decide +kernel) rfl ?_
    refine Z_iald (len := 10) (q := 39) (by decide +kernel) (hS3_2 (by decide : 80 ∈ zIts)) (hL3_2 (by decide : 80 ∈ zIts)) (by unfold vp_in; decide) rfl ?_
    obtain ⟨Q13, hm, h⟩ := h
    refine Z_callSi (M2 := mX10_sideOf) (idx := 211) (d2 := d) (As := [.int _, .int _]) (q := 42) (by decide +kernel) kX10_sideOf lX10_211 rfl rfl (by decide +kernel) (Nat.le_of_ble_eq_true rfl) (Nat.le_refl _) hm rfl (fun v18 iv14 rv15 lv16 hq => ?_)
    obtain ⟨hT17, h⟩ := h v18 iv14 rv15 lv16 hq
    obtain ⟨Q19, hm, h⟩ := h
    refine Z_callVi (M2 := mX10_answer) (idx := 133) (d2 := d) (ci := 10) (As := [.int _]) (q := 45) (by decide +kernel) kX10_answer lX10_133 rfl rfl (by decide) rfl rfl (by decide +kernel) (Nat.le_of_ble_eq_true rfl) (Nat.le_refl _) hm rfl (fun v24 iv20 rv21 lv22 hq => ?_)
    obtain ⟨hT23, h⟩ := h v24 iv20 rv21 lv22 hq
    exact Z_iret (ty := .int) (by decide +kernel) rfl rfl rfl ⟨_, rfl, h⟩
  · replace h := h.2 hc
    refine Z_aload_n (a := 0) (q := 9) (by decide +kernel) rfl rfl ?_
    refine Z_iconst (a := 1) (v := 1) (q := 10) (by decide +kernel) (by decide +kernel) rfl ?_
    obtain ⟨Q25, hm, h⟩ := h
    refine Z_callVi (M2 := mX10_refuse) (idx := 100) (d2 := d) (ci := 10) (As := [.int _]) (q := 13) (by decide +kernel) kX10_refuse lX10_100 rfl rfl (by decide) rfl rfl (by decide +kernel) (Nat.le_of_ble_eq_true rfl) (Nat.le_refl _) hm rfl (fun v30 iv26 rv27 lv28 hq => ?_)
    obtain ⟨hT29, h⟩ := h v30 iv26 rv27 lv28 hq
    exact Z_iret (ty := .int) (by decide +kernel) rfl rfl rfl ⟨_, rfl, h⟩
theorem eX10_step {d : Nat} (x1 : Int32) (x2 : Int32) {iv : zI} {rv : zR} {lv : zJ} {Q : Int32 → zI → zR → zJ → Prop} (h : Zi mX10_step (d + 1) 0 [some (.ref 0), some (.int x1), some (.int x2)] [] iv rv lv Q) : Ci mX10_step (d + 1) [.ref 0, .int x1, .int x2] iv rv lv Q := Ci.of (by decide +kernel) (by simp [Value.category]) (Nat.le_of_ble_eq_true rfl) rfl h
set_option maxRecDepth 4000 in
theorem bX10_step_0 {d : Nat} (x1 : Int32) (x2 : Int32) {iv : zI} {rv : zR} {lv : zJ} {Q : Int32 → zI → zR → zJ → Prop} (hT : zTop rv) 
    (h : ∃ Q1 : Int32 → zI → zR → zJ → Prop, Ci mX10_noText d [.ref 0] iv rv lv Q1 ∧ ∀ (v6 : Int32) (iv2 : zI) (rv3 : zR) (lv4 : zJ), Q1 v6 iv2 rv3 lv4 → zTop rv3 ∧ ((¬ v6 = 0 → ∃ Q7 : Int32 → zI → zR → zJ → Prop, Ci mX10_refuse d [.ref 0, .int (1 : Int32)] iv2 rv3 lv4 Q7 ∧ ∀ (v12 : Int32) (iv8 : zI) (rv9 : zR) (lv10 : zJ), Q7 v12 iv8 rv9 lv10 → zTop rv9 ∧ (Q v12 iv8 rv9 lv10)) ∧ (v6 = 0 → ∃ Q13 : Int32 → zI → zR → zJ → Prop, Ci mX10_notZeroOrOne d [.int x2] iv2 rv3 lv4 Q13 ∧ ∀ (v18 : Int32) (iv14 : zI) (rv15 : zR) (lv16 : zJ), Q13 v18 iv14 rv15 lv16 → zTop rv15 ∧ ((¬ v18 = 0 → ∃ Q19 : Int32 → zI → zR → zJ → Prop, Ci mX10_refuse d [.ref 0, .int (1 : Int32)] iv14 rv15 lv16 Q19 ∧ ∀ (v24 : Int32) (iv20 : zI) (rv21 : zR) (lv22 : zJ), Q19 v24 iv20 rv21 lv22 → zTop rv21 ∧ (Q v24 iv20 rv21 lv22)) ∧ (v18 = 0 → (x1 < 0 → ∃ Q25 : Int32 → zI → zR → zJ → Prop, Ci mX10_refuse d [.ref 0, .int (1 : Int32)] iv14 rv15 lv16 Q25 ∧ ∀ (v30 : Int32) (iv26 : zI) (rv27 : zR) (lv28 : zJ), Q25 v30 iv26 rv27 lv28 → zTop rv27 ∧ (Q v30 iv26 rv27 lv28)) ∧ (¬ x1 < 0 → (x1 < ((iv14 8 0) - (1 : Int32)) → ∃ Q31 : zI → zR → zJ → Prop, Cv mX0_run d [.ref 79, .ref 8] iv14 rv15 lv16 Q31 ∧ ∀ (iv32 : zI) (rv33 : zR) (lv34 : zJ), Q31 iv32 rv33 lv34 → zTop rv33 ∧ ((¬ x2 = 0 → vp_in x1 10 ∧ (∃ Q38 : Int32 → zI → zR → zJ → Prop, Ci mX10_answer d [.ref 0, .int (iv32 85 x1.toNatClampNeg)] iv32 rv33 lv34 Q38 ∧ ∀ (v43 : Int32) (iv39 : zI) (rv40 : zR) (lv41 : zJ), Q38 v43 iv39 rv40 lv41 → zTop rv40 ∧ (Q v43 iv39 rv40 lv41))) ∧ (x2 = 0 → vp_in x1 10 ∧ (∃ Q45 : Int32 → zI → zR → zJ → Prop, Ci mX10_answer d [.ref 0, .int (iv32 84 x1.toNatClampNeg)] iv32 rv33 lv34 Q45 ∧ ∀ (v50 : Int32) (iv46 : zI) (rv47 : zR) (lv48 : zJ), Q45 v50 iv46 rv47 lv48 → zTop rv47 ∧ (Q v50 iv46 rv47 lv48))))) ∧ (¬ x1 < ((iv14 8 0) - (1 : Int32)) → ∃ Q51 : Int32 → zI → zR → zJ → Prop, Ci mX10_refuse d [.ref 0, .int (1 : Int32)] iv14 rv15 lv16 Q51 ∧ ∀ (v56 : Int32) (iv52 : zI) (rv53 : zR) (lv54 : zJ), Q51 v56 iv52 rv53 lv54 → zTop rv53 ∧ (Q v56 iv52 rv53 lv54)))))))) :
    Zi mX10_step (d + 1) 0 [some (.ref 0), some (.int x1), some (.int x2)] [] iv rv lv Q := by
  unfold Zi
  refine Z_aload_n (a := 0) (q := 1) (by decide +kernel) rfl rfl ?_
  obtain ⟨Q1, hm, h⟩ := h
  refine Z_callVi (M2 := mX10_noText) (idx := 136) (d2 := d) (ci := 10) (As := []) (q := 4) (by decide +kernel) kX10_noText lX10_136 rfl rfl (by decide) rfl rfl (by decide +kernel) (Nat.le_of_ble_eq_true rfl) (Nat.le_refl _) hm rfl (fun v6 iv2 rv3 lv4 hq => ?_)
  obtain ⟨hT5, h⟩ := h v6 iv2 rv3 lv4 hq
  refine Z_if_ne (t := 31) (off := 27) (q := 7) (by decide +kernel) (by decide) rfl (fun hc => ?_) (fun hc => ?_)
  · replace h := h.1 hc
    refine Z_aload_n (a := 0) (q := 32) (by decide +kernel) rfl rfl ?_
    refine Z_iconst (a := 1) (v := 1) (q := 33) (by decide +kernel) (by decide +kernel) rfl ?_
    obtain ⟨Q7, hm, h⟩ := h
    refine Z_callVi (M2 := mX10_refuse) (idx := 100) (d2 := d) (ci := 10) (As := [.int _]) (q := 36) (by decide +kernel) kX10_refuse lX10_100 rfl rfl (by decide) rfl rfl (by decide +kernel) (Nat.le_of_ble_eq_true rfl) (Nat.le_refl _) hm rfl (fun v12 iv8 rv9 lv10 hq => ?_)
    obtain ⟨hT11, h⟩ := h v12 iv8 rv9 lv10 hq
    exact Z_iret (ty := .int) (by decide +kernel) rfl rfl rfl ⟨_, rfl, h⟩
  · replace h := h.2 hc
    refine Z_iload_n (a := 2) (q := 8) (by decide +kernel) rfl rfl ?_
    obtain ⟨Q13, hm, h⟩ := h
    refine Z_callSi (M2 := mX10_notZeroOrOne) (idx := 175) (d2 := d) (As := [.int _]) (q := 11) (by decide +kernel) kX10_notZeroOrOne lX10_175 rfl rfl (by decide +kernel) (Nat.le_of_ble_eq_true rfl) (Nat.le_refl _) hm rfl (fun v18 iv14 rv15 lv16 hq => ?_)
    obtain ⟨hT17, h⟩ := h v18 iv14 rv15 lv16 hq
    refine Z_if_ne (t := 31) (off := 20) (q := 14) (by decide +kernel) (by decide) rfl (fun hc => ?_) (fun hc => ?_)
    · replace h := h.1 hc
      refine Z_aload_n (a := 0) (q := 32) (by decide +kernel) rfl rfl ?_
      refine Z_iconst (a := 1) (v := 1) (q := 33) (by decide +kernel) (by decide +kernel) rfl ?_
      obtain ⟨Q19, hm, h⟩ := h
      refine Z_callVi (M2 := mX10_refuse) (idx := 100) (d2 := d) (ci := 10) (As := [.int _]) (q := 36) (by decide +kernel) kX10_refuse lX10_100 rfl rfl (by decide) rfl rfl (by decide +kernel) (Nat.le_of_ble_eq_true rfl) (Nat.le_refl _) hm rfl (fun v24 iv20 rv21 lv22 hq => ?_)
      obtain ⟨hT23, h⟩ := h v24 iv20 rv21 lv22 hq
      exact Z_iret (ty := .int) (by decide +kernel) rfl rfl rfl ⟨_, rfl, h⟩
    · replace h := h.2 hc
      refine Z_iload_n (a := 1) (q := 15) (by decide +kernel) rfl rfl ?_
      refine Z_if_lt (t := 31) (off := 16) (q := 18) (by decide +kernel) (by decide) rfl (fun hc => ?_) (fun hc => ?_)
      · replace h := h.1 hc
        refine Z_aload_n (a := 0) (q := 32) (by decide +kernel) rfl rfl ?_
        refine Z_iconst (a := 1) (v := 1) (q := 33) (by decide +kernel) (by decide +kernel) rfl ?_
        obtain ⟨Q25, hm, h⟩ := h
        refine Z_callVi (M2 := mX10_refuse) (idx := 100) (d2 := d) (ci := 10) (As := [.int _]) (q := 36) (by decide +kernel) kX10_refuse lX10_100 rfl rfl (by decide) rfl rfl (by decide +kernel) (Nat.le_of_ble_eq_true rfl) (Nat.le_refl _) hm rfl (fun v30 iv26 rv27 lv28 hq => ?_)
        obtain ⟨hT29, h⟩ := h v30 iv26 rv27 lv28 hq
        exact Z_iret (ty := .int) (by decide +kernel) rfl rfl rfl ⟨_, rfl, h⟩
      · replace h := h.2 hc
        refine Z_iload_n (a := 1) (q := 19) (by decide +kernel) rfl rfl ?_
        refine Z_aload_n (a := 0) (q := 20) (by decide +kernel) rfl rfl ?_
        refine g10_1 (idx := 19) (q := 23) (by decide +kernel) fX10_19 rfl (by decide) (t10_1 hT17) rfl ?_
        refine g9_0 (idx := 130) (q := 26) (by decide +kernel) fX10_130 (hS9_0 (by decide : 8 ∈ zSts)) (hL9_0 (by decide : 8 ∈ zSts)) rfl ?_
        refine Z_iconst (a := 1) (v := 1) (q := 27) (by decide +kernel) (by decide +kernel) rfl ?_
        refine Z_isub (q := 28) (by decide +kernel) rfl ?_
        refine Z_icmp_lt (t := 37) (off := 9) (q := 31) (by decide +kernel) (by decide) rfl (fun hc => ?_) (fun hc => ?_)
        · replace h := h.1 hc
          refine Z_aload_n (a := 0) (q := 38) (by decide +kernel) rfl rfl ?_
          refine g10_5 (idx := 44) (q := 41) (by decide +kernel) fX10_44 rfl (by decide) (t10_5 hT17) rfl ?_
          refine Z_aload_n (a := 0) (q := 42) (by decide +kernel) rfl rfl ?_
          refine g10_1 (idx := 19) (q := 45) (by decide +kernel) fX10_19 rfl (by decide) (t10_1 hT17) rfl ?_
          obtain ⟨Q31, hm, h⟩ := h
          refine Z_callVv (M2 := mX0_run) (idx := 198) (d2 := d) (ci := 0) (As := [.ref _]) (q := 48) (by decide +kernel) kX0_run lX10_198 rfl rfl (by decide) rfl rfl (by decide +kernel) (Nat.le_of_ble_eq_true rfl) (Nat.le_refl _) hm rfl (fun iv32 rv33 lv34 hq => ?_)
          obtain ⟨hT35, h⟩ := h iv32 rv33 lv34 hq
          refine Z_aload_n (a := 0) (q := 49) (by decide +kernel) rfl rfl ?_
          refine Z_iload_n (a := 2) (q := 50) (by decide +kernel) rfl rfl ?_
          refine Z_if_ne (t := 65) (off := 15) (q := 53) (by decide +kernel) (by decide) rfl (fun hc => ?_) (fun hc => ?_)
          · replace h := h.1 hc
            refine Z_aload_n (a := 0) (q := 66) (by decide +kernel) rfl rfl ?_
            refine g10_5 (idx := 44) (q := 69) (by decide +kernel) fX10_44 rfl (by decide) (t10_5 hT35) rfl ?_
            refine g0_2 (idx := 218) (q := 72) (by decide +kernel) fX10_218 rfl (by decide) (t0_2 hT35) rfl ?_
            refine Z_iload_n (a := 1) (q := 73) (by decide +kernel) rfl rfl ?_
            obtain ⟨hin37, h⟩ := h
            refine Z_iald (len := 10) (q := 74) (by decide +kernel) rfl (by decide) hin37 rfl ?_
            obtain ⟨Q38, hm, h⟩ := h
            refine Z_callVi (M2 := mX10_answer) (idx := 133) (d2 := d) (ci := 10) (As := [.int _]) (q := 77) (by decide +kernel) kX10_answer lX10_133 rfl rfl (by decide) rfl rfl (by decide +kernel) (Nat.le_of_ble_eq_true rfl) (Nat.le_refl _) hm rfl (fun v43 iv39 rv40 lv41 hq => ?_)
            obtain ⟨hT42, h⟩ := h v43 iv39 rv40 lv41 hq
            exact Z_iret (ty := .int) (by decide +kernel) rfl rfl rfl ⟨_, rfl, h⟩
          · replace h := h.2 hc
            refine Z_aload_n (a := 0) (q := 54) (by decide +kernel) rfl rfl ?_
            refine g10_5 (idx := 44) (q := 57) (by decide +kernel) fX10_44 rfl (by decide) (t10_5 hT35) rfl ?_
            refine g0_1 (idx := 215) (q := 60) (by decide +kernel) fX10_215 rfl (by decide) (t0_1 hT35) rfl ?_
            refine Z_iload_n (a := 1) (q := 61) (by decide +kernel) rfl rfl ?_
            obtain ⟨hin44, h⟩ := h
            refine Z_iald (len := 10) (q := 62) (by decide +kernel) rfl (by decide) hin44 rfl ?_
            refine Z_goto (q := 74) (off := 12) (by decide +kernel) (by decide) ?_
            obtain ⟨Q45, hm, h⟩ := h
            refine Z_callVi (M2 := mX10_answer) (idx := 133) (d2 := d) (ci := 10) (As := [.int _]) (q := 77) (by decide +kernel) kX10_answer lX10_133 rfl rfl (by decide) rfl rfl (by decide +kernel) (Nat.le_of_ble_eq_true rfl) (Nat.le_refl _) hm rfl (fun v50 iv46 rv47 lv48 hq => ?_)
            obtain ⟨hT49, h⟩ := h v50 iv46 rv47 lv48 hq
            exact Z_iret (ty := .int) (by decide +kernel) rfl rfl rfl ⟨_, rfl, h⟩
        · replace h := h.2 hc
          refine Z_aload_n (a := 0) (q := 32) (by decide +kernel) rfl rfl ?_
          refine Z_iconst (a := 1) (v := 1) (q := 33) (by decide +kernel) (by decide +kernel) rfl ?_
          obtain ⟨Q51, hm, h⟩ := h
          refine Z_callVi (M2 := mX10_refuse) (idx := 100) (d2 := d) (ci := 10) (As := [.int _]) (q := 36) (by decide +kernel) kX10_refuse lX10_100 rfl rfl (by decide) rfl rfl (by decide +kernel) (Nat.le_of_ble_eq_true rfl) (Nat.le_refl _) hm rfl (fun v56 iv52 rv53 lv54 hq => ?_)
          obtain ⟨hT55, h⟩ := h v56 iv52 rv53 lv54 hq
          exact Z_iret (ty := .int) (by decide +kernel) rfl rfl rfl ⟨_, rfl, h⟩
theorem eX10_multi {d : Nat} (x1 : Int32) {iv : zI} {rv : zR} {lv : zJ} {Q : Int32 → zI → zR → zJ → Prop} (h : Zi mX10_multi (d + 1) 0 [some (.ref 0), some (.int x1)] [] iv rv lv Q) : Ci mX10_multi (d + 1) [.ref 0, .int x1] iv rv lv Q := Ci.of (by decide +kernel) (by simp [Value.category]) (Nat.le_of_ble_eq_true rfl) rfl h
set_option maxRecDepth 4000 in
theorem bX10_multi_0 {d : Nat} (x1 : Int32) {iv : zI} {rv : zR} {lv : zJ} {Q : Int32 → zI → zR → zJ → Prop} (hT : zTop rv) 
    (h : ∃ Q1 : Int32 → zI → zR → zJ → Prop, Ci mX10_noText d [.ref 0] iv rv lv Q1 ∧ ∀ (v6 : Int32) (iv2 : zI) (rv3 : zR) (lv4 : zJ), Q1 v6 iv2 rv3 lv4 → zTop rv3 ∧ (∃ Q7 : Int32 → zI → zR → zJ → Prop, Ci mX10_noSuchHeaps d [.int x1] iv2 rv3 lv4 Q7 ∧ ∀ (v12 : Int32) (iv8 : zI) (rv9 : zR) (lv10 : zJ), Q7 v12 iv8 rv9 lv10 → zTop rv9 ∧ (∃ Q13 : Int32 → zI → zR → zJ → Prop, Ci mX10_refused d [.ref 0, .int v6, .int v12] iv8 rv9 lv10 Q13 ∧ ∀ (v18 : Int32) (iv14 : zI) (rv15 : zR) (lv16 : zJ), Q13 v18 iv14 rv15 lv16 → zTop rv15 ∧ ((v18 = 0 → ∃ Q19 : zI → zR → zJ → Prop, Cv mX4_run d [.ref 130, .ref 8, .int x1] iv14 rv15 lv16 Q19 ∧ ∀ (iv20 : zI) (rv21 : zR) (lv22 : zJ), Q19 iv20 rv21 lv22 → zTop rv21 ∧ (∃ Q25 : Int32 → zI → zR → zJ → Prop, Ci mX4_lastWidth d [.ref 130] iv20 rv21 lv22 Q25 ∧ ∀ (v30 : Int32) (iv26 : zI) (rv27 : zR) (lv28 : zJ), Q25 v30 iv26 rv27 lv28 → zTop rv27 ∧ (∃ Q31 : Int32 → zI → zR → zJ → Prop, Ci mX10_answer d [.ref 0, .int v30] iv26 rv27 lv28 Q31 ∧ ∀ (v36 : Int32) (iv32 : zI) (rv33 : zR) (lv34 : zJ), Q31 v36 iv32 rv33 lv34 → zTop rv33 ∧ (Q v36 iv32 rv33 lv34)))) ∧ (¬ v18 = 0 → Q (-1 : Int32) iv14 rv15 lv16))))) :
    Zi mX10_multi (d + 1) 0 [some (.ref 0), some (.int x1)] [] iv rv lv Q := by
  unfold Zi
  refine Z_aload_n (a := 0) (q := 1) (by decide +kernel) rfl rfl ?_
  refine Z_aload_n (a := 0) (q := 2) (by decide +kernel) rfl rfl ?_
  obtain ⟨Q1, hm, h⟩ := h
  refine Z_callVi (M2 := mX10_noText) (idx := 136) (d2 := d) (ci := 10) (As := []) (q := 5) (by decide +kernel) kX10_noText lX10_136 rfl rfl (by decide) rfl rfl (by decide +kernel) (Nat.le_of_ble_eq_true rfl) (Nat.le_refl _) hm rfl (fun v6 iv2 rv3 lv4 hq => ?_)
  obtain ⟨hT5, h⟩ := h v6 iv2 rv3 lv4 hq
  refine Z_iload_n (a := 1) (q := 6) (by decide +kernel) rfl rfl ?_
  obtain ⟨Q7, hm, h⟩ := h
  refine Z_callSi (M2 := mX10_noSuchHeaps) (idx := 178) (d2 := d) (As := [.int _]) (q := 9) (by decide +kernel) kX10_noSuchHeaps lX10_178 rfl rfl (by decide +kernel) (Nat.le_of_ble_eq_true rfl) (Nat.le_refl _) hm rfl (fun v12 iv8 rv9 lv10 hq => ?_)
  obtain ⟨hT11, h⟩ := h v12 iv8 rv9 lv10 hq
  obtain ⟨Q13, hm, h⟩ := h
  refine Z_callVi (M2 := mX10_refused) (idx := 181) (d2 := d) (ci := 10) (As := [.int _, .int _]) (q := 12) (by decide +kernel) kX10_refused lX10_181 rfl rfl (by decide) rfl rfl (by decide +kernel) (Nat.le_of_ble_eq_true rfl) (Nat.le_refl _) hm rfl (fun v18 iv14 rv15 lv16 hq => ?_)
  obtain ⟨hT17, h⟩ := h v18 iv14 rv15 lv16 hq
  refine Z_if_eq (t := 17) (off := 5) (q := 15) (by decide +kernel) (by decide) rfl (fun hc => ?_) (fun hc => ?_)
  · replace h := h.1 hc
    refine Z_aload_n (a := 0) (q := 18) (by decide +kernel) rfl rfl ?_
    refine g10_7 (idx := 58) (q := 21) (by decide +kernel) fX10_58 rfl (by decide) (t10_7 hT17) rfl ?_
    refine Z_aload_n (a := 0) (q := 22) (by decide +kernel) rfl rfl ?_
    refine g10_1 (idx := 19) (q := 25) (by decide +kernel) fX10_19 rfl (by decide) (t10_1 hT17) rfl ?_
    refine Z_iload_n (a := 1) (q := 26) (by decide +kernel) rfl rfl ?_
    obtain ⟨Q19, hm, h⟩ := h
    refine Z_callVv (M2 := mX4_run) (idx := 221) (d2 := d) (ci := 4) (As := [.ref _, .int _]) (q := 29) (by decide +kernel) kX4_run lX10_221 rfl rfl (by decide) rfl rfl (by decide +kernel) (Nat.le_of_ble_eq_true rfl) (Nat.le_refl _) hm rfl (fun iv20 rv21 lv22 hq => ?_)
    obtain ⟨hT23, h⟩ := h iv20 rv21 lv22 hq
    refine Z_aload_n (a := 0) (q := 30) (by decide +kernel) rfl rfl ?_
    refine Z_aload_n (a := 0) (q := 31) (by decide +kernel) rfl rfl ?_
    refine g10_7 (idx := 58) (q := 34) (by decide +kernel) fX10_58 rfl (by decide) (t10_7 hT23) rfl ?_
    obtain ⟨Q25, hm, h⟩ := h
    refine Z_callVi (M2 := mX4_lastWidth) (idx := 223) (d2 := d) (ci := 4) (As := []) (q := 37) (by decide +kernel) kX4_lastWidth lX10_223 rfl rfl (by decide) rfl rfl (by decide +kernel) (Nat.le_of_ble_eq_true rfl) (Nat.le_refl _) hm rfl (fun v30 iv26 rv27 lv28 hq => ?_)
    obtain ⟨hT29, h⟩ := h v30 iv26 rv27 lv28 hq
    obtain ⟨Q31, hm, h⟩ := h
    refine Z_callVi (M2 := mX10_answer) (idx := 133) (d2 := d) (ci := 10) (As := [.int _]) (q := 40) (by decide +kernel) kX10_answer lX10_133 rfl rfl (by decide) rfl rfl (by decide +kernel) (Nat.le_of_ble_eq_true rfl) (Nat.le_refl _) hm rfl (fun v36 iv32 rv33 lv34 hq => ?_)
    obtain ⟨hT35, h⟩ := h v36 iv32 rv33 lv34 hq
    exact Z_iret (ty := .int) (by decide +kernel) rfl rfl rfl ⟨_, rfl, h⟩
  · replace h := h.2 hc
    refine Z_iconst (a := -1) (v := -1) (q := 16) (by decide +kernel) (by decide +kernel) rfl ?_
    exact Z_iret (ty := .int) (by decide +kernel) rfl rfl rfl ⟨_, rfl, h⟩
theorem eX10_multiOf {d : Nat} (x1 : Int32) (x2 : Int32) {iv : zI} {rv : zR} {lv : zJ} {Q : Int32 → zI → zR → zJ → Prop} (h : Zi mX10_multiOf (d + 1) 0 [some (.ref 0), some (.int x1), some (.int x2)] [] iv rv lv Q) : Ci mX10_multiOf (d + 1) [.ref 0, .int x1, .int x2] iv rv lv Q := Ci.of (by decide +kernel) (by simp [Value.category]) (Nat.le_of_ble_eq_true rfl) rfl h
set_option maxRecDepth 4000 in
theorem bX10_multiOf_0 {d : Nat} (x1 : Int32) (x2 : Int32) {iv : zI} {rv : zR} {lv : zJ} {Q : Int32 → zI → zR → zJ → Prop} (hT : zTop rv) 
    (h : ∃ Q1 : Int32 → zI → zR → zJ → Prop, Ci mX10_noNumber d [.ref 0, .int x2] iv rv lv Q1 ∧ ∀ (v6 : Int32) (iv2 : zI) (rv3 : zR) (lv4 : zJ), Q1 v6 iv2 rv3 lv4 → zTop rv3 ∧ (∃ Q7 : Int32 → zI → zR → zJ → Prop, Ci mX10_noSuchHeaps d [.int x1] iv2 rv3 lv4 Q7 ∧ ∀ (v12 : Int32) (iv8 : zI) (rv9 : zR) (lv10 : zJ), Q7 v12 iv8 rv9 lv10 → zTop rv9 ∧ (∃ Q13 : Int32 → zI → zR → zJ → Prop, Ci mX10_refused d [.ref 0, .int v6, .int v12] iv8 rv9 lv10 Q13 ∧ ∀ (v18 : Int32) (iv14 : zI) (rv15 : zR) (lv16 : zJ), Q13 v18 iv14 rv15 lv16 → zTop rv15 ∧ ((v18 = 0 → ∃ Q19 : zI → zR → zJ → Prop, Cv mX4_run d [.ref 130, .ref 8, .int x1] iv14 rv15 lv16 Q19 ∧ ∀ (iv20 : zI) (rv21 : zR) (lv22 : zJ), Q19 iv20 rv21 lv22 → zTop rv21 ∧ (∃ Q25 : Int32 → zI → zR → zJ → Prop, Ci mX4_heapOf d [.ref 130, .int x2] iv20 rv21 lv22 Q25 ∧ ∀ (v30 : Int32) (iv26 : zI) (rv27 : zR) (lv28 : zJ), Q25 v30 iv26 rv27 lv28 → zTop rv27 ∧ (∃ Q31 : Int32 → zI → zR → zJ → Prop, Ci mX10_answer d [.ref 0, .int v30] iv26 rv27 lv28 Q31 ∧ ∀ (v36 : Int32) (iv32 : zI) (rv33 : zR) (lv34 : zJ), Q31 v36 iv32 rv33 lv34 → zTop rv33 ∧ (Q v36 iv32 rv33 lv34)))) ∧ (¬ v18 = 0 → Q (-1 : Int32) iv14 rv15 lv16))))) :
    Zi mX10_multiOf (d + 1) 0 [some (.ref 0), some (.int x1), some (.int x2)] [] iv rv lv Q := by
  unfold Zi
  refine Z_aload_n (a := 0) (q := 1) (by decide +kernel) rfl rfl ?_
  refine Z_aload_n (a := 0) (q := 2) (by decide +kernel) rfl rfl ?_
  refine Z_iload_n (a := 2) (q := 3) (by decide +kernel) rfl rfl ?_
  obtain ⟨Q1, hm, h⟩ := h
  refine Z_callVi (M2 := mX10_noNumber) (idx := 163) (d2 := d) (ci := 10) (As := [.int _]) (q := 6) (by decide +kernel) kX10_noNumber lX10_163 rfl rfl (by decide) rfl rfl (by decide +kernel) (Nat.le_of_ble_eq_true rfl) (Nat.le_refl _) hm rfl (fun v6 iv2 rv3 lv4 hq => ?_)
  obtain ⟨hT5, h⟩ := h v6 iv2 rv3 lv4 hq
  refine Z_iload_n (a := 1) (q := 7) (by decide +kernel) rfl rfl ?_
  obtain ⟨Q7, hm, h⟩ := h
  refine Z_callSi (M2 := mX10_noSuchHeaps) (idx := 178) (d2 := d) (As := [.int _]) (q := 10) (by decide +kernel) kX10_noSuchHeaps lX10_178 rfl rfl (by decide +kernel) (Nat.le_of_ble_eq_true rfl) (Nat.le_refl _) hm rfl (fun v12 iv8 rv9 lv10 hq => ?_)
  obtain ⟨hT11, h⟩ := h v12 iv8 rv9 lv10 hq
  obtain ⟨Q13, hm, h⟩ := h
  refine Z_callVi (M2 := mX10_refused) (idx := 181) (d2 := d) (ci := 10) (As := [.int _, .int _]) (q := 13) (by decide +kernel) kX10_refused lX10_181 rfl rfl (by decide) rfl rfl (by decide +kernel) (Nat.le_of_ble_eq_true rfl) (Nat.le_refl _) hm rfl (fun v18 iv14 rv15 lv16 hq => ?_)
  obtain ⟨hT17, h⟩ := h v18 iv14 rv15 lv16 hq
  refine Z_if_eq (t := 18) (off := 5) (q := 16) (by decide +kernel) (by decide) rfl (fun hc => ?_) (fun hc => ?_)
  · replace h := h.1 hc
    refine Z_aload_n (a := 0) (q := 19) (by decide +kernel) rfl rfl ?_
    refine g10_7 (idx := 58) (q := 22) (by decide +kernel) fX10_58 rfl (by decide) (t10_7 hT17) rfl ?_
    refine Z_aload_n (a := 0) (q := 23) (by decide +kernel) rfl rfl ?_
    refine g10_1 (idx := 19) (q := 26) (by decide +kernel) fX10_19 rfl (by decide) (t10_1 hT17) rfl ?_
    refine Z_iload_n (a := 1) (q := 27) (by decide +kernel) rfl rfl ?_
    obtain ⟨Q19, hm, h⟩ := h
    refine Z_callVv (M2 := mX4_run) (idx := 221) (d2 := d) (ci := 4) (As := [.ref _, .int _]) (q := 30) (by decide +kernel) kX4_run lX10_221 rfl rfl (by decide) rfl rfl (by decide +kernel) (Nat.le_of_ble_eq_true rfl) (Nat.le_refl _) hm rfl (fun iv20 rv21 lv22 hq => ?_)
    obtain ⟨hT23, h⟩ := h iv20 rv21 lv22 hq
    refine Z_aload_n (a := 0) (q := 31) (by decide +kernel) rfl rfl ?_
    refine Z_aload_n (a := 0) (q := 32) (by decide +kernel) rfl rfl ?_
    refine g10_7 (idx := 58) (q := 35) (by decide +kernel) fX10_58 rfl (by decide) (t10_7 hT23) rfl ?_
    refine Z_iload_n (a := 2) (q := 36) (by decide +kernel) rfl rfl ?_
    obtain ⟨Q25, hm, h⟩ := h
    refine Z_callVi (M2 := mX4_heapOf) (idx := 226) (d2 := d) (ci := 4) (As := [.int _]) (q := 39) (by decide +kernel) kX4_heapOf lX10_226 rfl rfl (by decide) rfl rfl (by decide +kernel) (Nat.le_of_ble_eq_true rfl) (Nat.le_refl _) hm rfl (fun v30 iv26 rv27 lv28 hq => ?_)
    obtain ⟨hT29, h⟩ := h v30 iv26 rv27 lv28 hq
    obtain ⟨Q31, hm, h⟩ := h
    refine Z_callVi (M2 := mX10_answer) (idx := 133) (d2 := d) (ci := 10) (As := [.int _]) (q := 42) (by decide +kernel) kX10_answer lX10_133 rfl rfl (by decide) rfl rfl (by decide +kernel) (Nat.le_of_ble_eq_true rfl) (Nat.le_refl _) hm rfl (fun v36 iv32 rv33 lv34 hq => ?_)
    obtain ⟨hT35, h⟩ := h v36 iv32 rv33 lv34 hq
    exact Z_iret (ty := .int) (by decide +kernel) rfl rfl rfl ⟨_, rfl, h⟩
  · replace h := h.2 hc
    refine Z_iconst (a := -1) (v := -1) (q := 17) (by decide +kernel) (by decide +kernel) rfl ?_
    exact Z_iret (ty := .int) (by decide +kernel) rfl rfl rfl ⟨_, rfl, h⟩
theorem eX10_search {d : Nat} (x1 : Int32) {iv : zI} {rv : zR} {lv : zJ} {Q : Int32 → zI → zR → zJ → Prop} (h : Zi mX10_search (d + 1) 0 [some (.ref 0), some (.int x1)] [] iv rv lv Q) : Ci mX10_search (d + 1) [.ref 0, .int x1] iv rv lv Q := Ci.of (by decide +kernel) (by simp [Value.category]) (Nat.le_of_ble_eq_true rfl) rfl h
set_option maxRecDepth 4000 in
theorem bX10_search_0 {d : Nat} (x1 : Int32) {iv : zI} {rv : zR} {lv : zJ} {Q : Int32 → zI → zR → zJ → Prop} (hT : zTop rv) 
    (h : ∃ Q1 : Int32 → zI → zR → zJ → Prop, Ci mX10_noText d [.ref 0] iv rv lv Q1 ∧ ∀ (v6 : Int32) (iv2 : zI) (rv3 : zR) (lv4 : zJ), Q1 v6 iv2 rv3 lv4 → zTop rv3 ∧ ((v6 = 0 → ∃ Q7 : zI → zR → zJ → Prop, Cv mX7_prepare d [.ref 86, .ref 8, .int (iv2 0 3)] iv2 rv3 lv4 Q7 ∧ ∀ (iv8 : zI) (rv9 : zR) (lv10 : zJ), Q7 iv8 rv9 lv10 → zTop rv9 ∧ ((x1 = 0 → ∃ Q13 : Int32 → zI → zR → zJ → Prop, Ci mX10_answer d [.ref 0, .int (iv8 86 0)] iv8 rv9 lv10 Q13 ∧ ∀ (v18 : Int32) (iv14 : zI) (rv15 : zR) (lv16 : zJ), Q13 v18 iv14 rv15 lv16 → zTop rv15 ∧ (Q v18 iv14 rv15 lv16)) ∧ (x1 = 1 → ∃ Q19 : Int32 → zI → zR → zJ → Prop, Ci mX10_answer d [.ref 0, .int (iv8 86 1)] iv8 rv9 lv10 Q19 ∧ ∀ (v24 : Int32) (iv20 : zI) (rv21 : zR) (lv22 : zJ), Q19 v24 iv20 rv21 lv22 → zTop rv21 ∧ (Q v24 iv20 rv21 lv22)) ∧ (x1 = 2 → ∃ Q25 : Int32 → zI → zR → zJ → Prop, Ci mX10_answer d [.ref 0, .int (iv8 86 2)] iv8 rv9 lv10 Q25 ∧ ∀ (v30 : Int32) (iv26 : zI) (rv27 : zR) (lv28 : zJ), Q25 v30 iv26 rv27 lv28 → zTop rv27 ∧ (Q v30 iv26 rv27 lv28)) ∧ (x1 = 3 → ∃ Q31 : Int32 → zI → zR → zJ → Prop, Ci mX10_answer d [.ref 0, .int (iv8 86 3)] iv8 rv9 lv10 Q31 ∧ ∀ (v36 : Int32) (iv32 : zI) (rv33 : zR) (lv34 : zJ), Q31 v36 iv32 rv33 lv34 → zTop rv33 ∧ (Q v36 iv32 rv33 lv34)) ∧ (x1 = 4 → ((iv8 86 4) = 0 → ∃ Q37 : Int32 → zI → zR → zJ → Prop, Ci mX10_answer d [.ref 0, .int (0 : Int32)] iv8 rv9 lv10 Q37 ∧ ∀ (v42 : Int32) (iv38 : zI) (rv39 : zR) (lv40 : zJ), Q37 v42 iv38 rv39 lv40 → zTop rv39 ∧ (Q v42 iv38 rv39 lv40)) ∧ (¬ (iv8 86 4) = 0 → ∃ Q43 : Int32 → zI → zR → zJ → Prop, Ci mX10_answer d [.ref 0, .int (1 : Int32)] iv8 rv9 lv10 Q43 ∧ ∀ (v48 : Int32) (iv44 : zI) (rv45 : zR) (lv46 : zJ), Q43 v48 iv44 rv45 lv46 → zTop rv45 ∧ (Q v48 iv44 rv45 lv46))) ∧ (¬ x1 = 0 → ¬ x1 = 1 → ¬ x1 = 2 → ¬ x1 = 3 → ¬ x1 = 4 → ∃ Q49 : Int32 → zI → zR → zJ → Prop, Ci mX10_refuse d [.ref 0, .int (1 : Int32)] iv8 rv9 lv10 Q49 ∧ ∀ (v54 : Int32) (iv50 : zI) (rv51 : zR) (lv52 : zJ), Q49 v54 iv50 rv51 lv52 → zTop rv51 ∧ (Q v54 iv50 rv51 lv52)))) ∧ (¬ v6 = 0 → ∃ Q55 : Int32 → zI → zR → zJ → Prop, Ci mX10_refuse d [.ref 0, .int (1 : Int32)] iv2 rv3 lv4 Q55 ∧ ∀ (v60 : Int32) (iv56 : zI) (rv57 : zR) (lv58 : zJ), Q55 v60 iv56 rv57 lv58 → zTop rv57 ∧ (Q v60 iv56 rv57 lv58)))) :
    Zi mX10_search (d + 1) 0 [some (.ref 0), some (.int x1)] [] iv rv lv Q := by
  unfold Zi
  refine Z_aload_n (a := 0) (q := 1) (by decide +kernel) rfl rfl ?_
  obtain ⟨Q1, hm, h⟩ := h
  refine Z_callVi (M2 := mX10_noText) (idx := 136) (d2 := d) (ci := 10) (As := []) (q := 4) (by decide +kernel) kX10_noText lX10_136 rfl rfl (by decide) rfl rfl (by decide +kernel) (Nat.le_of_ble_eq_true rfl) (Nat.le_refl _) hm rfl (fun v6 iv2 rv3 lv4 hq => ?_)
  obtain ⟨hT5, h⟩ := h v6 iv2 rv3 lv4 hq
  refine Z_if_eq (t := 13) (off := 9) (q := 7) (by decide +kernel) (by decide) rfl (fun hc => ?_) (fun hc => ?_)
  · replace h := h.1 hc
    refine Z_aload_n (a := 0) (q := 14) (by decide +kernel) rfl rfl ?_
    refine g10_6 (idx := 51) (q := 17) (by decide +kernel) fX10_51 rfl (by decide) (t10_6 hT5) rfl ?_
    refine Z_aload_n (a := 0) (q := 18) (by decide +kernel) rfl rfl ?_
    refine g10_1 (idx := 19) (q := 21) (by decide +kernel) fX10_19 rfl (by decide) (t10_1 hT5) rfl ?_
    refine Z_aload_n (a := 0) (q := 22) (by decide +kernel) rfl rfl ?_
    refine g10_3 (idx := 30) (q := 25) (by decide +kernel) fX10_30 rfl (by decide) rfl ?_
    obtain ⟨Q7, hm, h⟩ := h
    refine Z_callVv (M2 := mX7_prepare) (idx := 228) (d2 := d) (ci := 7) (As := [.ref _, .int _]) (q := 28) (by decide +kernel) kX7_prepare lX10_228 rfl rfl (by decide) rfl rfl (by decide +kernel) (Nat.le_of_ble_eq_true rfl) (Nat.le_refl _) hm rfl (fun iv8 rv9 lv10 hq => ?_)
    obtain ⟨hT11, h⟩ := h iv8 rv9 lv10 hq
    refine Z_iload_n (a := 1) (q := 29) (by decide +kernel) rfl rfl ?_
    by_cases hk0 : x1 = 0
    · replace h := h.1 hk0
      refine Z_tableIn (q := 64) (off := 35) (by decide +kernel : decode mX10_search.2.1 29 = .ok (.tableswitch 103 0 4 #[35, 47, 59, 71, 83], 35)) (by rw [hk0]; decide) (by rw [hk0]; decide) (by rw [hk0]; rfl) (by decide) ?_
      refine Z_aload_n (a := 0) (q := 65) (by decide +kernel) rfl rfl ?_
      refine Z_aload_n (a := 0) (q := 66) (by decide +kernel) rfl rfl ?_
      refine g10_6 (idx := 51) (q := 69) (by decide +kernel) fX10_51 rfl (by decide) (t10_6 hT11) rfl ?_
      refine g7_0 (idx := 231) (q := 72) (by decide +kernel) fX10_231 rfl (by decide) rfl ?_
      obtain ⟨Q13, hm, h⟩ := h
      refine Z_callVi (M2 := mX10_answer) (idx := 133) (d2 := d) (ci := 10) (As := [.int _]) (q := 75) (by decide +kernel) kX10_answer lX10_133 rfl rfl (by decide) rfl rfl (by decide +kernel) (Nat.le_of_ble_eq_true rfl) (Nat.le_refl _) hm rfl (fun v18 iv14 rv15 lv16 hq => ?_)
      obtain ⟨hT17, h⟩ := h v18 iv14 rv15 lv16 hq
      exact Z_iret (ty := .int) (by decide +kernel) rfl rfl rfl ⟨_, rfl, h⟩
    replace h := h.2
    by_cases hk1 : x1 = 1
    · replace h := h.1 hk1
      refine Z_tableIn (q := 76) (off := 47) (by decide +kernel : decode mX10_search.2.1 29 = .ok (.tableswitch 103 0 4 #[35, 47, 59, 71, 83], 35)) (by rw [hk1]; decide) (by rw [hk1]; decide) (by rw [hk1]; rfl) (by decide) ?_
      refine Z_aload_n (a := 0) (q := 77) (by decide +kernel) rfl rfl ?_
      refine Z_aload_n (a := 0) (q := 78) (by decide +kernel) rfl rfl ?_
      refine g10_6 (idx := 51) (q := 81) (by decide +kernel) fX10_51 rfl (by decide) (t10_6 hT11) rfl ?_
      refine g7_1 (idx := 234) (q := 84) (by decide +kernel) fX10_234 rfl (by decide) rfl ?_
      obtain ⟨Q19, hm, h⟩ := h
      refine Z_callVi (M2 := mX10_answer) (idx := 133) (d2 := d) (ci := 10) (As := [.int _]) (q := 87) (by decide +kernel) kX10_answer lX10_133 rfl rfl (by decide) rfl rfl (by decide +kernel) (Nat.le_of_ble_eq_true rfl) (Nat.le_refl _) hm rfl (fun v24 iv20 rv21 lv22 hq => ?_)
      obtain ⟨hT23, h⟩ := h v24 iv20 rv21 lv22 hq
      exact Z_iret (ty := .int) (by decide +kernel) rfl rfl rfl ⟨_, rfl, h⟩
    replace h := h.2
    by_cases hk2 : x1 = 2
    · replace h := h.1 hk2
      refine Z_tableIn (q := 88) (off := 59) (by decide +kernel : decode mX10_search.2.1 29 = .ok (.tableswitch 103 0 4 #[35, 47, 59, 71, 83], 35)) (by rw [hk2]; decide) (by rw [hk2]; decide) (by rw [hk2]; rfl) (by decide) ?_
      refine Z_aload_n (a := 0) (q := 89) (by decide +kernel) rfl rfl ?_
      refine Z_aload_n (a := 0) (q := 90) (by decide +kernel) rfl rfl ?_
      refine g10_6 (idx := 51) (q := 93) (by decide +kernel) fX10_51 rfl (by decide) (t10_6 hT11) rfl ?_
      refine g7_2 (idx := 237) (q := 96) (by decide +kernel) fX10_237 rfl (by decide) rfl ?_
      obtain ⟨Q25, hm, h⟩ := h
      refine Z_callVi (M2 := mX10_answer) (idx := 133) (d2 := d) (ci := 10) (As := [.int _]) (q := 99) (by decide +kernel) kX10_answer lX10_133 rfl rfl (by decide) rfl rfl (by decide +kernel) (Nat.le_of_ble_eq_true rfl) (Nat.le_refl _) hm rfl (fun v30 iv26 rv27 lv28 hq => ?_)
      obtain ⟨hT29, h⟩ := h v30 iv26 rv27 lv28 hq
      exact Z_iret (ty := .int) (by decide +kernel) rfl rfl rfl ⟨_, rfl, h⟩
    replace h := h.2
    by_cases hk3 : x1 = 3
    · replace h := h.1 hk3
      refine Z_tableIn (q := 100) (off := 71) (by decide +kernel : decode mX10_search.2.1 29 = .ok (.tableswitch 103 0 4 #[35, 47, 59, 71, 83], 35)) (by rw [hk3]; decide) (by rw [hk3]; decide) (by rw [hk3]; rfl) (by decide) ?_
      refine Z_aload_n (a := 0) (q := 101) (by decide +kernel) rfl rfl ?_
      refine Z_aload_n (a := 0) (q := 102) (by decide +kernel) rfl rfl ?_
      refine g10_6 (idx := 51) (q := 105) (by decide +kernel) fX10_51 rfl (by decide) (t10_6 hT11) rfl ?_
      refine g7_3 (idx := 240) (q := 108) (by decide +kernel) fX10_240 rfl (by decide) rfl ?_
      obtain ⟨Q31, hm, h⟩ := h
      refine Z_callVi (M2 := mX10_answer) (idx := 133) (d2 := d) (ci := 10) (As := [.int _]) (q := 111) (by decide +kernel) kX10_answer lX10_133 rfl rfl (by decide) rfl rfl (by decide +kernel) (Nat.le_of_ble_eq_true rfl) (Nat.le_refl _) hm rfl (fun v36 iv32 rv33 lv34 hq => ?_)
      obtain ⟨hT35, h⟩ := h v36 iv32 rv33 lv34 hq
      exact Z_iret (ty := .int) (by decide +kernel) rfl rfl rfl ⟨_, rfl, h⟩
    replace h := h.2
    by_cases hk4 : x1 = 4
    · replace h := h.1 hk4
      refine Z_tableIn (q := 112) (off := 83) (by decide +kernel : decode mX10_search.2.1 29 = .ok (.tableswitch 103 0 4 #[35, 47, 59, 71, 83], 35)) (by rw [hk4]; decide) (by rw [hk4]; decide) (by rw [hk4]; rfl) (by decide) ?_
      refine Z_aload_n (a := 0) (q := 113) (by decide +kernel) rfl rfl ?_
      refine Z_aload_n (a := 0) (q := 114) (by decide +kernel) rfl rfl ?_
      refine g10_6 (idx := 51) (q := 117) (by decide +kernel) fX10_51 rfl (by decide) (t10_6 hT11) rfl ?_
      refine g7_4 (idx := 243) (q := 120) (by decide +kernel) fX10_243 rfl (by decide) rfl ?_
      refine Z_if_eq (t := 127) (off := 7) (q := 123) (by decide +kernel) (by decide) rfl (fun hc => ?_) (fun hc => ?_)
      · replace h := h.1 hc
        refine Z_iconst (a := 0) (v := 0) (q := 128) (by decide +kernel) (by decide +kernel) rfl ?_
        obtain ⟨Q37, hm, h⟩ := h
        refine Z_callVi (M2 := mX10_answer) (idx := 133) (d2 := d) (ci := 10) (As := [.int _]) (q := 131) (by decide +kernel) kX10_answer lX10_133 rfl rfl (by decide) rfl rfl (by decide +kernel) (Nat.le_of_ble_eq_true rfl) (Nat.le_refl _) hm rfl (fun v42 iv38 rv39 lv40 hq => ?_)
        obtain ⟨hT41, h⟩ := h v42 iv38 rv39 lv40 hq
        exact Z_iret (ty := .int) (by decide +kernel) rfl rfl rfl ⟨_, rfl, h⟩
      · replace h := h.2 hc
        refine Z_iconst (a := 1) (v := 1) (q := 124) (by decide +kernel) (by decide +kernel) rfl ?_
        refine Z_goto (q := 128) (off := 4) (by decide +kernel) (by decide) ?_
        obtain ⟨Q43, hm, h⟩ := h
        refine Z_callVi (M2 := mX10_answer) (idx := 133) (d2 := d) (ci := 10) (As := [.int _]) (q := 131) (by decide +kernel) kX10_answer lX10_133 rfl rfl (by decide) rfl rfl (by decide +kernel) (Nat.le_of_ble_eq_true rfl) (Nat.le_refl _) hm rfl (fun v48 iv44 rv45 lv46 hq => ?_)
        obtain ⟨hT47, h⟩ := h v48 iv44 rv45 lv46 hq
        exact Z_iret (ty := .int) (by decide +kernel) rfl rfl rfl ⟨_, rfl, h⟩
    replace h := h.2
    replace h := h hk0 hk1 hk2 hk3 hk4
    have hout : x1.toInt < 0 ∨ 4 < x1.toInt := by
      rcases Int.lt_or_le x1.toInt 0 with h1 | h1
      · exact Or.inl h1
      rcases Int.lt_or_le 4 x1.toInt with h2 | h2
      · exact Or.inr h2
      exfalso
      rcases (show x1.toInt = 0 ∨ x1.toInt = 1 ∨ x1.toInt = 2 ∨ x1.toInt = 3 ∨ x1.toInt = 4 by omega) with h3 | h3 | h3 | h3 | h3
      · exact hk0 (zeqI h3)
      · exact hk1 (zeqI h3)
      · exact hk2 (zeqI h3)
      · exact hk3 (zeqI h3)
      · exact hk4 (zeqI h3)
    refine Z_tableOut (q := 132) (by decide +kernel : decode mX10_search.2.1 29 = .ok (.tableswitch 103 0 4 #[35, 47, 59, 71, 83], 35)) hout (by decide) ?_
    refine Z_aload_n (a := 0) (q := 133) (by decide +kernel) rfl rfl ?_
    refine Z_iconst (a := 1) (v := 1) (q := 134) (by decide +kernel) (by decide +kernel) rfl ?_
    obtain ⟨Q49, hm, h⟩ := h
    refine Z_callVi (M2 := mX10_refuse) (idx := 100) (d2 := d) (ci := 10) (As := [.int _]) (q := 137) (by decide +kernel) kX10_refuse lX10_100 rfl rfl (by decide) rfl rfl (by decide +kernel) (Nat.le_of_ble_eq_true rfl) (Nat.le_refl _) hm rfl (fun v54 iv50 rv51 lv52 hq => ?_)
    obtain ⟨hT53, h⟩ := h v54 iv50 rv51 lv52 hq
    exact Z_iret (ty := .int) (by decide +kernel) rfl rfl rfl ⟨_, rfl, h⟩
  · replace h := h.2 hc
    refine Z_aload_n (a := 0) (q := 8) (by decide +kernel) rfl rfl ?_
    refine Z_iconst (a := 1) (v := 1) (q := 9) (by decide +kernel) (by decide +kernel) rfl ?_
    obtain ⟨Q55, hm, h⟩ := h
    refine Z_callVi (M2 := mX10_refuse) (idx := 100) (d2 := d) (ci := 10) (As := [.int _]) (q := 12) (by decide +kernel) kX10_refuse lX10_100 rfl rfl (by decide) rfl rfl (by decide +kernel) (Nat.le_of_ble_eq_true rfl) (Nat.le_refl _) hm rfl (fun v60 iv56 rv57 lv58 hq => ?_)
    obtain ⟨hT59, h⟩ := h v60 iv56 rv57 lv58 hq
    exact Z_iret (ty := .int) (by decide +kernel) rfl rfl rfl ⟨_, rfl, h⟩
theorem eX10_find {d : Nat} (x1 : Int32) (x2 : Int32) {iv : zI} {rv : zR} {lv : zJ} {Q : Int32 → zI → zR → zJ → Prop} (h : Zi mX10_find (d + 1) 0 [some (.ref 0), some (.int x1), some (.int x2)] [] iv rv lv Q) : Ci mX10_find (d + 1) [.ref 0, .int x1, .int x2] iv rv lv Q := Ci.of (by decide +kernel) (by simp [Value.category]) (Nat.le_of_ble_eq_true rfl) rfl h
set_option maxRecDepth 4000 in
theorem bX10_find_0 {d : Nat} (x1 : Int32) (x2 : Int32) {iv : zI} {rv : zR} {lv : zJ} {Q : Int32 → zI → zR → zJ → Prop} (hT : zTop rv) 
    (h : ∃ Q1 : Int32 → zI → zR → zJ → Prop, Ci mX10_noText d [.ref 0] iv rv lv Q1 ∧ ∀ (v6 : Int32) (iv2 : zI) (rv3 : zR) (lv4 : zJ), Q1 v6 iv2 rv3 lv4 → zTop rv3 ∧ ((¬ v6 = 0 → ∃ Q7 : Int32 → zI → zR → zJ → Prop, Ci mX10_refuse d [.ref 0, .int (1 : Int32)] iv2 rv3 lv4 Q7 ∧ ∀ (v12 : Int32) (iv8 : zI) (rv9 : zR) (lv10 : zJ), Q7 v12 iv8 rv9 lv10 → zTop rv9 ∧ (Q v12 iv8 rv9 lv10)) ∧ (v6 = 0 → ∃ Q13 : Int32 → zI → zR → zJ → Prop, Ci mX10_notZeroOrOne d [.int x2] iv2 rv3 lv4 Q13 ∧ ∀ (v18 : Int32) (iv14 : zI) (rv15 : zR) (lv16 : zJ), Q13 v18 iv14 rv15 lv16 → zTop rv15 ∧ ((¬ v18 = 0 → ∃ Q19 : Int32 → zI → zR → zJ → Prop, Ci mX10_refuse d [.ref 0, .int (1 : Int32)] iv14 rv15 lv16 Q19 ∧ ∀ (v24 : Int32) (iv20 : zI) (rv21 : zR) (lv22 : zJ), Q19 v24 iv20 rv21 lv22 → zTop rv21 ∧ (Q v24 iv20 rv21 lv22)) ∧ (v18 = 0 → (0 ≤ x1 → ∃ Q25 : zI → zR → zJ → Prop, Cv mX7_prepare d [.ref 86, .ref 8, .int (iv14 0 3)] iv14 rv15 lv16 Q25 ∧ ∀ (iv26 : zI) (rv27 : zR) (lv28 : zJ), Q25 iv26 rv27 lv28 → zTop rv27 ∧ ((x1 < (iv26 86 3) → (¬ x2 = 0 → vp_in x1 512 ∧ (∃ Q32 : Int32 → zI → zR → zJ → Prop, Ci mX10_answer d [.ref 0, .int (iv26 88 x1.toNatClampNeg)] iv26 rv27 lv28 Q32 ∧ ∀ (v37 : Int32) (iv33 : zI) (rv34 : zR) (lv35 : zJ), Q32 v37 iv33 rv34 lv35 → zTop rv34 ∧ (Q v37 iv33 rv34 lv35))) ∧ (x2 = 0 → vp_in x1 512 ∧ (∃ Q39 : Int32 → zI → zR → zJ → Prop, Ci mX10_answer d [.ref 0, .int (iv26 87 x1.toNatClampNeg)] iv26 rv27 lv28 Q39 ∧ ∀ (v44 : Int32) (iv40 : zI) (rv41 : zR) (lv42 : zJ), Q39 v44 iv40 rv41 lv42 → zTop rv41 ∧ (Q v44 iv40 rv41 lv42)))) ∧ (¬ x1 < (iv26 86 3) → ∃ Q45 : Int32 → zI → zR → zJ → Prop, Ci mX10_refuse d [.ref 0, .int (1 : Int32)] iv26 rv27 lv28 Q45 ∧ ∀ (v50 : Int32) (iv46 : zI) (rv47 : zR) (lv48 : zJ), Q45 v50 iv46 rv47 lv48 → zTop rv47 ∧ (Q v50 iv46 rv47 lv48)))) ∧ (¬ 0 ≤ x1 → ∃ Q51 : Int32 → zI → zR → zJ → Prop, Ci mX10_refuse d [.ref 0, .int (1 : Int32)] iv14 rv15 lv16 Q51 ∧ ∀ (v56 : Int32) (iv52 : zI) (rv53 : zR) (lv54 : zJ), Q51 v56 iv52 rv53 lv54 → zTop rv53 ∧ (Q v56 iv52 rv53 lv54))))))) :
    Zi mX10_find (d + 1) 0 [some (.ref 0), some (.int x1), some (.int x2)] [] iv rv lv Q := by
  unfold Zi
  refine Z_aload_n (a := 0) (q := 1) (by decide +kernel) rfl rfl ?_
  obtain ⟨Q1, hm, h⟩ := h
  refine Z_callVi (M2 := mX10_noText) (idx := 136) (d2 := d) (ci := 10) (As := []) (q := 4) (by decide +kernel) kX10_noText lX10_136 rfl rfl (by decide) rfl rfl (by decide +kernel) (Nat.le_of_ble_eq_true rfl) (Nat.le_refl _) hm rfl (fun v6 iv2 rv3 lv4 hq => ?_)
  obtain ⟨hT5, h⟩ := h v6 iv2 rv3 lv4 hq
  refine Z_if_ne (t := 18) (off := 14) (q := 7) (by decide +kernel) (by decide) rfl (fun hc => ?_) (fun hc => ?_)
  · replace h := h.1 hc
    refine Z_aload_n (a := 0) (q := 19) (by decide +kernel) rfl rfl ?_
    refine Z_iconst (a := 1) (v := 1) (q := 20) (by decide +kernel) (by decide +kernel) rfl ?_
    obtain ⟨Q7, hm, h⟩ := h
    refine Z_callVi (M2 := mX10_refuse) (idx := 100) (d2 := d) (ci := 10) (As := [.int _]) (q := 23) (by decide +kernel) kX10_refuse lX10_100 rfl rfl (by decide) rfl rfl (by decide +kernel) (Nat.le_of_ble_eq_true rfl) (Nat.le_refl _) hm rfl (fun v12 iv8 rv9 lv10 hq => ?_)
    obtain ⟨hT11, h⟩ := h v12 iv8 rv9 lv10 hq
    exact Z_iret (ty := .int) (by decide +kernel) rfl rfl rfl ⟨_, rfl, h⟩
  · replace h := h.2 hc
    refine Z_iload_n (a := 2) (q := 8) (by decide +kernel) rfl rfl ?_
    obtain ⟨Q13, hm, h⟩ := h
    refine Z_callSi (M2 := mX10_notZeroOrOne) (idx := 175) (d2 := d) (As := [.int _]) (q := 11) (by decide +kernel) kX10_notZeroOrOne lX10_175 rfl rfl (by decide +kernel) (Nat.le_of_ble_eq_true rfl) (Nat.le_refl _) hm rfl (fun v18 iv14 rv15 lv16 hq => ?_)
    obtain ⟨hT17, h⟩ := h v18 iv14 rv15 lv16 hq
    refine Z_if_ne (t := 18) (off := 7) (q := 14) (by decide +kernel) (by decide) rfl (fun hc => ?_) (fun hc => ?_)
    · replace h := h.1 hc
      refine Z_aload_n (a := 0) (q := 19) (by decide +kernel) rfl rfl ?_
      refine Z_iconst (a := 1) (v := 1) (q := 20) (by decide +kernel) (by decide +kernel) rfl ?_
      obtain ⟨Q19, hm, h⟩ := h
      refine Z_callVi (M2 := mX10_refuse) (idx := 100) (d2 := d) (ci := 10) (As := [.int _]) (q := 23) (by decide +kernel) kX10_refuse lX10_100 rfl rfl (by decide) rfl rfl (by decide +kernel) (Nat.le_of_ble_eq_true rfl) (Nat.le_refl _) hm rfl (fun v24 iv20 rv21 lv22 hq => ?_)
      obtain ⟨hT23, h⟩ := h v24 iv20 rv21 lv22 hq
      exact Z_iret (ty := .int) (by decide +kernel) rfl rfl rfl ⟨_, rfl, h⟩
    · replace h := h.2 hc
      refine Z_iload_n (a := 1) (q := 15) (by decide +kernel) rfl rfl ?_
      refine Z_if_ge (t := 24) (off := 9) (q := 18) (by decide +kernel) (by decide) rfl (fun hc => ?_) (fun hc => ?_)
      · replace h := h.1 hc
        refine Z_aload_n (a := 0) (q := 25) (by decide +kernel) rfl rfl ?_
        refine g10_6 (idx := 51) (q := 28) (by decide +kernel) fX10_51 rfl (by decide) (t10_6 hT17) rfl ?_
        refine Z_aload_n (a := 0) (q := 29) (by decide +kernel) rfl rfl ?_
        refine g10_1 (idx := 19) (q := 32) (by decide +kernel) fX10_19 rfl (by decide) (t10_1 hT17) rfl ?_
        refine Z_aload_n (a := 0) (q := 33) (by decide +kernel) rfl rfl ?_
        refine g10_3 (idx := 30) (q := 36) (by decide +kernel) fX10_30 rfl (by decide) rfl ?_
        obtain ⟨Q25, hm, h⟩ := h
        refine Z_callVv (M2 := mX7_prepare) (idx := 228) (d2 := d) (ci := 7) (As := [.ref _, .int _]) (q := 39) (by decide +kernel) kX7_prepare lX10_228 rfl rfl (by decide) rfl rfl (by decide +kernel) (Nat.le_of_ble_eq_true rfl) (Nat.le_refl _) hm rfl (fun iv26 rv27 lv28 hq => ?_)
        obtain ⟨hT29, h⟩ := h iv26 rv27 lv28 hq
        refine Z_iload_n (a := 1) (q := 40) (by decide +kernel) rfl rfl ?_
        refine Z_aload_n (a := 0) (q := 41) (by decide +kernel) rfl rfl ?_
        refine g10_6 (idx := 51) (q := 44) (by decide +kernel) fX10_51 rfl (by decide) (t10_6 hT29) rfl ?_
        refine g7_3 (idx := 240) (q := 47) (by decide +kernel) fX10_240 rfl (by decide) rfl ?_
        refine Z_icmp_lt (t := 56) (off := 9) (q := 50) (by decide +kernel) (by decide) rfl (fun hc => ?_) (fun hc => ?_)
        · replace h := h.1 hc
          refine Z_aload_n (a := 0) (q := 57) (by decide +kernel) rfl rfl ?_
          refine Z_iload_n (a := 2) (q := 58) (by decide +kernel) rfl rfl ?_
          refine Z_if_ne (t := 73) (off := 15) (q := 61) (by decide +kernel) (by decide) rfl (fun hc => ?_) (fun hc => ?_)
          · replace h := h.1 hc
            refine Z_aload_n (a := 0) (q := 74) (by decide +kernel) rfl rfl ?_
            refine g10_6 (idx := 51) (q := 77) (by decide +kernel) fX10_51 rfl (by decide) (t10_6 hT29) rfl ?_
            refine g7_7 (idx := 250) (q := 80) (by decide +kernel) fX10_250 rfl (by decide) (t7_7 hT29) rfl ?_
            refine Z_iload_n (a := 1) (q := 81) (by decide +kernel) rfl rfl ?_
            obtain ⟨hin31, h⟩ := h
            refine Z_iald (len := 512) (q := 82) (by decide +kernel) rfl (by decide) hin31 rfl ?_
            obtain ⟨Q32, hm, h⟩ := h
            refine Z_callVi (M2 := mX10_answer) (idx := 133) (d2 := d) (ci := 10) (As := [.int _]) (q := 85) (by decide +kernel) kX10_answer lX10_133 rfl rfl (by decide) rfl rfl (by decide +kernel) (Nat.le_of_ble_eq_true rfl) (Nat.le_refl _) hm rfl (fun v37 iv33 rv34 lv35 hq => ?_)
            obtain ⟨hT36, h⟩ := h v37 iv33 rv34 lv35 hq
            exact Z_iret (ty := .int) (by decide +kernel) rfl rfl rfl ⟨_, rfl, h⟩
          · replace h := h.2 hc
            refine Z_aload_n (a := 0) (q := 62) (by decide +kernel) rfl rfl ?_
            refine g10_6 (idx := 51) (q := 65) (by decide +kernel) fX10_51 rfl (by decide) (t10_6 hT29) rfl ?_
            refine g7_6 (idx := 247) (q := 68) (by decide +kernel) fX10_247 rfl (by decide) (t7_6 hT29) rfl ?_
            refine Z_iload_n (a := 1) (q := 69) (by decide +kernel) rfl rfl ?_
            obtain ⟨hin38, h⟩ := h
            refine Z_iald (len := 512) (q := 70) (by decide +kernel) rfl (by decide) hin38 rfl ?_
            refine Z_goto (q := 82) (off := 12) (by decide +kernel) (by decide) ?_
            obtain ⟨Q39, hm, h⟩ := h
            refine Z_callVi (M2 := mX10_answer) (idx := 133) (d2 := d) (ci := 10) (As := [.int _]) (q := 85) (by decide +kernel) kX10_answer lX10_133 rfl rfl (by decide) rfl rfl (by decide +kernel) (Nat.le_of_ble_eq_true rfl) (Nat.le_refl _) hm rfl (fun v44 iv40 rv41 lv42 hq => ?_)
            obtain ⟨hT43, h⟩ := h v44 iv40 rv41 lv42 hq
            exact Z_iret (ty := .int) (by decide +kernel) rfl rfl rfl ⟨_, rfl, h⟩
        · replace h := h.2 hc
          refine Z_aload_n (a := 0) (q := 51) (by decide +kernel) rfl rfl ?_
          refine Z_iconst (a := 1) (v := 1) (q := 52) (by decide +kernel) (by decide +kernel) rfl ?_
          obtain ⟨Q45, hm, h⟩ := h
          refine Z_callVi (M2 := mX10_refuse) (idx := 100) (d2 := d) (ci := 10) (As := [.int _]) (q := 55) (by decide +kernel) kX10_refuse lX10_100 rfl rfl (by decide) rfl rfl (by decide +kernel) (Nat.le_of_ble_eq_true rfl) (Nat.le_refl _) hm rfl (fun v50 iv46 rv47 lv48 hq => ?_)
          obtain ⟨hT49, h⟩ := h v50 iv46 rv47 lv48 hq
          exact Z_iret (ty := .int) (by decide +kernel) rfl rfl rfl ⟨_, rfl, h⟩
      · replace h := h.2 hc
        refine Z_aload_n (a := 0) (q := 19) (by decide +kernel) rfl rfl ?_
        refine Z_iconst (a := 1) (v := 1) (q := 20) (by decide +kernel) (by decide +kernel) rfl ?_
        obtain ⟨Q51, hm, h⟩ := h
        refine Z_callVi (M2 := mX10_refuse) (idx := 100) (d2 := d) (ci := 10) (As := [.int _]) (q := 23) (by decide +kernel) kX10_refuse lX10_100 rfl rfl (by decide) rfl rfl (by decide +kernel) (Nat.le_of_ble_eq_true rfl) (Nat.le_refl _) hm rfl (fun v56 iv52 rv53 lv54 hq => ?_)
        obtain ⟨hT55, h⟩ := h v56 iv52 rv53 lv54 hq
        exact Z_iret (ty := .int) (by decide +kernel) rfl rfl rfl ⟨_, rfl, h⟩
theorem eX10_searchOf {d : Nat} (x1 : Int32) {iv : zI} {rv : zR} {lv : zJ} {Q : Int32 → zI → zR → zJ → Prop} (h : Zi mX10_searchOf (d + 1) 0 [some (.ref 0), some (.int x1)] [] iv rv lv Q) : Ci mX10_searchOf (d + 1) [.ref 0, .int x1] iv rv lv Q := Ci.of (by decide +kernel) (by simp [Value.category]) (Nat.le_of_ble_eq_true rfl) rfl h
set_option maxRecDepth 4000 in
theorem bX10_searchOf_0 {d : Nat} (x1 : Int32) {iv : zI} {rv : zR} {lv : zJ} {Q : Int32 → zI → zR → zJ → Prop} (hT : zTop rv) 
    (h : ∃ Q1 : Int32 → zI → zR → zJ → Prop, Ci mX10_noNumber d [.ref 0, .int x1] iv rv lv Q1 ∧ ∀ (v6 : Int32) (iv2 : zI) (rv3 : zR) (lv4 : zJ), Q1 v6 iv2 rv3 lv4 → zTop rv3 ∧ ((v6 = 0 → ∃ Q7 : zI → zR → zJ → Prop, Cv mX7_prepare d [.ref 86, .ref 8, .int (iv2 0 3)] iv2 rv3 lv4 Q7 ∧ ∀ (iv8 : zI) (rv9 : zR) (lv10 : zJ), Q7 iv8 rv9 lv10 → zTop rv9 ∧ (∃ Q13 : Int32 → zI → zR → zJ → Prop, Ci mX10_sideOf d [.int x1, .int (iv8 86 5)] iv8 rv9 lv10 Q13 ∧ ∀ (v18 : Int32) (iv14 : zI) (rv15 : zR) (lv16 : zJ), Q13 v18 iv14 rv15 lv16 → zTop rv15 ∧ (∃ Q19 : Int32 → zI → zR → zJ → Prop, Ci mX10_answer d [.ref 0, .int v18] iv14 rv15 lv16 Q19 ∧ ∀ (v24 : Int32) (iv20 : zI) (rv21 : zR) (lv22 : zJ), Q19 v24 iv20 rv21 lv22 → zTop rv21 ∧ (Q v24 iv20 rv21 lv22)))) ∧ (¬ v6 = 0 → ∃ Q25 : Int32 → zI → zR → zJ → Prop, Ci mX10_refuse d [.ref 0, .int (1 : Int32)] iv2 rv3 lv4 Q25 ∧ ∀ (v30 : Int32) (iv26 : zI) (rv27 : zR) (lv28 : zJ), Q25 v30 iv26 rv27 lv28 → zTop rv27 ∧ (Q v30 iv26 rv27 lv28)))) :
    Zi mX10_searchOf (d + 1) 0 [some (.ref 0), some (.int x1)] [] iv rv lv Q := by
  unfold Zi
  refine Z_aload_n (a := 0) (q := 1) (by decide +kernel) rfl rfl ?_
  refine Z_iload_n (a := 1) (q := 2) (by decide +kernel) rfl rfl ?_
  obtain ⟨Q1, hm, h⟩ := h
  refine Z_callVi (M2 := mX10_noNumber) (idx := 163) (d2 := d) (ci := 10) (As := [.int _]) (q := 5) (by decide +kernel) kX10_noNumber lX10_163 rfl rfl (by decide) rfl rfl (by decide +kernel) (Nat.le_of_ble_eq_true rfl) (Nat.le_refl _) hm rfl (fun v6 iv2 rv3 lv4 hq => ?_)
  obtain ⟨hT5, h⟩ := h v6 iv2 rv3 lv4 hq
  refine Z_if_eq (t := 14) (off := 9) (q := 8) (by decide +kernel) (by decide) rfl (fun hc => ?_) (fun hc => ?_)
  · replace h := h.1 hc
    refine Z_aload_n (a := 0) (q := 15) (by decide +kernel) rfl rfl ?_
    refine g10_6 (idx := 51) (q := 18) (by decide +kernel) fX10_51 rfl (by decide) (t10_6 hT5) rfl ?_
    refine Z_aload_n (a := 0) (q := 19) (by decide +kernel) rfl rfl ?_
    refine g10_1 (idx := 19) (q := 22) (by decide +kernel) fX10_19 rfl (by decide) (t10_1 hT5) rfl ?_
    refine Z_aload_n (a := 0) (q := 23) (by decide +kernel) rfl rfl ?_
    refine g10_3 (idx := 30) (q := 26) (by decide +kernel) fX10_30 rfl (by decide) rfl ?_
    obtain ⟨Q7, hm, h⟩ := h
    refine Z_callVv (M2 := mX7_prepare) (idx := 228) (d2 := d) (ci := 7) (As := [.ref _, .int _]) (q := 29) (by decide +kernel) kX7_prepare lX10_228 rfl rfl (by decide) rfl rfl (by decide +kernel) (Nat.le_of_ble_eq_true rfl) (Nat.le_refl _) hm rfl (fun iv8 rv9 lv10 hq => ?_)
    obtain ⟨hT11, h⟩ := h iv8 rv9 lv10 hq
    refine Z_aload_n (a := 0) (q := 30) (by decide +kernel) rfl rfl ?_
    refine Z_iload_n (a := 1) (q := 31) (by decide +kernel) rfl rfl ?_
    refine Z_aload_n (a := 0) (q := 32) (by decide +kernel) rfl rfl ?_
    refine g10_6 (idx := 51) (q := 35) (by decide +kernel) fX10_51 rfl (by decide) (t10_6 hT11) rfl ?_
    refine g7_5 (idx := 253) (q := 38) (by decide +kernel) fX10_253 rfl (by decide) rfl ?_
    obtain ⟨Q13, hm, h⟩ := h
    refine Z_callSi (M2 := mX10_sideOf) (idx := 211) (d2 := d) (As := [.int _, .int _]) (q := 41) (by decide +kernel) kX10_sideOf lX10_211 rfl rfl (by decide +kernel) (Nat.le_of_ble_eq_true rfl) (Nat.le_refl _) hm rfl (fun v18 iv14 rv15 lv16 hq => ?_)
    obtain ⟨hT17, h⟩ := h v18 iv14 rv15 lv16 hq
    obtain ⟨Q19, hm, h⟩ := h
    refine Z_callVi (M2 := mX10_answer) (idx := 133) (d2 := d) (ci := 10) (As := [.int _]) (q := 44) (by decide +kernel) kX10_answer lX10_133 rfl rfl (by decide) rfl rfl (by decide +kernel) (Nat.le_of_ble_eq_true rfl) (Nat.le_refl _) hm rfl (fun v24 iv20 rv21 lv22 hq => ?_)
    obtain ⟨hT23, h⟩ := h v24 iv20 rv21 lv22 hq
    exact Z_iret (ty := .int) (by decide +kernel) rfl rfl rfl ⟨_, rfl, h⟩
  · replace h := h.2 hc
    refine Z_aload_n (a := 0) (q := 9) (by decide +kernel) rfl rfl ?_
    refine Z_iconst (a := 1) (v := 1) (q := 10) (by decide +kernel) (by decide +kernel) rfl ?_
    obtain ⟨Q25, hm, h⟩ := h
    refine Z_callVi (M2 := mX10_refuse) (idx := 100) (d2 := d) (ci := 10) (As := [.int _]) (q := 13) (by decide +kernel) kX10_refuse lX10_100 rfl rfl (by decide) rfl rfl (by decide +kernel) (Nat.le_of_ble_eq_true rfl) (Nat.le_refl _) hm rfl (fun v30 iv26 rv27 lv28 hq => ?_)
    obtain ⟨hT29, h⟩ := h v30 iv26 rv27 lv28 hq
    exact Z_iret (ty := .int) (by decide +kernel) rfl rfl rfl ⟨_, rfl, h⟩
theorem eX10_bound {d : Nat} (x1 : Int32) {iv : zI} {rv : zR} {lv : zJ} {Q : Int32 → zI → zR → zJ → Prop} (h : Zi mX10_bound (d + 1) 0 [some (.ref 0), some (.int x1), none] [] iv rv lv Q) : Ci mX10_bound (d + 1) [.ref 0, .int x1] iv rv lv Q := Ci.of (by decide +kernel) (by simp [Value.category]) (Nat.le_of_ble_eq_true rfl) rfl h
set_option maxRecDepth 4000 in
theorem bX10_bound_0 {d : Nat} (x1 : Int32) {iv : zI} {rv : zR} {lv : zJ} {Q : Int32 → zI → zR → zJ → Prop} (hT : zTop rv) 
    (h : ∃ Q1 : Int32 → zI → zR → zJ → Prop, Ci mX10_noText d [.ref 0] iv rv lv Q1 ∧ ∀ (v6 : Int32) (iv2 : zI) (rv3 : zR) (lv4 : zJ), Q1 v6 iv2 rv3 lv4 → zTop rv3 ∧ (∃ Q7 : Int32 → zI → zR → zJ → Prop, Ci mX10_noSuchHeaps d [.int x1] iv2 rv3 lv4 Q7 ∧ ∀ (v12 : Int32) (iv8 : zI) (rv9 : zR) (lv10 : zJ), Q7 v12 iv8 rv9 lv10 → zTop rv9 ∧ (∃ Q13 : Int32 → zI → zR → zJ → Prop, Ci mX10_refused d [.ref 0, .int v6, .int v12] iv8 rv9 lv10 Q13 ∧ ∀ (v18 : Int32) (iv14 : zI) (rv15 : zR) (lv16 : zJ), Q13 v18 iv14 rv15 lv16 → zTop rv15 ∧ ((v18 = 0 → ∃ Q19 : Int32 → zI → zR → zJ → Prop, Ci mX9_total d [.ref 8] iv14 rv15 lv16 Q19 ∧ ∀ (v24 : Int32) (iv20 : zI) (rv21 : zR) (lv22 : zJ), Q19 v24 iv20 rv21 lv22 → zTop rv21 ∧ (¬ x1 = 0 ∧ (vp_in (iv20 (8 + 4) 0) 10 ∧ (((iv20 8 0) ≤ x1 → ∃ Q26 : Int32 → zI → zR → zJ → Prop, Ci mX10_answer d [.ref 0, .int (zmx (((v24 + x1) - (1 : Int32)) / x1) (iv20 (8 + 1) (iv20 (8 + 4) 0).toNatClampNeg))] iv20 rv21 lv22 Q26 ∧ ∀ (v31 : Int32) (iv27 : zI) (rv28 : zR) (lv29 : zJ), Q26 v31 iv27 rv28 lv29 → zTop rv28 ∧ (Q v31 iv27 rv28 lv29)) ∧ (¬ (iv20 8 0) ≤ x1 → vp_in (x1 - (1 : Int32)) 10 ∧ (vp_in (iv20 (8 + 4) (x1 - (1 : Int32)).toNatClampNeg) 10 ∧ (vp_in x1 10 ∧ (vp_in (iv20 (8 + 4) x1.toNatClampNeg) 10 ∧ (∃ Q36 : Int32 → zI → zR → zJ → Prop, Ci mX10_answer d [.ref 0, .int (zmx (zmx (((v24 + x1) - (1 : Int32)) / x1) (iv20 (8 + 1) (iv20 (8 + 4) 0).toNatClampNeg)) ((iv20 (8 + 1) (iv20 (8 + 4) (x1 - (1 : Int32)).toNatClampNeg).toNatClampNeg) + (iv20 (8 + 1) (iv20 (8 + 4) x1.toNatClampNeg).toNatClampNeg)))] iv20 rv21 lv22 Q36 ∧ ∀ (v41 : Int32) (iv37 : zI) (rv38 : zR) (lv39 : zJ), Q36 v41 iv37 rv38 lv39 → zTop rv38 ∧ (Q v41 iv37 rv38 lv39)))))))))) ∧ (¬ v18 = 0 → Q (-1 : Int32) iv14 rv15 lv16))))) :
    Zi mX10_bound (d + 1) 0 [some (.ref 0), some (.int x1), none] [] iv rv lv Q := by
  unfold Zi
  refine Z_aload_n (a := 0) (q := 1) (by decide +kernel) rfl rfl ?_
  refine Z_aload_n (a := 0) (q := 2) (by decide +kernel) rfl rfl ?_
  obtain ⟨Q1, hm, h⟩ := h
  refine Z_callVi (M2 := mX10_noText) (idx := 136) (d2 := d) (ci := 10) (As := []) (q := 5) (by decide +kernel) kX10_noText lX10_136 rfl rfl (by decide) rfl rfl (by decide +kernel) (Nat.le_of_ble_eq_true rfl) (Nat.le_refl _) hm rfl (fun v6 iv2 rv3 lv4 hq => ?_)
  obtain ⟨hT5, h⟩ := h v6 iv2 rv3 lv4 hq
  refine Z_iload_n (a := 1) (q := 6) (by decide +kernel) rfl rfl ?_
  obtain ⟨Q7, hm, h⟩ := h
  refine Z_callSi (M2 := mX10_noSuchHeaps) (idx := 178) (d2 := d) (As := [.int _]) (q := 9) (by decide +kernel) kX10_noSuchHeaps lX10_178 rfl rfl (by decide +kernel) (Nat.le_of_ble_eq_true rfl) (Nat.le_refl _) hm rfl (fun v12 iv8 rv9 lv10 hq => ?_)
  obtain ⟨hT11, h⟩ := h v12 iv8 rv9 lv10 hq
  obtain ⟨Q13, hm, h⟩ := h
  refine Z_callVi (M2 := mX10_refused) (idx := 181) (d2 := d) (ci := 10) (As := [.int _, .int _]) (q := 12) (by decide +kernel) kX10_refused lX10_181 rfl rfl (by decide) rfl rfl (by decide +kernel) (Nat.le_of_ble_eq_true rfl) (Nat.le_refl _) hm rfl (fun v18 iv14 rv15 lv16 hq => ?_)
  obtain ⟨hT17, h⟩ := h v18 iv14 rv15 lv16 hq
  refine Z_if_eq (t := 17) (off := 5) (q := 15) (by decide +kernel) (by decide) rfl (fun hc => ?_) (fun hc => ?_)
  · replace h := h.1 hc
    refine Z_aload_n (a := 0) (q := 18) (by decide +kernel) rfl rfl ?_
    refine g10_1 (idx := 19) (q := 21) (by decide +kernel) fX10_19 rfl (by decide) (t10_1 hT17) rfl ?_
    obtain ⟨Q19, hm, h⟩ := h
    refine Z_callVi (M2 := mX9_total) (idx := 143) (d2 := d) (ci := 9) (As := []) (q := 24) (by decide +kernel) kX9_total lX10_143 rfl (hS9_0 (by decide : 8 ∈ zSts)) (hL9_0 (by decide : 8 ∈ zSts)) rfl rfl (by decide +kernel) (Nat.le_of_ble_eq_true rfl) (Nat.le_refl _) hm rfl (fun v24 iv20 rv21 lv22 hq => ?_)
    obtain ⟨hT23, h⟩ := h v24 iv20 rv21 lv22 hq
    refine Z_iload_n (a := 1) (q := 25) (by decide +kernel) rfl rfl ?_
    refine Z_iadd (q := 26) (by decide +kernel) rfl ?_
    refine Z_iconst (a := 1) (v := 1) (q := 27) (by decide +kernel) (by decide +kernel) rfl ?_
    refine Z_isub (q := 28) (by decide +kernel) rfl ?_
    refine Z_iload_n (a := 1) (q := 29) (by decide +kernel) rfl rfl ?_
    obtain ⟨hne, h⟩ := h
    refine Z_idiv (q := 30) (by decide +kernel) hne rfl ?_
    refine Z_aload_n (a := 0) (q := 31) (by decide +kernel) rfl rfl ?_
    refine g10_1 (idx := 19) (q := 34) (by decide +kernel) fX10_19 rfl (by decide) (t10_1 hT23) rfl ?_
    refine g9_2 (idx := 156) (q := 37) (by decide +kernel) fX10_156 (hS9_0 (by decide : 8 ∈ zSts)) (hL9_0 (by decide : 8 ∈ zSts)) (t9_2 hT23 (by decide : 8 ∈ zSts)) rfl ?_
    refine Z_aload_n (a := 0) (q := 38) (by decide +kernel) rfl rfl ?_
    refine g10_1 (idx := 19) (q := 41) (by decide +kernel) fX10_19 rfl (by decide) (t10_1 hT23) rfl ?_
    refine g9_5 (idx := 160) (q := 44) (by decide +kernel) fX10_160 (hS9_0 (by decide : 8 ∈ zSts)) (hL9_0 (by decide : 8 ∈ zSts)) (t9_5 hT23 (by decide : 8 ∈ zSts)) rfl ?_
    refine Z_iconst (a := 0) (v := 0) (q := 45) (by decide +kernel) (by decide +kernel) rfl ?_
    refine Z_iald (len := 10) (q := 46) (by decide +kernel) (hS9_4 (by decide : 8 ∈ zSts)) (hL9_4 (by decide : 8 ∈ zSts)) (by unfold vp_in; decide) rfl ?_
    obtain ⟨hin25, h⟩ := h
    refine Z_iald (len := 10) (q := 47) (by decide +kernel) (hS9_1 (by decide : 8 ∈ zSts)) (hL9_1 (by decide : 8 ∈ zSts)) hin25 rfl ?_
    refine Z_max (idx := 256) (q := 50) (by decide +kernel) lX10_256 (Nat.le_of_ble_eq_true rfl) (Nat.le_add_left 1 d) rfl ?_
    refine Z_istore_n (a := 2) (loc2 := [_, _, _]) (q := 51) (by decide +kernel) (by decide +kernel) rfl rfl rfl ?_
    refine Z_aload_n (a := 0) (q := 52) (by decide +kernel) rfl rfl ?_
    refine g10_1 (idx := 19) (q := 55) (by decide +kernel) fX10_19 rfl (by decide) (t10_1 hT23) rfl ?_
    refine g9_0 (idx := 130) (q := 58) (by decide +kernel) fX10_130 (hS9_0 (by decide : 8 ∈ zSts)) (hL9_0 (by decide : 8 ∈ zSts)) rfl ?_
    refine Z_iload_n (a := 1) (q := 59) (by decide +kernel) rfl rfl ?_
    refine Z_icmp_le (t := 104) (off := 45) (q := 62) (by decide +kernel) (by decide) rfl (fun hc => ?_) (fun hc => ?_)
    · replace h := h.1 hc
      refine Z_aload_n (a := 0) (q := 105) (by decide +kernel) rfl rfl ?_
      refine Z_iload_n (a := 2) (q := 106) (by decide +kernel) rfl rfl ?_
      obtain ⟨Q26, hm, h⟩ := h
      refine Z_callVi (M2 := mX10_answer) (idx := 133) (d2 := d) (ci := 10) (As := [.int _]) (q := 109) (by decide +kernel) kX10_answer lX10_133 rfl rfl (by decide) rfl rfl (by decide +kernel) (Nat.le_of_ble_eq_true rfl) (Nat.le_refl _) hm rfl (fun v31 iv27 rv28 lv29 hq => ?_)
      obtain ⟨hT30, h⟩ := h v31 iv27 rv28 lv29 hq
      exact Z_iret (ty := .int) (by decide +kernel) rfl rfl rfl ⟨_, rfl, h⟩
    · replace h := h.2 hc
      refine Z_iload_n (a := 2) (q := 63) (by decide +kernel) rfl rfl ?_
      refine Z_aload_n (a := 0) (q := 64) (by decide +kernel) rfl rfl ?_
      refine g10_1 (idx := 19) (q := 67) (by decide +kernel) fX10_19 rfl (by decide) (t10_1 hT23) rfl ?_
      refine g9_2 (idx := 156) (q := 70) (by decide +kernel) fX10_156 (hS9_0 (by decide : 8 ∈ zSts)) (hL9_0 (by decide : 8 ∈ zSts)) (t9_2 hT23 (by decide : 8 ∈ zSts)) rfl ?_
      refine Z_aload_n (a := 0) (q := 71) (by decide +kernel) rfl rfl ?_
      refine g10_1 (idx := 19) (q := 74) (by decide +kernel) fX10_19 rfl (by decide) (t10_1 hT23) rfl ?_
      refine g9_5 (idx := 160) (q := 77) (by decide +kernel) fX10_160 (hS9_0 (by decide : 8 ∈ zSts)) (hL9_0 (by decide : 8 ∈ zSts)) (t9_5 hT23 (by decide : 8 ∈ zSts)) rfl ?_
      refine Z_iload_n (a := 1) (q := 78) (by decide +kernel) rfl rfl ?_
      refine Z_iconst (a := 1) (v := 1) (q := 79) (by decide +kernel) (by decide +kernel) rfl ?_
      refine Z_isub (q := 80) (by decide +kernel) rfl ?_
      obtain ⟨hin32, h⟩ := h
      refine Z_iald (len := 10) (q := 81) (by decide +kernel) (hS9_4 (by decide : 8 ∈ zSts)) (hL9_4 (by decide : 8 ∈ zSts)) hin32 rfl ?_
      obtain ⟨hin33, h⟩ := h
      refine Z_iald (len := 10) (q := 82) (by decide +kernel) (hS9_1 (by decide : 8 ∈ zSts)) (hL9_1 (by decide : 8 ∈ zSts)) hin33 rfl ?_
      refine Z_aload_n (a := 0) (q := 83) (by decide +kernel) rfl rfl ?_
      refine g10_1 (idx := 19) (q := 86) (by decide +kernel) fX10_19 rfl (by decide) (t10_1 hT23) rfl ?_
      refine g9_2 (idx := 156) (q := 89) (by decide +kernel) fX10_156 (hS9_0 (by decide : 8 ∈ zSts)) (hL9_0 (by decide : 8 ∈ zSts)) (t9_2 hT23 (by decide : 8 ∈ zSts)) rfl ?_
      refine Z_aload_n (a := 0) (q := 90) (by decide +kernel) rfl rfl ?_
      refine g10_1 (idx := 19) (q := 93) (by decide +kernel) fX10_19 rfl (by decide) (t10_1 hT23) rfl ?_
      refine g9_5 (idx := 160) (q := 96) (by decide +kernel) fX10_160 (hS9_0 (by decide : 8 ∈ zSts)) (hL9_0 (by decide : 8 ∈ zSts)) (t9_5 hT23 (by decide : 8 ∈ zSts)) rfl ?_
      refine Z_iload_n (a := 1) (q := 97) (by decide +kernel) rfl rfl ?_
      obtain ⟨hin34, h⟩ := h
      refine Z_iald (len := 10) (q := 98) (by decide +kernel) (hS9_4 (by decide : 8 ∈ zSts)) (hL9_4 (by decide : 8 ∈ zSts)) hin34 rfl ?_
      obtain ⟨hin35, h⟩ := h
      refine Z_iald (len := 10) (q := 99) (by decide +kernel) (hS9_1 (by decide : 8 ∈ zSts)) (hL9_1 (by decide : 8 ∈ zSts)) hin35 rfl ?_
      refine Z_iadd (q := 100) (by decide +kernel) rfl ?_
      refine Z_max (idx := 256) (q := 103) (by decide +kernel) lX10_256 (Nat.le_of_ble_eq_true rfl) (Nat.le_add_left 1 d) rfl ?_
      refine Z_istore_n (a := 2) (loc2 := [_, _, _]) (q := 104) (by decide +kernel) (by decide +kernel) rfl rfl rfl ?_
      refine Z_aload_n (a := 0) (q := 105) (by decide +kernel) rfl rfl ?_
      refine Z_iload_n (a := 2) (q := 106) (by decide +kernel) rfl rfl ?_
      obtain ⟨Q36, hm, h⟩ := h
      refine Z_callVi (M2 := mX10_answer) (idx := 133) (d2 := d) (ci := 10) (As := [.int _]) (q := 109) (by decide +kernel) kX10_answer lX10_133 rfl rfl (by decide) rfl rfl (by decide +kernel) (Nat.le_of_ble_eq_true rfl) (Nat.le_refl _) hm rfl (fun v41 iv37 rv38 lv39 hq => ?_)
      obtain ⟨hT40, h⟩ := h v41 iv37 rv38 lv39 hq
      exact Z_iret (ty := .int) (by decide +kernel) rfl rfl rfl ⟨_, rfl, h⟩
  · replace h := h.2 hc
    refine Z_iconst (a := -1) (v := -1) (q := 16) (by decide +kernel) (by decide +kernel) rfl ?_
    exact Z_iret (ty := .int) (by decide +kernel) rfl rfl rfl ⟨_, rfl, h⟩
theorem eX10_least {d : Nat} (x1 : Int32) (x2 : Int32) {iv : zI} {rv : zR} {lv : zJ} {Q : Int32 → zI → zR → zJ → Prop} (h : Zi mX10_least (d + 1) 0 [some (.ref 0), some (.int x1), some (.int x2), none] [] iv rv lv Q) : Ci mX10_least (d + 1) [.ref 0, .int x1, .int x2] iv rv lv Q := Ci.of (by decide +kernel) (by simp [Value.category]) (Nat.le_of_ble_eq_true rfl) rfl h
set_option maxRecDepth 4000 in
theorem bX10_least_0 {d : Nat} (x1 : Int32) (x2 : Int32) {iv : zI} {rv : zR} {lv : zJ} {Q : Int32 → zI → zR → zJ → Prop} (hT : zTop rv) 
    (h : ∃ Q1 : Int32 → zI → zR → zJ → Prop, Ci mX10_noText d [.ref 0] iv rv lv Q1 ∧ ∀ (v6 : Int32) (iv2 : zI) (rv3 : zR) (lv4 : zJ), Q1 v6 iv2 rv3 lv4 → zTop rv3 ∧ ((¬ v6 = 0 → Zi mX10_least (d + 1) 20 [some (.ref 0), some (.int x1), some (.int x2), none] [.int (1 : Int32), .ref 0] iv2 rv3 lv4 Q) ∧ (v6 = 0 → ∃ Q7 : Int32 → zI → zR → zJ → Prop, Ci mX10_notZeroOrOne d [.int x2] iv2 rv3 lv4 Q7 ∧ ∀ (v12 : Int32) (iv8 : zI) (rv9 : zR) (lv10 : zJ), Q7 v12 iv8 rv9 lv10 → zTop rv9 ∧ ((v12 = 0 → Zi mX10_least (d + 1) 20 [some (.ref 0), some (.int x1), some (.int x2), none] [.int (0 : Int32), .ref 0] iv8 rv9 lv10 Q) ∧ (¬ v12 = 0 → Zi mX10_least (d + 1) 20 [some (.ref 0), some (.int x1), some (.int x2), none] [.int (1 : Int32), .ref 0] iv8 rv9 lv10 Q))))) :
    Zi mX10_least (d + 1) 0 [some (.ref 0), some (.int x1), some (.int x2), none] [] iv rv lv Q := by
  unfold Zi
  refine Z_aload_n (a := 0) (q := 1) (by decide +kernel) rfl rfl ?_
  refine Z_aload_n (a := 0) (q := 2) (by decide +kernel) rfl rfl ?_
  obtain ⟨Q1, hm, h⟩ := h
  refine Z_callVi (M2 := mX10_noText) (idx := 136) (d2 := d) (ci := 10) (As := []) (q := 5) (by decide +kernel) kX10_noText lX10_136 rfl rfl (by decide) rfl rfl (by decide +kernel) (Nat.le_of_ble_eq_true rfl) (Nat.le_refl _) hm rfl (fun v6 iv2 rv3 lv4 hq => ?_)
  obtain ⟨hT5, h⟩ := h v6 iv2 rv3 lv4 hq
  refine Z_if_ne (t := 15) (off := 10) (q := 8) (by decide +kernel) (by decide) rfl (fun hc => ?_) (fun hc => ?_)
  · replace h := h.1 hc
    refine Z_iconst (a := 1) (v := 1) (q := 16) (by decide +kernel) (by decide +kernel) rfl ?_
    refine Z_goto (q := 20) (off := 4) (by decide +kernel) (by decide) ?_
    exact h
  · replace h := h.2 hc
    refine Z_iload_n (a := 2) (q := 9) (by decide +kernel) rfl rfl ?_
    obtain ⟨Q7, hm, h⟩ := h
    refine Z_callSi (M2 := mX10_notZeroOrOne) (idx := 175) (d2 := d) (As := [.int _]) (q := 12) (by decide +kernel) kX10_notZeroOrOne lX10_175 rfl rfl (by decide +kernel) (Nat.le_of_ble_eq_true rfl) (Nat.le_refl _) hm rfl (fun v12 iv8 rv9 lv10 hq => ?_)
    obtain ⟨hT11, h⟩ := h v12 iv8 rv9 lv10 hq
    refine Z_if_eq (t := 19) (off := 7) (q := 15) (by decide +kernel) (by decide) rfl (fun hc => ?_) (fun hc => ?_)
    · replace h := h.1 hc
      refine Z_iconst (a := 0) (v := 0) (q := 20) (by decide +kernel) (by decide +kernel) rfl ?_
      exact h
    · replace h := h.2 hc
      refine Z_iconst (a := 1) (v := 1) (q := 16) (by decide +kernel) (by decide +kernel) rfl ?_
      refine Z_goto (q := 20) (off := 4) (by decide +kernel) (by decide) ?_
      exact h
set_option maxRecDepth 4000 in
theorem bX10_least_20 {d : Nat} (x1 : Int32) (x2 : Int32) (y0 : Int32) {iv : zI} {rv : zR} {lv : zJ} {Q : Int32 → zI → zR → zJ → Prop} (hT : zTop rv) 
    (h : ∃ Q1 : Int32 → zI → zR → zJ → Prop, Ci mX10_noSuchHeaps d [.int x1] iv rv lv Q1 ∧ ∀ (v6 : Int32) (iv2 : zI) (rv3 : zR) (lv4 : zJ), Q1 v6 iv2 rv3 lv4 → zTop rv3 ∧ (∃ Q7 : Int32 → zI → zR → zJ → Prop, Ci mX10_refused d [.ref 0, .int y0, .int v6] iv2 rv3 lv4 Q7 ∧ ∀ (v12 : Int32) (iv8 : zI) (rv9 : zR) (lv10 : zJ), Q7 v12 iv8 rv9 lv10 → zTop rv9 ∧ ((v12 = 0 → ∃ Q13 : Nat → zI → zR → zJ → Prop, Cr mX10_allRows d [.ref 0, .int x1] iv8 rv9 lv10 Q13 ∧ ∀ (v18 : Nat) (iv14 : zI) (rv15 : zR) (lv16 : zJ), Q13 v18 iv14 rv15 lv16 → zTop rv15 ∧ v18 ∈ zPts ∧ (∃ Q19 : Int32 → zI → zR → zJ → Prop, Ci mX5_findLeast d [.ref v18, .ref 8, .int (iv14 0 3)] iv14 rv15 lv16 Q19 ∧ ∀ (v24 : Int32) (iv20 : zI) (rv21 : zR) (lv22 : zJ), Q19 v24 iv20 rv21 lv22 → zTop rv21 ∧ ((¬ v24 = 0 → (¬ x2 = 0 → ∃ Q25 : Int32 → zI → zR → zJ → Prop, Ci mX10_answer d [.ref 0, .int (iv20 v18 1)] iv20 rv21 lv22 Q25 ∧ ∀ (v30 : Int32) (iv26 : zI) (rv27 : zR) (lv28 : zJ), Q25 v30 iv26 rv27 lv28 → zTop rv27 ∧ (Q v30 iv26 rv27 lv28)) ∧ (x2 = 0 → ∃ Q31 : Int32 → zI → zR → zJ → Prop, Ci mX10_answer d [.ref 0, .int (iv20 v18 0)] iv20 rv21 lv22 Q31 ∧ ∀ (v36 : Int32) (iv32 : zI) (rv33 : zR) (lv34 : zJ), Q31 v36 iv32 rv33 lv34 → zTop rv33 ∧ (Q v36 iv32 rv33 lv34))) ∧ (v24 = 0 → ∃ Q37 : Int32 → zI → zR → zJ → Prop, Ci mX10_refuse d [.ref 0, .int (6 : Int32)] iv20 rv21 lv22 Q37 ∧ ∀ (v42 : Int32) (iv38 : zI) (rv39 : zR) (lv40 : zJ), Q37 v42 iv38 rv39 lv40 → zTop rv39 ∧ (Q v42 iv38 rv39 lv40))))) ∧ (¬ v12 = 0 → Q (-1 : Int32) iv8 rv9 lv10)))) :
    Zi mX10_least (d + 1) 20 [some (.ref 0), some (.int x1), some (.int x2), none] [.int y0, .ref 0] iv rv lv Q := by
  unfold Zi
  refine Z_iload_n (a := 1) (q := 21) (by decide +kernel) rfl rfl ?_
  obtain ⟨Q1, hm, h⟩ := h
  refine Z_callSi (M2 := mX10_noSuchHeaps) (idx := 178) (d2 := d) (As := [.int _]) (q := 24) (by decide +kernel) kX10_noSuchHeaps lX10_178 rfl rfl (by decide +kernel) (Nat.le_of_ble_eq_true rfl) (Nat.le_refl _) hm rfl (fun v6 iv2 rv3 lv4 hq => ?_)
  obtain ⟨hT5, h⟩ := h v6 iv2 rv3 lv4 hq
  obtain ⟨Q7, hm, h⟩ := h
  refine Z_callVi (M2 := mX10_refused) (idx := 181) (d2 := d) (ci := 10) (As := [.int _, .int _]) (q := 27) (by decide +kernel) kX10_refused lX10_181 rfl rfl (by decide) rfl rfl (by decide +kernel) (Nat.le_of_ble_eq_true rfl) (Nat.le_refl _) hm rfl (fun v12 iv8 rv9 lv10 hq => ?_)
  obtain ⟨hT11, h⟩ := h v12 iv8 rv9 lv10 hq
  refine Z_if_eq (t := 32) (off := 5) (q := 30) (by decide +kernel) (by decide) rfl (fun hc => ?_) (fun hc => ?_)
  · replace h := h.1 hc
    refine Z_aload_n (a := 0) (q := 33) (by decide +kernel) rfl rfl ?_
    refine Z_iload_n (a := 1) (q := 34) (by decide +kernel) rfl rfl ?_
    obtain ⟨Q13, hm, h⟩ := h
    refine Z_callVr (M2 := mX10_allRows) (idx := 261) (d2 := d) (ci := 10) (As := [.int _]) (q := 37) (by decide +kernel) kX10_allRows lX10_261 rfl rfl (by decide) rfl rfl (by decide +kernel) (Nat.le_of_ble_eq_true rfl) (Nat.le_refl _) hm rfl (fun v18 iv14 rv15 lv16 hq => ?_)
    obtain ⟨hT17, hmv18, h⟩ := h v18 iv14 rv15 lv16 hq
    refine Z_astore_n (a := 3) (loc2 := [_, _, _, _]) (q := 38) (by decide +kernel) (by decide +kernel) rfl rfl rfl ?_
    refine Z_aload_n (a := 3) (q := 39) (by decide +kernel) rfl rfl ?_
    refine Z_aload_n (a := 0) (q := 40) (by decide +kernel) rfl rfl ?_
    refine g10_1 (idx := 19) (q := 43) (by decide +kernel) fX10_19 rfl (by decide) (t10_1 hT17) rfl ?_
    refine Z_aload_n (a := 0) (q := 44) (by decide +kernel) rfl rfl ?_
    refine g10_3 (idx := 30) (q := 47) (by decide +kernel) fX10_30 rfl (by decide) rfl ?_
    obtain ⟨Q19, hm, h⟩ := h
    refine Z_callVi (M2 := mX5_findLeast) (idx := 265) (d2 := d) (ci := 5) (As := [.ref _, .int _]) (q := 50) (by decide +kernel) kX5_findLeast lX10_265 rfl (hS5_0 hmv18) (hL5_0 hmv18) rfl rfl (by decide +kernel) (Nat.le_of_ble_eq_true rfl) (Nat.le_refl _) hm rfl (fun v24 iv20 rv21 lv22 hq => ?_)
    obtain ⟨hT23, h⟩ := h v24 iv20 rv21 lv22 hq
    refine Z_if_ne (t := 60) (off := 10) (q := 53) (by decide +kernel) (by decide) rfl (fun hc => ?_) (fun hc => ?_)
    · replace h := h.1 hc
      refine Z_aload_n (a := 0) (q := 61) (by decide +kernel) rfl rfl ?_
      refine Z_iload_n (a := 2) (q := 62) (by decide +kernel) rfl rfl ?_
      refine Z_if_ne (t := 72) (off := 10) (q := 65) (by decide +kernel) (by decide) rfl (fun hc => ?_) (fun hc => ?_)
      · replace h := h.1 hc
        refine Z_aload_n (a := 3) (q := 73) (by decide +kernel) rfl rfl ?_
        refine g5_1 (idx := 271) (q := 76) (by decide +kernel) fX10_271 (hS5_0 hmv18) (hL5_0 hmv18) rfl ?_
        obtain ⟨Q25, hm, h⟩ := h
        refine Z_callVi (M2 := mX10_answer) (idx := 133) (d2 := d) (ci := 10) (As := [.int _]) (q := 79) (by decide +kernel) kX10_answer lX10_133 rfl rfl (by decide) rfl rfl (by decide +kernel) (Nat.le_of_ble_eq_true rfl) (Nat.le_refl _) hm rfl (fun v30 iv26 rv27 lv28 hq => ?_)
        obtain ⟨hT29, h⟩ := h v30 iv26 rv27 lv28 hq
        exact Z_iret (ty := .int) (by decide +kernel) rfl rfl rfl ⟨_, rfl, h⟩
      · replace h := h.2 hc
        refine Z_aload_n (a := 3) (q := 66) (by decide +kernel) rfl rfl ?_
        refine g5_0 (idx := 269) (q := 69) (by decide +kernel) fX10_269 (hS5_0 hmv18) (hL5_0 hmv18) rfl ?_
        refine Z_goto (q := 76) (off := 7) (by decide +kernel) (by decide) ?_
        obtain ⟨Q31, hm, h⟩ := h
        refine Z_callVi (M2 := mX10_answer) (idx := 133) (d2 := d) (ci := 10) (As := [.int _]) (q := 79) (by decide +kernel) kX10_answer lX10_133 rfl rfl (by decide) rfl rfl (by decide +kernel) (Nat.le_of_ble_eq_true rfl) (Nat.le_refl _) hm rfl (fun v36 iv32 rv33 lv34 hq => ?_)
        obtain ⟨hT35, h⟩ := h v36 iv32 rv33 lv34 hq
        exact Z_iret (ty := .int) (by decide +kernel) rfl rfl rfl ⟨_, rfl, h⟩
    · replace h := h.2 hc
      refine Z_aload_n (a := 0) (q := 54) (by decide +kernel) rfl rfl ?_
      refine Z_bipush (a := 6) (v := 6) (q := 56) (by decide +kernel) (by decide +kernel) rfl ?_
      obtain ⟨Q37, hm, h⟩ := h
      refine Z_callVi (M2 := mX10_refuse) (idx := 100) (d2 := d) (ci := 10) (As := [.int _]) (q := 59) (by decide +kernel) kX10_refuse lX10_100 rfl rfl (by decide) rfl rfl (by decide +kernel) (Nat.le_of_ble_eq_true rfl) (Nat.le_refl _) hm rfl (fun v42 iv38 rv39 lv40 hq => ?_)
      obtain ⟨hT41, h⟩ := h v42 iv38 rv39 lv40 hq
      exact Z_iret (ty := .int) (by decide +kernel) rfl rfl rfl ⟨_, rfl, h⟩
  · replace h := h.2 hc
    refine Z_iconst (a := -1) (v := -1) (q := 31) (by decide +kernel) (by decide +kernel) rfl ?_
    exact Z_iret (ty := .int) (by decide +kernel) rfl rfl rfl ⟨_, rfl, h⟩
theorem eX10_leastOf {d : Nat} (x1 : Int32) (x2 : Int32) {iv : zI} {rv : zR} {lv : zJ} {Q : Int32 → zI → zR → zJ → Prop} (h : Zi mX10_leastOf (d + 1) 0 [some (.ref 0), some (.int x1), some (.int x2), none] [] iv rv lv Q) : Ci mX10_leastOf (d + 1) [.ref 0, .int x1, .int x2] iv rv lv Q := Ci.of (by decide +kernel) (by simp [Value.category]) (Nat.le_of_ble_eq_true rfl) rfl h
set_option maxRecDepth 4000 in
theorem bX10_leastOf_0 {d : Nat} (x1 : Int32) (x2 : Int32) {iv : zI} {rv : zR} {lv : zJ} {Q : Int32 → zI → zR → zJ → Prop} (hT : zTop rv) 
    (h : ∃ Q1 : Int32 → zI → zR → zJ → Prop, Ci mX10_noNumber d [.ref 0, .int x2] iv rv lv Q1 ∧ ∀ (v6 : Int32) (iv2 : zI) (rv3 : zR) (lv4 : zJ), Q1 v6 iv2 rv3 lv4 → zTop rv3 ∧ (∃ Q7 : Int32 → zI → zR → zJ → Prop, Ci mX10_noSuchHeaps d [.int x1] iv2 rv3 lv4 Q7 ∧ ∀ (v12 : Int32) (iv8 : zI) (rv9 : zR) (lv10 : zJ), Q7 v12 iv8 rv9 lv10 → zTop rv9 ∧ (∃ Q13 : Int32 → zI → zR → zJ → Prop, Ci mX10_refused d [.ref 0, .int v6, .int v12] iv8 rv9 lv10 Q13 ∧ ∀ (v18 : Int32) (iv14 : zI) (rv15 : zR) (lv16 : zJ), Q13 v18 iv14 rv15 lv16 → zTop rv15 ∧ ((v18 = 0 → ∃ Q19 : Nat → zI → zR → zJ → Prop, Cr mX10_allRows d [.ref 0, .int x1] iv14 rv15 lv16 Q19 ∧ ∀ (v24 : Nat) (iv20 : zI) (rv21 : zR) (lv22 : zJ), Q19 v24 iv20 rv21 lv22 → zTop rv21 ∧ v24 ∈ zPts ∧ (∃ Q25 : Int32 → zI → zR → zJ → Prop, Ci mX5_findLeast d [.ref v24, .ref 8, .int (iv20 0 3)] iv20 rv21 lv22 Q25 ∧ ∀ (v30 : Int32) (iv26 : zI) (rv27 : zR) (lv28 : zJ), Q25 v30 iv26 rv27 lv28 → zTop rv27 ∧ ((¬ v30 = 0 → vp_in x2 10 ∧ (∃ Q32 : Int32 → zI → zR → zJ → Prop, Ci mX10_answer d [.ref 0, .int (iv26 (v24 + 1) x2.toNatClampNeg)] iv26 rv27 lv28 Q32 ∧ ∀ (v37 : Int32) (iv33 : zI) (rv34 : zR) (lv35 : zJ), Q32 v37 iv33 rv34 lv35 → zTop rv34 ∧ (Q v37 iv33 rv34 lv35))) ∧ (v30 = 0 → ∃ Q38 : Int32 → zI → zR → zJ → Prop, Ci mX10_refuse d [.ref 0, .int (6 : Int32)] iv26 rv27 lv28 Q38 ∧ ∀ (v43 : Int32) (iv39 : zI) (rv40 : zR) (lv41 : zJ), Q38 v43 iv39 rv40 lv41 → zTop rv40 ∧ (Q v43 iv39 rv40 lv41))))) ∧ (¬ v18 = 0 → Q (-1 : Int32) iv14 rv15 lv16))))) :
    Zi mX10_leastOf (d + 1) 0 [some (.ref 0), some (.int x1), some (.int x2), none] [] iv rv lv Q := by
  unfold Zi
  refine Z_aload_n (a := 0) (q := 1) (by decide +kernel) rfl rfl ?_
  refine Z_aload_n (a := 0) (q := 2) (by decide +kernel) rfl rfl ?_
  refine Z_iload_n (a := 2) (q := 3) (by decide +kernel) rfl rfl ?_
  obtain ⟨Q1, hm, h⟩ := h
  refine Z_callVi (M2 := mX10_noNumber) (idx := 163) (d2 := d) (ci := 10) (As := [.int _]) (q := 6) (by decide +kernel) kX10_noNumber lX10_163 rfl rfl (by decide) rfl rfl (by decide +kernel) (Nat.le_of_ble_eq_true rfl) (Nat.le_refl _) hm rfl (fun v6 iv2 rv3 lv4 hq => ?_)
  obtain ⟨hT5, h⟩ := h v6 iv2 rv3 lv4 hq
  refine Z_iload_n (a := 1) (q := 7) (by decide +kernel) rfl rfl ?_
  obtain ⟨Q7, hm, h⟩ := h
  refine Z_callSi (M2 := mX10_noSuchHeaps) (idx := 178) (d2 := d) (As := [.int _]) (q := 10) (by decide +kernel) kX10_noSuchHeaps lX10_178 rfl rfl (by decide +kernel) (Nat.le_of_ble_eq_true rfl) (Nat.le_refl _) hm rfl (fun v12 iv8 rv9 lv10 hq => ?_)
  obtain ⟨hT11, h⟩ := h v12 iv8 rv9 lv10 hq
  obtain ⟨Q13, hm, h⟩ := h
  refine Z_callVi (M2 := mX10_refused) (idx := 181) (d2 := d) (ci := 10) (As := [.int _, .int _]) (q := 13) (by decide +kernel) kX10_refused lX10_181 rfl rfl (by decide) rfl rfl (by decide +kernel) (Nat.le_of_ble_eq_true rfl) (Nat.le_refl _) hm rfl (fun v18 iv14 rv15 lv16 hq => ?_)
  obtain ⟨hT17, h⟩ := h v18 iv14 rv15 lv16 hq
  refine Z_if_eq (t := 18) (off := 5) (q := 16) (by decide +kernel) (by decide) rfl (fun hc => ?_) (fun hc => ?_)
  · replace h := h.1 hc
    refine Z_aload_n (a := 0) (q := 19) (by decide +kernel) rfl rfl ?_
    refine Z_iload_n (a := 1) (q := 20) (by decide +kernel) rfl rfl ?_
    obtain ⟨Q19, hm, h⟩ := h
    refine Z_callVr (M2 := mX10_allRows) (idx := 261) (d2 := d) (ci := 10) (As := [.int _]) (q := 23) (by decide +kernel) kX10_allRows lX10_261 rfl rfl (by decide) rfl rfl (by decide +kernel) (Nat.le_of_ble_eq_true rfl) (Nat.le_refl _) hm rfl (fun v24 iv20 rv21 lv22 hq => ?_)
    obtain ⟨hT23, hmv24, h⟩ := h v24 iv20 rv21 lv22 hq
    refine Z_astore_n (a := 3) (loc2 := [_, _, _, _]) (q := 24) (by decide +kernel) (by decide +kernel) rfl rfl rfl ?_
    refine Z_aload_n (a := 3) (q := 25) (by decide +kernel) rfl rfl ?_
    refine Z_aload_n (a := 0) (q := 26) (by decide +kernel) rfl rfl ?_
    refine g10_1 (idx := 19) (q := 29) (by decide +kernel) fX10_19 rfl (by decide) (t10_1 hT23) rfl ?_
    refine Z_aload_n (a := 0) (q := 30) (by decide +kernel) rfl rfl ?_
    refine g10_3 (idx := 30) (q := 33) (by decide +kernel) fX10_30 rfl (by decide) rfl ?_
    obtain ⟨Q25, hm, h⟩ := h
    refine Z_callVi (M2 := mX5_findLeast) (idx := 265) (d2 := d) (ci := 5) (As := [.ref _, .int _]) (q := 36) (by decide +kernel) kX5_findLeast lX10_265 rfl (hS5_0 hmv24) (hL5_0 hmv24) rfl rfl (by decide +kernel) (Nat.le_of_ble_eq_true rfl) (Nat.le_refl _) hm rfl (fun v30 iv26 rv27 lv28 hq => ?_)
    obtain ⟨hT29, h⟩ := h v30 iv26 rv27 lv28 hq
    refine Z_if_ne (t := 46) (off := 10) (q := 39) (by decide +kernel) (by decide) rfl (fun hc => ?_) (fun hc => ?_)
    · replace h := h.1 hc
      refine Z_aload_n (a := 0) (q := 47) (by decide +kernel) rfl rfl ?_
      refine Z_aload_n (a := 3) (q := 48) (by decide +kernel) rfl rfl ?_
      refine g5_3 (idx := 274) (q := 51) (by decide +kernel) fX10_274 (hS5_0 hmv24) (hL5_0 hmv24) (t5_3 hT29 hmv24) rfl ?_
      refine Z_iload_n (a := 2) (q := 52) (by decide +kernel) rfl rfl ?_
      obtain ⟨hin31, h⟩ := h
      refine Z_iald (len := 10) (q := 53) (by decide +kernel) (hS5_1 hmv24) (hL5_1 hmv24) hin31 rfl ?_
      obtain ⟨Q32, hm, h⟩ := h
      refine Z_callVi (M2 := mX10_answer) (idx := 133) (d2 := d) (ci := 10) (As := [.int _]) (q := 56) (by decide +kernel) kX10_answer lX10_133 rfl rfl (by decide) rfl rfl (by decide +kernel) (Nat.le_of_ble_eq_true rfl) (Nat.le_refl _) hm rfl (fun v37 iv33 rv34 lv35 hq => ?_)
      obtain ⟨hT36, h⟩ := h v37 iv33 rv34 lv35 hq
      exact Z_iret (ty := .int) (by decide +kernel) rfl rfl rfl ⟨_, rfl, h⟩
    · replace h := h.2 hc
      refine Z_aload_n (a := 0) (q := 40) (by decide +kernel) rfl rfl ?_
      refine Z_bipush (a := 6) (v := 6) (q := 42) (by decide +kernel) (by decide +kernel) rfl ?_
      obtain ⟨Q38, hm, h⟩ := h
      refine Z_callVi (M2 := mX10_refuse) (idx := 100) (d2 := d) (ci := 10) (As := [.int _]) (q := 45) (by decide +kernel) kX10_refuse lX10_100 rfl rfl (by decide) rfl rfl (by decide +kernel) (Nat.le_of_ble_eq_true rfl) (Nat.le_refl _) hm rfl (fun v43 iv39 rv40 lv41 hq => ?_)
      obtain ⟨hT42, h⟩ := h v43 iv39 rv40 lv41 hq
      exact Z_iret (ty := .int) (by decide +kernel) rfl rfl rfl ⟨_, rfl, h⟩
  · replace h := h.2 hc
    refine Z_iconst (a := -1) (v := -1) (q := 17) (by decide +kernel) (by decide +kernel) rfl ?_
    exact Z_iret (ty := .int) (by decide +kernel) rfl rfl rfl ⟨_, rfl, h⟩
theorem eX10_flat {d : Nat} (x1 : Int32) {iv : zI} {rv : zR} {lv : zJ} {Q : Int32 → zI → zR → zJ → Prop} (h : Zi mX10_flat (d + 1) 0 [some (.ref 0), some (.int x1), none] [] iv rv lv Q) : Ci mX10_flat (d + 1) [.ref 0, .int x1] iv rv lv Q := Ci.of (by decide +kernel) (by simp [Value.category]) (Nat.le_of_ble_eq_true rfl) rfl h
set_option maxRecDepth 4000 in
theorem bX10_flat_0 {d : Nat} (x1 : Int32) {iv : zI} {rv : zR} {lv : zJ} {Q : Int32 → zI → zR → zJ → Prop} (hT : zTop rv) 
    (h : ∃ Q1 : Int32 → zI → zR → zJ → Prop, Ci mX10_noText d [.ref 0] iv rv lv Q1 ∧ ∀ (v6 : Int32) (iv2 : zI) (rv3 : zR) (lv4 : zJ), Q1 v6 iv2 rv3 lv4 → zTop rv3 ∧ (∃ Q7 : Int32 → zI → zR → zJ → Prop, Ci mX10_noSuchHeaps d [.int x1] iv2 rv3 lv4 Q7 ∧ ∀ (v12 : Int32) (iv8 : zI) (rv9 : zR) (lv10 : zJ), Q7 v12 iv8 rv9 lv10 → zTop rv9 ∧ (∃ Q13 : Int32 → zI → zR → zJ → Prop, Ci mX10_refused d [.ref 0, .int v6, .int v12] iv8 rv9 lv10 Q13 ∧ ∀ (v18 : Int32) (iv14 : zI) (rv15 : zR) (lv16 : zJ), Q13 v18 iv14 rv15 lv16 → zTop rv15 ∧ ((v18 = 0 → ∃ Q19 : Nat → zI → zR → zJ → Prop, Cr mX10_allRows d [.ref 0, .int x1] iv14 rv15 lv16 Q19 ∧ ∀ (v24 : Nat) (iv20 : zI) (rv21 : zR) (lv22 : zJ), Q19 v24 iv20 rv21 lv22 → zTop rv21 ∧ v24 ∈ zPts ∧ (∃ Q25 : Int32 → zI → zR → zJ → Prop, Ci mX5_findLeast d [.ref v24, .ref 8, .int (iv20 0 3)] iv20 rv21 lv22 Q25 ∧ ∀ (v30 : Int32) (iv26 : zI) (rv27 : zR) (lv28 : zJ), Q25 v30 iv26 rv27 lv28 → zTop rv27 ∧ ((¬ v30 = 0 → ∃ Q31 : Int32 → zI → zR → zJ → Prop, Ci mX10_answer d [.ref 0, .int (iv26 v24 2)] iv26 rv27 lv28 Q31 ∧ ∀ (v36 : Int32) (iv32 : zI) (rv33 : zR) (lv34 : zJ), Q31 v36 iv32 rv33 lv34 → zTop rv33 ∧ (Q v36 iv32 rv33 lv34)) ∧ (v30 = 0 → ∃ Q37 : Int32 → zI → zR → zJ → Prop, Ci mX10_refuse d [.ref 0, .int (6 : Int32)] iv26 rv27 lv28 Q37 ∧ ∀ (v42 : Int32) (iv38 : zI) (rv39 : zR) (lv40 : zJ), Q37 v42 iv38 rv39 lv40 → zTop rv39 ∧ (Q v42 iv38 rv39 lv40))))) ∧ (¬ v18 = 0 → Q (-1 : Int32) iv14 rv15 lv16))))) :
    Zi mX10_flat (d + 1) 0 [some (.ref 0), some (.int x1), none] [] iv rv lv Q := by
  unfold Zi
  refine Z_aload_n (a := 0) (q := 1) (by decide +kernel) rfl rfl ?_
  refine Z_aload_n (a := 0) (q := 2) (by decide +kernel) rfl rfl ?_
  obtain ⟨Q1, hm, h⟩ := h
  refine Z_callVi (M2 := mX10_noText) (idx := 136) (d2 := d) (ci := 10) (As := []) (q := 5) (by decide +kernel) kX10_noText lX10_136 rfl rfl (by decide) rfl rfl (by decide +kernel) (Nat.le_of_ble_eq_true rfl) (Nat.le_refl _) hm rfl (fun v6 iv2 rv3 lv4 hq => ?_)
  obtain ⟨hT5, h⟩ := h v6 iv2 rv3 lv4 hq
  refine Z_iload_n (a := 1) (q := 6) (by decide +kernel) rfl rfl ?_
  obtain ⟨Q7, hm, h⟩ := h
  refine Z_callSi (M2 := mX10_noSuchHeaps) (idx := 178) (d2 := d) (As := [.int _]) (q := 9) (by decide +kernel) kX10_noSuchHeaps lX10_178 rfl rfl (by decide +kernel) (Nat.le_of_ble_eq_true rfl) (Nat.le_refl _) hm rfl (fun v12 iv8 rv9 lv10 hq => ?_)
  obtain ⟨hT11, h⟩ := h v12 iv8 rv9 lv10 hq
  obtain ⟨Q13, hm, h⟩ := h
  refine Z_callVi (M2 := mX10_refused) (idx := 181) (d2 := d) (ci := 10) (As := [.int _, .int _]) (q := 12) (by decide +kernel) kX10_refused lX10_181 rfl rfl (by decide) rfl rfl (by decide +kernel) (Nat.le_of_ble_eq_true rfl) (Nat.le_refl _) hm rfl (fun v18 iv14 rv15 lv16 hq => ?_)
  obtain ⟨hT17, h⟩ := h v18 iv14 rv15 lv16 hq
  refine Z_if_eq (t := 17) (off := 5) (q := 15) (by decide +kernel) (by decide) rfl (fun hc => ?_) (fun hc => ?_)
  · replace h := h.1 hc
    refine Z_aload_n (a := 0) (q := 18) (by decide +kernel) rfl rfl ?_
    refine Z_iload_n (a := 1) (q := 19) (by decide +kernel) rfl rfl ?_
    obtain ⟨Q19, hm, h⟩ := h
    refine Z_callVr (M2 := mX10_allRows) (idx := 261) (d2 := d) (ci := 10) (As := [.int _]) (q := 22) (by decide +kernel) kX10_allRows lX10_261 rfl rfl (by decide) rfl rfl (by decide +kernel) (Nat.le_of_ble_eq_true rfl) (Nat.le_refl _) hm rfl (fun v24 iv20 rv21 lv22 hq => ?_)
    obtain ⟨hT23, hmv24, h⟩ := h v24 iv20 rv21 lv22 hq
    refine Z_astore_n (a := 2) (loc2 := [_, _, _]) (q := 23) (by decide +kernel) (by decide +kernel) rfl rfl rfl ?_
    refine Z_aload_n (a := 2) (q := 24) (by decide +kernel) rfl rfl ?_
    refine Z_aload_n (a := 0) (q := 25) (by decide +kernel) rfl rfl ?_
    refine g10_1 (idx := 19) (q := 28) (by decide +kernel) fX10_19 rfl (by decide) (t10_1 hT23) rfl ?_
    refine Z_aload_n (a := 0) (q := 29) (by decide +kernel) rfl rfl ?_
    refine g10_3 (idx := 30) (q := 32) (by decide +kernel) fX10_30 rfl (by decide) rfl ?_
    obtain ⟨Q25, hm, h⟩ := h
    refine Z_callVi (M2 := mX5_findLeast) (idx := 265) (d2 := d) (ci := 5) (As := [.ref _, .int _]) (q := 35) (by decide +kernel) kX5_findLeast lX10_265 rfl (hS5_0 hmv24) (hL5_0 hmv24) rfl rfl (by decide +kernel) (Nat.le_of_ble_eq_true rfl) (Nat.le_refl _) hm rfl (fun v30 iv26 rv27 lv28 hq => ?_)
    obtain ⟨hT29, h⟩ := h v30 iv26 rv27 lv28 hq
    refine Z_if_ne (t := 45) (off := 10) (q := 38) (by decide +kernel) (by decide) rfl (fun hc => ?_) (fun hc => ?_)
    · replace h := h.1 hc
      refine Z_aload_n (a := 0) (q := 46) (by decide +kernel) rfl rfl ?_
      refine Z_aload_n (a := 2) (q := 47) (by decide +kernel) rfl rfl ?_
      refine g5_2 (idx := 277) (q := 50) (by decide +kernel) fX10_277 (hS5_0 hmv24) (hL5_0 hmv24) rfl ?_
      obtain ⟨Q31, hm, h⟩ := h
      refine Z_callVi (M2 := mX10_answer) (idx := 133) (d2 := d) (ci := 10) (As := [.int _]) (q := 53) (by decide +kernel) kX10_answer lX10_133 rfl rfl (by decide) rfl rfl (by decide +kernel) (Nat.le_of_ble_eq_true rfl) (Nat.le_refl _) hm rfl (fun v36 iv32 rv33 lv34 hq => ?_)
      obtain ⟨hT35, h⟩ := h v36 iv32 rv33 lv34 hq
      exact Z_iret (ty := .int) (by decide +kernel) rfl rfl rfl ⟨_, rfl, h⟩
    · replace h := h.2 hc
      refine Z_aload_n (a := 0) (q := 39) (by decide +kernel) rfl rfl ?_
      refine Z_bipush (a := 6) (v := 6) (q := 41) (by decide +kernel) (by decide +kernel) rfl ?_
      obtain ⟨Q37, hm, h⟩ := h
      refine Z_callVi (M2 := mX10_refuse) (idx := 100) (d2 := d) (ci := 10) (As := [.int _]) (q := 44) (by decide +kernel) kX10_refuse lX10_100 rfl rfl (by decide) rfl rfl (by decide +kernel) (Nat.le_of_ble_eq_true rfl) (Nat.le_refl _) hm rfl (fun v42 iv38 rv39 lv40 hq => ?_)
      obtain ⟨hT41, h⟩ := h v42 iv38 rv39 lv40 hq
      exact Z_iret (ty := .int) (by decide +kernel) rfl rfl rfl ⟨_, rfl, h⟩
  · replace h := h.2 hc
    refine Z_iconst (a := -1) (v := -1) (q := 16) (by decide +kernel) (by decide +kernel) rfl ?_
    exact Z_iret (ty := .int) (by decide +kernel) rfl rfl rfl ⟨_, rfl, h⟩
theorem eX10_rows {d : Nat} (x1 : Int32) {iv : zI} {rv : zR} {lv : zJ} {Q : Int32 → zI → zR → zJ → Prop} (h : Zi mX10_rows (d + 1) 0 [some (.ref 0), some (.int x1)] [] iv rv lv Q) : Ci mX10_rows (d + 1) [.ref 0, .int x1] iv rv lv Q := Ci.of (by decide +kernel) (by simp [Value.category]) (Nat.le_of_ble_eq_true rfl) rfl h
set_option maxRecDepth 4000 in
theorem bX10_rows_0 {d : Nat} (x1 : Int32) {iv : zI} {rv : zR} {lv : zJ} {Q : Int32 → zI → zR → zJ → Prop} (hT : zTop rv) 
    (h : ∃ Q1 : Int32 → zI → zR → zJ → Prop, Ci mX10_noText d [.ref 0] iv rv lv Q1 ∧ ∀ (v6 : Int32) (iv2 : zI) (rv3 : zR) (lv4 : zJ), Q1 v6 iv2 rv3 lv4 → zTop rv3 ∧ (∃ Q7 : Int32 → zI → zR → zJ → Prop, Ci mX10_noSuchHeaps d [.int x1] iv2 rv3 lv4 Q7 ∧ ∀ (v12 : Int32) (iv8 : zI) (rv9 : zR) (lv10 : zJ), Q7 v12 iv8 rv9 lv10 → zTop rv9 ∧ (∃ Q13 : Int32 → zI → zR → zJ → Prop, Ci mX10_refused d [.ref 0, .int v6, .int v12] iv8 rv9 lv10 Q13 ∧ ∀ (v18 : Int32) (iv14 : zI) (rv15 : zR) (lv16 : zJ), Q13 v18 iv14 rv15 lv16 → zTop rv15 ∧ ((v18 = 0 → ∃ Q19 : Nat → zI → zR → zJ → Prop, Cr mX10_allRows d [.ref 0, .int x1] iv14 rv15 lv16 Q19 ∧ ∀ (v24 : Nat) (iv20 : zI) (rv21 : zR) (lv22 : zJ), Q19 v24 iv20 rv21 lv22 → zTop rv21 ∧ v24 ∈ zPts ∧ (∃ Q25 : Int32 → zI → zR → zJ → Prop, Ci mX5_countAllowed d [.ref v24, .ref 8] iv20 rv21 lv22 Q25 ∧ ∀ (v30 : Int32) (iv26 : zI) (rv27 : zR) (lv28 : zJ), Q25 v30 iv26 rv27 lv28 → zTop rv27 ∧ (∃ Q31 : Int32 → zI → zR → zJ → Prop, Ci mX10_answer d [.ref 0, .int v30] iv26 rv27 lv28 Q31 ∧ ∀ (v36 : Int32) (iv32 : zI) (rv33 : zR) (lv34 : zJ), Q31 v36 iv32 rv33 lv34 → zTop rv33 ∧ (Q v36 iv32 rv33 lv34)))) ∧ (¬ v18 = 0 → Q (-1 : Int32) iv14 rv15 lv16))))) :
    Zi mX10_rows (d + 1) 0 [some (.ref 0), some (.int x1)] [] iv rv lv Q := by
  unfold Zi
  refine Z_aload_n (a := 0) (q := 1) (by decide +kernel) rfl rfl ?_
  refine Z_aload_n (a := 0) (q := 2) (by decide +kernel) rfl rfl ?_
  obtain ⟨Q1, hm, h⟩ := h
  refine Z_callVi (M2 := mX10_noText) (idx := 136) (d2 := d) (ci := 10) (As := []) (q := 5) (by decide +kernel) kX10_noText lX10_136 rfl rfl (by decide) rfl rfl (by decide +kernel) (Nat.le_of_ble_eq_true rfl) (Nat.le_refl _) hm rfl (fun v6 iv2 rv3 lv4 hq => ?_)
  obtain ⟨hT5, h⟩ := h v6 iv2 rv3 lv4 hq
  refine Z_iload_n (a := 1) (q := 6) (by decide +kernel) rfl rfl ?_
  obtain ⟨Q7, hm, h⟩ := h
  refine Z_callSi (M2 := mX10_noSuchHeaps) (idx := 178) (d2 := d) (As := [.int _]) (q := 9) (by decide +kernel) kX10_noSuchHeaps lX10_178 rfl rfl (by decide +kernel) (Nat.le_of_ble_eq_true rfl) (Nat.le_refl _) hm rfl (fun v12 iv8 rv9 lv10 hq => ?_)
  obtain ⟨hT11, h⟩ := h v12 iv8 rv9 lv10 hq
  obtain ⟨Q13, hm, h⟩ := h
  refine Z_callVi (M2 := mX10_refused) (idx := 181) (d2 := d) (ci := 10) (As := [.int _, .int _]) (q := 12) (by decide +kernel) kX10_refused lX10_181 rfl rfl (by decide) rfl rfl (by decide +kernel) (Nat.le_of_ble_eq_true rfl) (Nat.le_refl _) hm rfl (fun v18 iv14 rv15 lv16 hq => ?_)
  obtain ⟨hT17, h⟩ := h v18 iv14 rv15 lv16 hq
  refine Z_if_eq (t := 17) (off := 5) (q := 15) (by decide +kernel) (by decide) rfl (fun hc => ?_) (fun hc => ?_)
  · replace h := h.1 hc
    refine Z_aload_n (a := 0) (q := 18) (by decide +kernel) rfl rfl ?_
    refine Z_aload_n (a := 0) (q := 19) (by decide +kernel) rfl rfl ?_
    refine Z_iload_n (a := 1) (q := 20) (by decide +kernel) rfl rfl ?_
    obtain ⟨Q19, hm, h⟩ := h
    refine Z_callVr (M2 := mX10_allRows) (idx := 261) (d2 := d) (ci := 10) (As := [.int _]) (q := 23) (by decide +kernel) kX10_allRows lX10_261 rfl rfl (by decide) rfl rfl (by decide +kernel) (Nat.le_of_ble_eq_true rfl) (Nat.le_refl _) hm rfl (fun v24 iv20 rv21 lv22 hq => ?_)
    obtain ⟨hT23, hmv24, h⟩ := h v24 iv20 rv21 lv22 hq
    refine Z_aload_n (a := 0) (q := 24) (by decide +kernel) rfl rfl ?_
    refine g10_1 (idx := 19) (q := 27) (by decide +kernel) fX10_19 rfl (by decide) (t10_1 hT23) rfl ?_
    obtain ⟨Q25, hm, h⟩ := h
    refine Z_callVi (M2 := mX5_countAllowed) (idx := 280) (d2 := d) (ci := 5) (As := [.ref _]) (q := 30) (by decide +kernel) kX5_countAllowed lX10_280 rfl (hS5_0 hmv24) (hL5_0 hmv24) rfl rfl (by decide +kernel) (Nat.le_of_ble_eq_true rfl) (Nat.le_refl _) hm rfl (fun v30 iv26 rv27 lv28 hq => ?_)
    obtain ⟨hT29, h⟩ := h v30 iv26 rv27 lv28 hq
    obtain ⟨Q31, hm, h⟩ := h
    refine Z_callVi (M2 := mX10_answer) (idx := 133) (d2 := d) (ci := 10) (As := [.int _]) (q := 33) (by decide +kernel) kX10_answer lX10_133 rfl rfl (by decide) rfl rfl (by decide +kernel) (Nat.le_of_ble_eq_true rfl) (Nat.le_refl _) hm rfl (fun v36 iv32 rv33 lv34 hq => ?_)
    obtain ⟨hT35, h⟩ := h v36 iv32 rv33 lv34 hq
    exact Z_iret (ty := .int) (by decide +kernel) rfl rfl rfl ⟨_, rfl, h⟩
  · replace h := h.2 hc
    refine Z_iconst (a := -1) (v := -1) (q := 16) (by decide +kernel) (by decide +kernel) rfl ?_
    exact Z_iret (ty := .int) (by decide +kernel) rfl rfl rfl ⟨_, rfl, h⟩
theorem eX10_climb {d : Nat} (x1 : Int32) (x2 : Int32) {iv : zI} {rv : zR} {lv : zJ} {Q : Int32 → zI → zR → zJ → Prop} (h : Zi mX10_climb (d + 1) 0 [some (.ref 0), some (.int x1), some (.int x2)] [] iv rv lv Q) : Ci mX10_climb (d + 1) [.ref 0, .int x1, .int x2] iv rv lv Q := Ci.of (by decide +kernel) (by simp [Value.category]) (Nat.le_of_ble_eq_true rfl) rfl h
set_option maxRecDepth 4000 in
theorem bX10_climb_0 {d : Nat} (x1 : Int32) (x2 : Int32) {iv : zI} {rv : zR} {lv : zJ} {Q : Int32 → zI → zR → zJ → Prop} (hT : zTop rv) 
    (h : ∃ Q1 : Int32 → zI → zR → zJ → Prop, Ci mX10_noText d [.ref 0] iv rv lv Q1 ∧ ∀ (v6 : Int32) (iv2 : zI) (rv3 : zR) (lv4 : zJ), Q1 v6 iv2 rv3 lv4 → zTop rv3 ∧ ((¬ v6 = 0 → Zi mX10_climb (d + 1) 20 [some (.ref 0), some (.int x1), some (.int x2)] [.int (1 : Int32), .ref 0] iv2 rv3 lv4 Q) ∧ (v6 = 0 → ∃ Q7 : Int32 → zI → zR → zJ → Prop, Ci mX10_notZeroOrOne d [.int x2] iv2 rv3 lv4 Q7 ∧ ∀ (v12 : Int32) (iv8 : zI) (rv9 : zR) (lv10 : zJ), Q7 v12 iv8 rv9 lv10 → zTop rv9 ∧ ((v12 = 0 → Zi mX10_climb (d + 1) 20 [some (.ref 0), some (.int x1), some (.int x2)] [.int (0 : Int32), .ref 0] iv8 rv9 lv10 Q) ∧ (¬ v12 = 0 → Zi mX10_climb (d + 1) 20 [some (.ref 0), some (.int x1), some (.int x2)] [.int (1 : Int32), .ref 0] iv8 rv9 lv10 Q))))) :
    Zi mX10_climb (d + 1) 0 [some (.ref 0), some (.int x1), some (.int x2)] [] iv rv lv Q := by
  unfold Zi
  refine Z_aload_n (a := 0) (q := 1) (by decide +kernel) rfl rfl ?_
  refine Z_aload_n (a := 0) (q := 2) (by decide +kernel) rfl rfl ?_
  obtain ⟨Q1, hm, h⟩ := h
  refine Z_callVi (M2 := mX10_noText) (idx := 136) (d2 := d) (ci := 10) (As := []) (q := 5) (by decide +kernel) kX10_noText lX10_136 rfl rfl (by decide) rfl rfl (by decide +kernel) (Nat.le_of_ble_eq_true rfl) (Nat.le_refl _) hm rfl (fun v6 iv2 rv3 lv4 hq => ?_)
  obtain ⟨hT5, h⟩ := h v6 iv2 rv3 lv4 hq
  refine Z_if_ne (t := 15) (off := 10) (q := 8) (by decide +kernel) (by decide) rfl (fun hc => ?_) (fun hc => ?_)
  · replace h := h.1 hc
    refine Z_iconst (a := 1) (v := 1) (q := 16) (by decide +kernel) (by decide +kernel) rfl ?_
    refine Z_goto (q := 20) (off := 4) (by decide +kernel) (by decide) ?_
    exact h
  · replace h := h.2 hc
    refine Z_iload_n (a := 2) (q := 9) (by decide +kernel) rfl rfl ?_
    obtain ⟨Q7, hm, h⟩ := h
    refine Z_callSi (M2 := mX10_notZeroOrOne) (idx := 175) (d2 := d) (As := [.int _]) (q := 12) (by decide +kernel) kX10_notZeroOrOne lX10_175 rfl rfl (by decide +kernel) (Nat.le_of_ble_eq_true rfl) (Nat.le_refl _) hm rfl (fun v12 iv8 rv9 lv10 hq => ?_)
    obtain ⟨hT11, h⟩ := h v12 iv8 rv9 lv10 hq
    refine Z_if_eq (t := 19) (off := 7) (q := 15) (by decide +kernel) (by decide) rfl (fun hc => ?_) (fun hc => ?_)
    · replace h := h.1 hc
      refine Z_iconst (a := 0) (v := 0) (q := 20) (by decide +kernel) (by decide +kernel) rfl ?_
      exact h
    · replace h := h.2 hc
      refine Z_iconst (a := 1) (v := 1) (q := 16) (by decide +kernel) (by decide +kernel) rfl ?_
      refine Z_goto (q := 20) (off := 4) (by decide +kernel) (by decide) ?_
      exact h
set_option maxRecDepth 4000 in
theorem bX10_climb_20 {d : Nat} (x1 : Int32) (x2 : Int32) (y0 : Int32) {iv : zI} {rv : zR} {lv : zJ} {Q : Int32 → zI → zR → zJ → Prop} (hT : zTop rv) 
    (h : ∃ Q1 : Int32 → zI → zR → zJ → Prop, Ci mX10_noSuchHeaps d [.int x1] iv rv lv Q1 ∧ ∀ (v6 : Int32) (iv2 : zI) (rv3 : zR) (lv4 : zJ), Q1 v6 iv2 rv3 lv4 → zTop rv3 ∧ (∃ Q7 : Int32 → zI → zR → zJ → Prop, Ci mX10_refused d [.ref 0, .int y0, .int v6] iv2 rv3 lv4 Q7 ∧ ∀ (v12 : Int32) (iv8 : zI) (rv9 : zR) (lv10 : zJ), Q7 v12 iv8 rv9 lv10 → zTop rv9 ∧ ((v12 = 0 → ∃ Q13 : zI → zR → zJ → Prop, Cv mX1_improve d [.ref 76, .ref 8, .int x1] iv8 rv9 lv10 Q13 ∧ ∀ (iv14 : zI) (rv15 : zR) (lv16 : zJ), Q13 iv14 rv15 lv16 → zTop rv15 ∧ ((¬ x2 = 0 → ∃ Q19 : Int32 → zI → zR → zJ → Prop, Ci mX10_answer d [.ref 0, .int (iv14 76 1)] iv14 rv15 lv16 Q19 ∧ ∀ (v24 : Int32) (iv20 : zI) (rv21 : zR) (lv22 : zJ), Q19 v24 iv20 rv21 lv22 → zTop rv21 ∧ (Q v24 iv20 rv21 lv22)) ∧ (x2 = 0 → ∃ Q25 : Int32 → zI → zR → zJ → Prop, Ci mX1_spread d [.ref 76] iv14 rv15 lv16 Q25 ∧ ∀ (v30 : Int32) (iv26 : zI) (rv27 : zR) (lv28 : zJ), Q25 v30 iv26 rv27 lv28 → zTop rv27 ∧ (∃ Q31 : Int32 → zI → zR → zJ → Prop, Ci mX10_answer d [.ref 0, .int v30] iv26 rv27 lv28 Q31 ∧ ∀ (v36 : Int32) (iv32 : zI) (rv33 : zR) (lv34 : zJ), Q31 v36 iv32 rv33 lv34 → zTop rv33 ∧ (Q v36 iv32 rv33 lv34))))) ∧ (¬ v12 = 0 → Q (-1 : Int32) iv8 rv9 lv10)))) :
    Zi mX10_climb (d + 1) 20 [some (.ref 0), some (.int x1), some (.int x2)] [.int y0, .ref 0] iv rv lv Q := by
  unfold Zi
  refine Z_iload_n (a := 1) (q := 21) (by decide +kernel) rfl rfl ?_
  obtain ⟨Q1, hm, h⟩ := h
  refine Z_callSi (M2 := mX10_noSuchHeaps) (idx := 178) (d2 := d) (As := [.int _]) (q := 24) (by decide +kernel) kX10_noSuchHeaps lX10_178 rfl rfl (by decide +kernel) (Nat.le_of_ble_eq_true rfl) (Nat.le_refl _) hm rfl (fun v6 iv2 rv3 lv4 hq => ?_)
  obtain ⟨hT5, h⟩ := h v6 iv2 rv3 lv4 hq
  obtain ⟨Q7, hm, h⟩ := h
  refine Z_callVi (M2 := mX10_refused) (idx := 181) (d2 := d) (ci := 10) (As := [.int _, .int _]) (q := 27) (by decide +kernel) kX10_refused lX10_181 rfl rfl (by decide) rfl rfl (by decide +kernel) (Nat.le_of_ble_eq_true rfl) (Nat.le_refl _) hm rfl (fun v12 iv8 rv9 lv10 hq => ?_)
  obtain ⟨hT11, h⟩ := h v12 iv8 rv9 lv10 hq
  refine Z_if_eq (t := 32) (off := 5) (q := 30) (by decide +kernel) (by decide) rfl (fun hc => ?_) (fun hc => ?_)
  · replace h := h.1 hc
    refine Z_aload_n (a := 0) (q := 33) (by decide +kernel) rfl rfl ?_
    refine g10_4 (idx := 37) (q := 36) (by decide +kernel) fX10_37 rfl (by decide) (t10_4 hT11) rfl ?_
    refine Z_aload_n (a := 0) (q := 37) (by decide +kernel) rfl rfl ?_
    refine g10_1 (idx := 19) (q := 40) (by decide +kernel) fX10_19 rfl (by decide) (t10_1 hT11) rfl ?_
    refine Z_iload_n (a := 1) (q := 41) (by decide +kernel) rfl rfl ?_
    obtain ⟨Q13, hm, h⟩ := h
    refine Z_callVv (M2 := mX1_improve) (idx := 284) (d2 := d) (ci := 1) (As := [.ref _, .int _]) (q := 44) (by decide +kernel) kX1_improve lX10_284 rfl rfl (by decide) rfl rfl (by decide +kernel) (Nat.le_of_ble_eq_true rfl) (Nat.le_refl _) hm rfl (fun iv14 rv15 lv16 hq => ?_)
    obtain ⟨hT17, h⟩ := h iv14 rv15 lv16 hq
    refine Z_aload_n (a := 0) (q := 45) (by decide +kernel) rfl rfl ?_
    refine Z_iload_n (a := 2) (q := 46) (by decide +kernel) rfl rfl ?_
    refine Z_if_ne (t := 59) (off := 13) (q := 49) (by decide +kernel) (by decide) rfl (fun hc => ?_) (fun hc => ?_)
    · replace h := h.1 hc
      refine Z_aload_n (a := 0) (q := 60) (by decide +kernel) rfl rfl ?_
      refine g10_4 (idx := 37) (q := 63) (by decide +kernel) fX10_37 rfl (by decide) (t10_4 hT17) rfl ?_
      refine g1_1 (idx := 287) (q := 66) (by decide +kernel) fX10_287 rfl (by decide) rfl ?_
      obtain ⟨Q19, hm, h⟩ := h
      refine Z_callVi (M2 := mX10_answer) (idx := 133) (d2 := d) (ci := 10) (As := [.int _]) (q := 69) (by decide +kernel) kX10_answer lX10_133 rfl rfl (by decide) rfl rfl (by decide +kernel) (Nat.le_of_ble_eq_true rfl) (Nat.le_refl _) hm rfl (fun v24 iv20 rv21 lv22 hq => ?_)
      obtain ⟨hT23, h⟩ := h v24 iv20 rv21 lv22 hq
      exact Z_iret (ty := .int) (by decide +kernel) rfl rfl rfl ⟨_, rfl, h⟩
    · replace h := h.2 hc
      refine Z_aload_n (a := 0) (q := 50) (by decide +kernel) rfl rfl ?_
      refine g10_4 (idx := 37) (q := 53) (by decide +kernel) fX10_37 rfl (by decide) (t10_4 hT17) rfl ?_
      obtain ⟨Q25, hm, h⟩ := h
      refine Z_callVi (M2 := mX1_spread) (idx := 189) (d2 := d) (ci := 1) (As := []) (q := 56) (by decide +kernel) kX1_spread lX10_189 rfl rfl (by decide) rfl rfl (by decide +kernel) (Nat.le_of_ble_eq_true rfl) (Nat.le_refl _) hm rfl (fun v30 iv26 rv27 lv28 hq => ?_)
      obtain ⟨hT29, h⟩ := h v30 iv26 rv27 lv28 hq
      refine Z_goto (q := 66) (off := 10) (by decide +kernel) (by decide) ?_
      obtain ⟨Q31, hm, h⟩ := h
      refine Z_callVi (M2 := mX10_answer) (idx := 133) (d2 := d) (ci := 10) (As := [.int _]) (q := 69) (by decide +kernel) kX10_answer lX10_133 rfl rfl (by decide) rfl rfl (by decide +kernel) (Nat.le_of_ble_eq_true rfl) (Nat.le_refl _) hm rfl (fun v36 iv32 rv33 lv34 hq => ?_)
      obtain ⟨hT35, h⟩ := h v36 iv32 rv33 lv34 hq
      exact Z_iret (ty := .int) (by decide +kernel) rfl rfl rfl ⟨_, rfl, h⟩
  · replace h := h.2 hc
    refine Z_iconst (a := -1) (v := -1) (q := 31) (by decide +kernel) (by decide +kernel) rfl ?_
    exact Z_iret (ty := .int) (by decide +kernel) rfl rfl rfl ⟨_, rfl, h⟩
theorem eX10_climbOf {d : Nat} (x1 : Int32) (x2 : Int32) {iv : zI} {rv : zR} {lv : zJ} {Q : Int32 → zI → zR → zJ → Prop} (h : Zi mX10_climbOf (d + 1) 0 [some (.ref 0), some (.int x1), some (.int x2)] [] iv rv lv Q) : Ci mX10_climbOf (d + 1) [.ref 0, .int x1, .int x2] iv rv lv Q := Ci.of (by decide +kernel) (by simp [Value.category]) (Nat.le_of_ble_eq_true rfl) rfl h
set_option maxRecDepth 4000 in
theorem bX10_climbOf_0 {d : Nat} (x1 : Int32) (x2 : Int32) {iv : zI} {rv : zR} {lv : zJ} {Q : Int32 → zI → zR → zJ → Prop} (hT : zTop rv) 
    (h : ∃ Q1 : Int32 → zI → zR → zJ → Prop, Ci mX10_noNumber d [.ref 0, .int x2] iv rv lv Q1 ∧ ∀ (v6 : Int32) (iv2 : zI) (rv3 : zR) (lv4 : zJ), Q1 v6 iv2 rv3 lv4 → zTop rv3 ∧ (∃ Q7 : Int32 → zI → zR → zJ → Prop, Ci mX10_noSuchHeaps d [.int x1] iv2 rv3 lv4 Q7 ∧ ∀ (v12 : Int32) (iv8 : zI) (rv9 : zR) (lv10 : zJ), Q7 v12 iv8 rv9 lv10 → zTop rv9 ∧ (∃ Q13 : Int32 → zI → zR → zJ → Prop, Ci mX10_refused d [.ref 0, .int v6, .int v12] iv8 rv9 lv10 Q13 ∧ ∀ (v18 : Int32) (iv14 : zI) (rv15 : zR) (lv16 : zJ), Q13 v18 iv14 rv15 lv16 → zTop rv15 ∧ ((v18 = 0 → ∃ Q19 : zI → zR → zJ → Prop, Cv mX1_improve d [.ref 76, .ref 8, .int x1] iv14 rv15 lv16 Q19 ∧ ∀ (iv20 : zI) (rv21 : zR) (lv22 : zJ), Q19 iv20 rv21 lv22 → zTop rv21 ∧ (vp_in x2 10 ∧ (∃ Q26 : Int32 → zI → zR → zJ → Prop, Ci mX10_answer d [.ref 0, .int (iv20 77 x2.toNatClampNeg)] iv20 rv21 lv22 Q26 ∧ ∀ (v31 : Int32) (iv27 : zI) (rv28 : zR) (lv29 : zJ), Q26 v31 iv27 rv28 lv29 → zTop rv28 ∧ (Q v31 iv27 rv28 lv29)))) ∧ (¬ v18 = 0 → Q (-1 : Int32) iv14 rv15 lv16))))) :
    Zi mX10_climbOf (d + 1) 0 [some (.ref 0), some (.int x1), some (.int x2)] [] iv rv lv Q := by
  unfold Zi
  refine Z_aload_n (a := 0) (q := 1) (by decide +kernel) rfl rfl ?_
  refine Z_aload_n (a := 0) (q := 2) (by decide +kernel) rfl rfl ?_
  refine Z_iload_n (a := 2) (q := 3) (by decide +kernel) rfl rfl ?_
  obtain ⟨Q1, hm, h⟩ := h
  refine Z_callVi (M2 := mX10_noNumber) (idx := 163) (d2 := d) (ci := 10) (As := [.int _]) (q := 6) (by decide +kernel) kX10_noNumber lX10_163 rfl rfl (by decide) rfl rfl (by decide +kernel) (Nat.le_of_ble_eq_true rfl) (Nat.le_refl _) hm rfl (fun v6 iv2 rv3 lv4 hq => ?_)
  obtain ⟨hT5, h⟩ := h v6 iv2 rv3 lv4 hq
  refine Z_iload_n (a := 1) (q := 7) (by decide +kernel) rfl rfl ?_
  obtain ⟨Q7, hm, h⟩ := h
  refine Z_callSi (M2 := mX10_noSuchHeaps) (idx := 178) (d2 := d) (As := [.int _]) (q := 10) (by decide +kernel) kX10_noSuchHeaps lX10_178 rfl rfl (by decide +kernel) (Nat.le_of_ble_eq_true rfl) (Nat.le_refl _) hm rfl (fun v12 iv8 rv9 lv10 hq => ?_)
  obtain ⟨hT11, h⟩ := h v12 iv8 rv9 lv10 hq
  obtain ⟨Q13, hm, h⟩ := h
  refine Z_callVi (M2 := mX10_refused) (idx := 181) (d2 := d) (ci := 10) (As := [.int _, .int _]) (q := 13) (by decide +kernel) kX10_refused lX10_181 rfl rfl (by decide) rfl rfl (by decide +kernel) (Nat.le_of_ble_eq_true rfl) (Nat.le_refl _) hm rfl (fun v18 iv14 rv15 lv16 hq => ?_)
  obtain ⟨hT17, h⟩ := h v18 iv14 rv15 lv16 hq
  refine Z_if_eq (t := 18) (off := 5) (q := 16) (by decide +kernel) (by decide) rfl (fun hc => ?_) (fun hc => ?_)
  · replace h := h.1 hc
    refine Z_aload_n (a := 0) (q := 19) (by decide +kernel) rfl rfl ?_
    refine g10_4 (idx := 37) (q := 22) (by decide +kernel) fX10_37 rfl (by decide) (t10_4 hT17) rfl ?_
    refine Z_aload_n (a := 0) (q := 23) (by decide +kernel) rfl rfl ?_
    refine g10_1 (idx := 19) (q := 26) (by decide +kernel) fX10_19 rfl (by decide) (t10_1 hT17) rfl ?_
    refine Z_iload_n (a := 1) (q := 27) (by decide +kernel) rfl rfl ?_
    obtain ⟨Q19, hm, h⟩ := h
    refine Z_callVv (M2 := mX1_improve) (idx := 284) (d2 := d) (ci := 1) (As := [.ref _, .int _]) (q := 30) (by decide +kernel) kX1_improve lX10_284 rfl rfl (by decide) rfl rfl (by decide +kernel) (Nat.le_of_ble_eq_true rfl) (Nat.le_refl _) hm rfl (fun iv20 rv21 lv22 hq => ?_)
    obtain ⟨hT23, h⟩ := h iv20 rv21 lv22 hq
    refine Z_aload_n (a := 0) (q := 31) (by decide +kernel) rfl rfl ?_
    refine Z_aload_n (a := 0) (q := 32) (by decide +kernel) rfl rfl ?_
    refine g10_4 (idx := 37) (q := 35) (by decide +kernel) fX10_37 rfl (by decide) (t10_4 hT23) rfl ?_
    refine g1_0 (idx := 195) (q := 38) (by decide +kernel) fX10_195 rfl (by decide) (t1_0 hT23) rfl ?_
    refine Z_iload_n (a := 2) (q := 39) (by decide +kernel) rfl rfl ?_
    obtain ⟨hin25, h⟩ := h
    refine Z_iald (len := 10) (q := 40) (by decide +kernel) rfl (by decide) hin25 rfl ?_
    obtain ⟨Q26, hm, h⟩ := h
    refine Z_callVi (M2 := mX10_answer) (idx := 133) (d2 := d) (ci := 10) (As := [.int _]) (q := 43) (by decide +kernel) kX10_answer lX10_133 rfl rfl (by decide) rfl rfl (by decide +kernel) (Nat.le_of_ble_eq_true rfl) (Nat.le_refl _) hm rfl (fun v31 iv27 rv28 lv29 hq => ?_)
    obtain ⟨hT30, h⟩ := h v31 iv27 rv28 lv29 hq
    exact Z_iret (ty := .int) (by decide +kernel) rfl rfl rfl ⟨_, rfl, h⟩
  · replace h := h.2 hc
    refine Z_iconst (a := -1) (v := -1) (q := 17) (by decide +kernel) (by decide +kernel) rfl ?_
    exact Z_iret (ty := .int) (by decide +kernel) rfl rfl rfl ⟨_, rfl, h⟩
theorem eX10_ways {d : Nat} (x1 : Int32) {iv : zI} {rv : zR} {lv : zJ} {Q : Int32 → zI → zR → zJ → Prop} (h : Zi mX10_ways (d + 1) 0 [some (.ref 0), some (.int x1)] [] iv rv lv Q) : Ci mX10_ways (d + 1) [.ref 0, .int x1] iv rv lv Q := Ci.of (by decide +kernel) (by simp [Value.category]) (Nat.le_of_ble_eq_true rfl) rfl h
set_option maxRecDepth 4000 in
theorem bX10_ways_0 {d : Nat} (x1 : Int32) {iv : zI} {rv : zR} {lv : zJ} {Q : Int32 → zI → zR → zJ → Prop} (hT : zTop rv) 
    (h : ∃ Q1 : Int32 → zI → zR → zJ → Prop, Ci mX10_noText d [.ref 0] iv rv lv Q1 ∧ ∀ (v6 : Int32) (iv2 : zI) (rv3 : zR) (lv4 : zJ), Q1 v6 iv2 rv3 lv4 → zTop rv3 ∧ (∃ Q7 : Int32 → zI → zR → zJ → Prop, Ci mX10_noSuchSum d [.int x1] iv2 rv3 lv4 Q7 ∧ ∀ (v12 : Int32) (iv8 : zI) (rv9 : zR) (lv10 : zJ), Q7 v12 iv8 rv9 lv10 → zTop rv9 ∧ (∃ Q13 : Int32 → zI → zR → zJ → Prop, Ci mX10_refused d [.ref 0, .int v6, .int v12] iv8 rv9 lv10 Q13 ∧ ∀ (v18 : Int32) (iv14 : zI) (rv15 : zR) (lv16 : zJ), Q13 v18 iv14 rv15 lv16 → zTop rv15 ∧ ((v18 = 0 → ∃ Q19 : zI → zR → zJ → Prop, Cv mX8_prepare d [.ref 155, .ref 8, .int (iv14 0 3)] iv14 rv15 lv16 Q19 ∧ ∀ (iv20 : zI) (rv21 : zR) (lv22 : zJ), Q19 iv20 rv21 lv22 → zTop rv21 ∧ (∃ Q25 : Int32 → zI → zR → zJ → Prop, Ci mX8_setsWith d [.ref 155, .int x1] iv20 rv21 lv22 Q25 ∧ ∀ (v30 : Int32) (iv26 : zI) (rv27 : zR) (lv28 : zJ), Q25 v30 iv26 rv27 lv28 → zTop rv27 ∧ (∃ Q31 : Int32 → zI → zR → zJ → Prop, Ci mX10_answer d [.ref 0, .int v30] iv26 rv27 lv28 Q31 ∧ ∀ (v36 : Int32) (iv32 : zI) (rv33 : zR) (lv34 : zJ), Q31 v36 iv32 rv33 lv34 → zTop rv33 ∧ (Q v36 iv32 rv33 lv34)))) ∧ (¬ v18 = 0 → Q (-1 : Int32) iv14 rv15 lv16))))) :
    Zi mX10_ways (d + 1) 0 [some (.ref 0), some (.int x1)] [] iv rv lv Q := by
  unfold Zi
  refine Z_aload_n (a := 0) (q := 1) (by decide +kernel) rfl rfl ?_
  refine Z_aload_n (a := 0) (q := 2) (by decide +kernel) rfl rfl ?_
  obtain ⟨Q1, hm, h⟩ := h
  refine Z_callVi (M2 := mX10_noText) (idx := 136) (d2 := d) (ci := 10) (As := []) (q := 5) (by decide +kernel) kX10_noText lX10_136 rfl rfl (by decide) rfl rfl (by decide +kernel) (Nat.le_of_ble_eq_true rfl) (Nat.le_refl _) hm rfl (fun v6 iv2 rv3 lv4 hq => ?_)
  obtain ⟨hT5, h⟩ := h v6 iv2 rv3 lv4 hq
  refine Z_iload_n (a := 1) (q := 6) (by decide +kernel) rfl rfl ?_
  obtain ⟨Q7, hm, h⟩ := h
  refine Z_callSi (M2 := mX10_noSuchSum) (idx := 290) (d2 := d) (As := [.int _]) (q := 9) (by decide +kernel) kX10_noSuchSum lX10_290 rfl rfl (by decide +kernel) (Nat.le_of_ble_eq_true rfl) (Nat.le_refl _) hm rfl (fun v12 iv8 rv9 lv10 hq => ?_)
  obtain ⟨hT11, h⟩ := h v12 iv8 rv9 lv10 hq
  obtain ⟨Q13, hm, h⟩ := h
  refine Z_callVi (M2 := mX10_refused) (idx := 181) (d2 := d) (ci := 10) (As := [.int _, .int _]) (q := 12) (by decide +kernel) kX10_refused lX10_181 rfl rfl (by decide) rfl rfl (by decide +kernel) (Nat.le_of_ble_eq_true rfl) (Nat.le_refl _) hm rfl (fun v18 iv14 rv15 lv16 hq => ?_)
  obtain ⟨hT17, h⟩ := h v18 iv14 rv15 lv16 hq
  refine Z_if_eq (t := 17) (off := 5) (q := 15) (by decide +kernel) (by decide) rfl (fun hc => ?_) (fun hc => ?_)
  · replace h := h.1 hc
    refine Z_aload_n (a := 0) (q := 18) (by decide +kernel) rfl rfl ?_
    refine g10_9 (idx := 71) (q := 21) (by decide +kernel) fX10_71 rfl (by decide) (t10_9 hT17) rfl ?_
    refine Z_aload_n (a := 0) (q := 22) (by decide +kernel) rfl rfl ?_
    refine g10_1 (idx := 19) (q := 25) (by decide +kernel) fX10_19 rfl (by decide) (t10_1 hT17) rfl ?_
    refine Z_aload_n (a := 0) (q := 26) (by decide +kernel) rfl rfl ?_
    refine g10_3 (idx := 30) (q := 29) (by decide +kernel) fX10_30 rfl (by decide) rfl ?_
    obtain ⟨Q19, hm, h⟩ := h
    refine Z_callVv (M2 := mX8_prepare) (idx := 293) (d2 := d) (ci := 8) (As := [.ref _, .int _]) (q := 32) (by decide +kernel) kX8_prepare lX10_293 rfl rfl (by decide) rfl rfl (by decide +kernel) (Nat.le_of_ble_eq_true rfl) (Nat.le_refl _) hm rfl (fun iv20 rv21 lv22 hq => ?_)
    obtain ⟨hT23, h⟩ := h iv20 rv21 lv22 hq
    refine Z_aload_n (a := 0) (q := 33) (by decide +kernel) rfl rfl ?_
    refine Z_aload_n (a := 0) (q := 34) (by decide +kernel) rfl rfl ?_
    refine g10_9 (idx := 71) (q := 37) (by decide +kernel) fX10_71 rfl (by decide) (t10_9 hT23) rfl ?_
    refine Z_iload_n (a := 1) (q := 38) (by decide +kernel) rfl rfl ?_
    obtain ⟨Q25, hm, h⟩ := h
    refine Z_callVi (M2 := mX8_setsWith) (idx := 294) (d2 := d) (ci := 8) (As := [.int _]) (q := 41) (by decide +kernel) kX8_setsWith lX10_294 rfl rfl (by decide) rfl rfl (by decide +kernel) (Nat.le_of_ble_eq_true rfl) (Nat.le_refl _) hm rfl (fun v30 iv26 rv27 lv28 hq => ?_)
    obtain ⟨hT29, h⟩ := h v30 iv26 rv27 lv28 hq
    obtain ⟨Q31, hm, h⟩ := h
    refine Z_callVi (M2 := mX10_answer) (idx := 133) (d2 := d) (ci := 10) (As := [.int _]) (q := 44) (by decide +kernel) kX10_answer lX10_133 rfl rfl (by decide) rfl rfl (by decide +kernel) (Nat.le_of_ble_eq_true rfl) (Nat.le_refl _) hm rfl (fun v36 iv32 rv33 lv34 hq => ?_)
    obtain ⟨hT35, h⟩ := h v36 iv32 rv33 lv34 hq
    exact Z_iret (ty := .int) (by decide +kernel) rfl rfl rfl ⟨_, rfl, h⟩
  · replace h := h.2 hc
    refine Z_iconst (a := -1) (v := -1) (q := 16) (by decide +kernel) (by decide +kernel) rfl ?_
    exact Z_iret (ty := .int) (by decide +kernel) rfl rfl rfl ⟨_, rfl, h⟩
theorem eX10_chosen {d : Nat} (x1 : Int32) {iv : zI} {rv : zR} {lv : zJ} {Q : Int32 → zI → zR → zJ → Prop} (h : Zi mX10_chosen (d + 1) 0 [some (.ref 0), some (.int x1)] [] iv rv lv Q) : Ci mX10_chosen (d + 1) [.ref 0, .int x1] iv rv lv Q := Ci.of (by decide +kernel) (by simp [Value.category]) (Nat.le_of_ble_eq_true rfl) rfl h
set_option maxRecDepth 4000 in
theorem bX10_chosen_0 {d : Nat} (x1 : Int32) {iv : zI} {rv : zR} {lv : zJ} {Q : Int32 → zI → zR → zJ → Prop} (hT : zTop rv) 
    (h : ∃ Q1 : Int32 → zI → zR → zJ → Prop, Ci mX10_noText d [.ref 0] iv rv lv Q1 ∧ ∀ (v6 : Int32) (iv2 : zI) (rv3 : zR) (lv4 : zJ), Q1 v6 iv2 rv3 lv4 → zTop rv3 ∧ (∃ Q7 : Int32 → zI → zR → zJ → Prop, Ci mX10_noSuchSum d [.int x1] iv2 rv3 lv4 Q7 ∧ ∀ (v12 : Int32) (iv8 : zI) (rv9 : zR) (lv10 : zJ), Q7 v12 iv8 rv9 lv10 → zTop rv9 ∧ (∃ Q13 : Int32 → zI → zR → zJ → Prop, Ci mX10_refused d [.ref 0, .int v6, .int v12] iv8 rv9 lv10 Q13 ∧ ∀ (v18 : Int32) (iv14 : zI) (rv15 : zR) (lv16 : zJ), Q13 v18 iv14 rv15 lv16 → zTop rv15 ∧ ((v18 = 0 → ∃ Q19 : zI → zR → zJ → Prop, Cv mX8_prepare d [.ref 155, .ref 8, .int (iv14 0 3)] iv14 rv15 lv16 Q19 ∧ ∀ (iv20 : zI) (rv21 : zR) (lv22 : zJ), Q19 iv20 rv21 lv22 → zTop rv21 ∧ (∃ Q25 : Int32 → zI → zR → zJ → Prop, Ci mX8_leastSetWith d [.ref 155, .int x1] iv20 rv21 lv22 Q25 ∧ ∀ (v30 : Int32) (iv26 : zI) (rv27 : zR) (lv28 : zJ), Q25 v30 iv26 rv27 lv28 → zTop rv27 ∧ (∃ Q31 : Int32 → zI → zR → zJ → Prop, Ci mX10_answer d [.ref 0, .int v30] iv26 rv27 lv28 Q31 ∧ ∀ (v36 : Int32) (iv32 : zI) (rv33 : zR) (lv34 : zJ), Q31 v36 iv32 rv33 lv34 → zTop rv33 ∧ (Q v36 iv32 rv33 lv34)))) ∧ (¬ v18 = 0 → Q (-1 : Int32) iv14 rv15 lv16))))) :
    Zi mX10_chosen (d + 1) 0 [some (.ref 0), some (.int x1)] [] iv rv lv Q := by
  unfold Zi
  refine Z_aload_n (a := 0) (q := 1) (by decide +kernel) rfl rfl ?_
  refine Z_aload_n (a := 0) (q := 2) (by decide +kernel) rfl rfl ?_
  obtain ⟨Q1, hm, h⟩ := h
  refine Z_callVi (M2 := mX10_noText) (idx := 136) (d2 := d) (ci := 10) (As := []) (q := 5) (by decide +kernel) kX10_noText lX10_136 rfl rfl (by decide) rfl rfl (by decide +kernel) (Nat.le_of_ble_eq_true rfl) (Nat.le_refl _) hm rfl (fun v6 iv2 rv3 lv4 hq => ?_)
  obtain ⟨hT5, h⟩ := h v6 iv2 rv3 lv4 hq
  refine Z_iload_n (a := 1) (q := 6) (by decide +kernel) rfl rfl ?_
  obtain ⟨Q7, hm, h⟩ := h
  refine Z_callSi (M2 := mX10_noSuchSum) (idx := 290) (d2 := d) (As := [.int _]) (q := 9) (by decide +kernel) kX10_noSuchSum lX10_290 rfl rfl (by decide +kernel) (Nat.le_of_ble_eq_true rfl) (Nat.le_refl _) hm rfl (fun v12 iv8 rv9 lv10 hq => ?_)
  obtain ⟨hT11, h⟩ := h v12 iv8 rv9 lv10 hq
  obtain ⟨Q13, hm, h⟩ := h
  refine Z_callVi (M2 := mX10_refused) (idx := 181) (d2 := d) (ci := 10) (As := [.int _, .int _]) (q := 12) (by decide +kernel) kX10_refused lX10_181 rfl rfl (by decide) rfl rfl (by decide +kernel) (Nat.le_of_ble_eq_true rfl) (Nat.le_refl _) hm rfl (fun v18 iv14 rv15 lv16 hq => ?_)
  obtain ⟨hT17, h⟩ := h v18 iv14 rv15 lv16 hq
  refine Z_if_eq (t := 17) (off := 5) (q := 15) (by decide +kernel) (by decide) rfl (fun hc => ?_) (fun hc => ?_)
  · replace h := h.1 hc
    refine Z_aload_n (a := 0) (q := 18) (by decide +kernel) rfl rfl ?_
    refine g10_9 (idx := 71) (q := 21) (by decide +kernel) fX10_71 rfl (by decide) (t10_9 hT17) rfl ?_
    refine Z_aload_n (a := 0) (q := 22) (by decide +kernel) rfl rfl ?_
    refine g10_1 (idx := 19) (q := 25) (by decide +kernel) fX10_19 rfl (by decide) (t10_1 hT17) rfl ?_
    refine Z_aload_n (a := 0) (q := 26) (by decide +kernel) rfl rfl ?_
    refine g10_3 (idx := 30) (q := 29) (by decide +kernel) fX10_30 rfl (by decide) rfl ?_
    obtain ⟨Q19, hm, h⟩ := h
    refine Z_callVv (M2 := mX8_prepare) (idx := 293) (d2 := d) (ci := 8) (As := [.ref _, .int _]) (q := 32) (by decide +kernel) kX8_prepare lX10_293 rfl rfl (by decide) rfl rfl (by decide +kernel) (Nat.le_of_ble_eq_true rfl) (Nat.le_refl _) hm rfl (fun iv20 rv21 lv22 hq => ?_)
    obtain ⟨hT23, h⟩ := h iv20 rv21 lv22 hq
    refine Z_aload_n (a := 0) (q := 33) (by decide +kernel) rfl rfl ?_
    refine Z_aload_n (a := 0) (q := 34) (by decide +kernel) rfl rfl ?_
    refine g10_9 (idx := 71) (q := 37) (by decide +kernel) fX10_71 rfl (by decide) (t10_9 hT23) rfl ?_
    refine Z_iload_n (a := 1) (q := 38) (by decide +kernel) rfl rfl ?_
    obtain ⟨Q25, hm, h⟩ := h
    refine Z_callVi (M2 := mX8_leastSetWith) (idx := 297) (d2 := d) (ci := 8) (As := [.int _]) (q := 41) (by decide +kernel) kX8_leastSetWith lX10_297 rfl rfl (by decide) rfl rfl (by decide +kernel) (Nat.le_of_ble_eq_true rfl) (Nat.le_refl _) hm rfl (fun v30 iv26 rv27 lv28 hq => ?_)
    obtain ⟨hT29, h⟩ := h v30 iv26 rv27 lv28 hq
    obtain ⟨Q31, hm, h⟩ := h
    refine Z_callVi (M2 := mX10_answer) (idx := 133) (d2 := d) (ci := 10) (As := [.int _]) (q := 44) (by decide +kernel) kX10_answer lX10_133 rfl rfl (by decide) rfl rfl (by decide +kernel) (Nat.le_of_ble_eq_true rfl) (Nat.le_refl _) hm rfl (fun v36 iv32 rv33 lv34 hq => ?_)
    obtain ⟨hT35, h⟩ := h v36 iv32 rv33 lv34 hq
    exact Z_iret (ty := .int) (by decide +kernel) rfl rfl rfl ⟨_, rfl, h⟩
  · replace h := h.2 hc
    refine Z_iconst (a := -1) (v := -1) (q := 16) (by decide +kernel) (by decide +kernel) rfl ?_
    exact Z_iret (ty := .int) (by decide +kernel) rfl rfl rfl ⟨_, rfl, h⟩
theorem eX10_sums {d : Nat}  {iv : zI} {rv : zR} {lv : zJ} {Q : Int32 → zI → zR → zJ → Prop} (h : Zi mX10_sums (d + 1) 0 [some (.ref 0)] [] iv rv lv Q) : Ci mX10_sums (d + 1) [.ref 0] iv rv lv Q := Ci.of (by decide +kernel) (by simp [Value.category]) (Nat.le_of_ble_eq_true rfl) rfl h
set_option maxRecDepth 4000 in
theorem bX10_sums_0 {d : Nat}  {iv : zI} {rv : zR} {lv : zJ} {Q : Int32 → zI → zR → zJ → Prop} (hT : zTop rv) 
    (h : ∃ Q1 : Int32 → zI → zR → zJ → Prop, Ci mX10_noText d [.ref 0] iv rv lv Q1 ∧ ∀ (v6 : Int32) (iv2 : zI) (rv3 : zR) (lv4 : zJ), Q1 v6 iv2 rv3 lv4 → zTop rv3 ∧ ((v6 = 0 → ∃ Q7 : zI → zR → zJ → Prop, Cv mX8_prepare d [.ref 155, .ref 8, .int (iv2 0 3)] iv2 rv3 lv4 Q7 ∧ ∀ (iv8 : zI) (rv9 : zR) (lv10 : zJ), Q7 iv8 rv9 lv10 → zTop rv9 ∧ (∃ Q13 : Int32 → zI → zR → zJ → Prop, Ci mX8_unlikeSums d [.ref 155] iv8 rv9 lv10 Q13 ∧ ∀ (v18 : Int32) (iv14 : zI) (rv15 : zR) (lv16 : zJ), Q13 v18 iv14 rv15 lv16 → zTop rv15 ∧ (∃ Q19 : Int32 → zI → zR → zJ → Prop, Ci mX10_answer d [.ref 0, .int v18] iv14 rv15 lv16 Q19 ∧ ∀ (v24 : Int32) (iv20 : zI) (rv21 : zR) (lv22 : zJ), Q19 v24 iv20 rv21 lv22 → zTop rv21 ∧ (Q v24 iv20 rv21 lv22)))) ∧ (¬ v6 = 0 → ∃ Q25 : Int32 → zI → zR → zJ → Prop, Ci mX10_refuse d [.ref 0, .int (1 : Int32)] iv2 rv3 lv4 Q25 ∧ ∀ (v30 : Int32) (iv26 : zI) (rv27 : zR) (lv28 : zJ), Q25 v30 iv26 rv27 lv28 → zTop rv27 ∧ (Q v30 iv26 rv27 lv28)))) :
    Zi mX10_sums (d + 1) 0 [some (.ref 0)] [] iv rv lv Q := by
  unfold Zi
  refine Z_aload_n (a := 0) (q := 1) (by decide +kernel) rfl rfl ?_
  obtain ⟨Q1, hm, h⟩ := h
  refine Z_callVi (M2 := mX10_noText) (idx := 136) (d2 := d) (ci := 10) (As := []) (q := 4) (by decide +kernel) kX10_noText lX10_136 rfl rfl (by decide) rfl rfl (by decide +kernel) (Nat.le_of_ble_eq_true rfl) (Nat.le_refl _) hm rfl (fun v6 iv2 rv3 lv4 hq => ?_)
  obtain ⟨hT5, h⟩ := h v6 iv2 rv3 lv4 hq
  refine Z_if_eq (t := 13) (off := 9) (q := 7) (by decide +kernel) (by decide) rfl (fun hc => ?_) (fun hc => ?_)
  · replace h := h.1 hc
    refine Z_aload_n (a := 0) (q := 14) (by decide +kernel) rfl rfl ?_
    refine g10_9 (idx := 71) (q := 17) (by decide +kernel) fX10_71 rfl (by decide) (t10_9 hT5) rfl ?_
    refine Z_aload_n (a := 0) (q := 18) (by decide +kernel) rfl rfl ?_
    refine g10_1 (idx := 19) (q := 21) (by decide +kernel) fX10_19 rfl (by decide) (t10_1 hT5) rfl ?_
    refine Z_aload_n (a := 0) (q := 22) (by decide +kernel) rfl rfl ?_
    refine g10_3 (idx := 30) (q := 25) (by decide +kernel) fX10_30 rfl (by decide) rfl ?_
    obtain ⟨Q7, hm, h⟩ := h
    refine Z_callVv (M2 := mX8_prepare) (idx := 293) (d2 := d) (ci := 8) (As := [.ref _, .int _]) (q := 28) (by decide +kernel) kX8_prepare lX10_293 rfl rfl (by decide) rfl rfl (by decide +kernel) (Nat.le_of_ble_eq_true rfl) (Nat.le_refl _) hm rfl (fun iv8 rv9 lv10 hq => ?_)
    obtain ⟨hT11, h⟩ := h iv8 rv9 lv10 hq
    refine Z_aload_n (a := 0) (q := 29) (by decide +kernel) rfl rfl ?_
    refine Z_aload_n (a := 0) (q := 30) (by decide +kernel) rfl rfl ?_
    refine g10_9 (idx := 71) (q := 33) (by decide +kernel) fX10_71 rfl (by decide) (t10_9 hT11) rfl ?_
    obtain ⟨Q13, hm, h⟩ := h
    refine Z_callVi (M2 := mX8_unlikeSums) (idx := 300) (d2 := d) (ci := 8) (As := []) (q := 36) (by decide +kernel) kX8_unlikeSums lX10_300 rfl rfl (by decide) rfl rfl (by decide +kernel) (Nat.le_of_ble_eq_true rfl) (Nat.le_refl _) hm rfl (fun v18 iv14 rv15 lv16 hq => ?_)
    obtain ⟨hT17, h⟩ := h v18 iv14 rv15 lv16 hq
    obtain ⟨Q19, hm, h⟩ := h
    refine Z_callVi (M2 := mX10_answer) (idx := 133) (d2 := d) (ci := 10) (As := [.int _]) (q := 39) (by decide +kernel) kX10_answer lX10_133 rfl rfl (by decide) rfl rfl (by decide +kernel) (Nat.le_of_ble_eq_true rfl) (Nat.le_refl _) hm rfl (fun v24 iv20 rv21 lv22 hq => ?_)
    obtain ⟨hT23, h⟩ := h v24 iv20 rv21 lv22 hq
    exact Z_iret (ty := .int) (by decide +kernel) rfl rfl rfl ⟨_, rfl, h⟩
  · replace h := h.2 hc
    refine Z_aload_n (a := 0) (q := 8) (by decide +kernel) rfl rfl ?_
    refine Z_iconst (a := 1) (v := 1) (q := 9) (by decide +kernel) (by decide +kernel) rfl ?_
    obtain ⟨Q25, hm, h⟩ := h
    refine Z_callVi (M2 := mX10_refuse) (idx := 100) (d2 := d) (ci := 10) (As := [.int _]) (q := 12) (by decide +kernel) kX10_refuse lX10_100 rfl rfl (by decide) rfl rfl (by decide +kernel) (Nat.le_of_ble_eq_true rfl) (Nat.le_refl _) hm rfl (fun v30 iv26 rv27 lv28 hq => ?_)
    obtain ⟨hT29, h⟩ := h v30 iv26 rv27 lv28 hq
    exact Z_iret (ty := .int) (by decide +kernel) rfl rfl rfl ⟨_, rfl, h⟩
theorem eX10_nearest {d : Nat} (x1 : Int32) {iv : zI} {rv : zR} {lv : zJ} {Q : Int32 → zI → zR → zJ → Prop} (h : Zi mX10_nearest (d + 1) 0 [some (.ref 0), some (.int x1)] [] iv rv lv Q) : Ci mX10_nearest (d + 1) [.ref 0, .int x1] iv rv lv Q := Ci.of (by decide +kernel) (by simp [Value.category]) (Nat.le_of_ble_eq_true rfl) rfl h
set_option maxRecDepth 4000 in
theorem bX10_nearest_0 {d : Nat} (x1 : Int32) {iv : zI} {rv : zR} {lv : zJ} {Q : Int32 → zI → zR → zJ → Prop} (hT : zTop rv) 
    (h : ∃ Q1 : Int32 → zI → zR → zJ → Prop, Ci mX10_noText d [.ref 0] iv rv lv Q1 ∧ ∀ (v6 : Int32) (iv2 : zI) (rv3 : zR) (lv4 : zJ), Q1 v6 iv2 rv3 lv4 → zTop rv3 ∧ (∃ Q7 : Int32 → zI → zR → zJ → Prop, Ci mX10_noSuchSum d [.int x1] iv2 rv3 lv4 Q7 ∧ ∀ (v12 : Int32) (iv8 : zI) (rv9 : zR) (lv10 : zJ), Q7 v12 iv8 rv9 lv10 → zTop rv9 ∧ (∃ Q13 : Int32 → zI → zR → zJ → Prop, Ci mX10_refused d [.ref 0, .int v6, .int v12] iv8 rv9 lv10 Q13 ∧ ∀ (v18 : Int32) (iv14 : zI) (rv15 : zR) (lv16 : zJ), Q13 v18 iv14 rv15 lv16 → zTop rv15 ∧ ((v18 = 0 → ∃ Q19 : zI → zR → zJ → Prop, Cv mX8_prepare d [.ref 155, .ref 8, .int (iv14 0 3)] iv14 rv15 lv16 Q19 ∧ ∀ (iv20 : zI) (rv21 : zR) (lv22 : zJ), Q19 iv20 rv21 lv22 → zTop rv21 ∧ (∃ Q25 : Int32 → zI → zR → zJ → Prop, Ci mX8_sumNextTo d [.ref 155, .int x1] iv20 rv21 lv22 Q25 ∧ ∀ (v30 : Int32) (iv26 : zI) (rv27 : zR) (lv28 : zJ), Q25 v30 iv26 rv27 lv28 → zTop rv27 ∧ (∃ Q31 : Int32 → zI → zR → zJ → Prop, Ci mX10_answer d [.ref 0, .int v30] iv26 rv27 lv28 Q31 ∧ ∀ (v36 : Int32) (iv32 : zI) (rv33 : zR) (lv34 : zJ), Q31 v36 iv32 rv33 lv34 → zTop rv33 ∧ (Q v36 iv32 rv33 lv34)))) ∧ (¬ v18 = 0 → Q (-1 : Int32) iv14 rv15 lv16))))) :
    Zi mX10_nearest (d + 1) 0 [some (.ref 0), some (.int x1)] [] iv rv lv Q := by
  unfold Zi
  refine Z_aload_n (a := 0) (q := 1) (by decide +kernel) rfl rfl ?_
  refine Z_aload_n (a := 0) (q := 2) (by decide +kernel) rfl rfl ?_
  obtain ⟨Q1, hm, h⟩ := h
  refine Z_callVi (M2 := mX10_noText) (idx := 136) (d2 := d) (ci := 10) (As := []) (q := 5) (by decide +kernel) kX10_noText lX10_136 rfl rfl (by decide) rfl rfl (by decide +kernel) (Nat.le_of_ble_eq_true rfl) (Nat.le_refl _) hm rfl (fun v6 iv2 rv3 lv4 hq => ?_)
  obtain ⟨hT5, h⟩ := h v6 iv2 rv3 lv4 hq
  refine Z_iload_n (a := 1) (q := 6) (by decide +kernel) rfl rfl ?_
  obtain ⟨Q7, hm, h⟩ := h
  refine Z_callSi (M2 := mX10_noSuchSum) (idx := 290) (d2 := d) (As := [.int _]) (q := 9) (by decide +kernel) kX10_noSuchSum lX10_290 rfl rfl (by decide +kernel) (Nat.le_of_ble_eq_true rfl) (Nat.le_refl _) hm rfl (fun v12 iv8 rv9 lv10 hq => ?_)
  obtain ⟨hT11, h⟩ := h v12 iv8 rv9 lv10 hq
  obtain ⟨Q13, hm, h⟩ := h
  refine Z_callVi (M2 := mX10_refused) (idx := 181) (d2 := d) (ci := 10) (As := [.int _, .int _]) (q := 12) (by decide +kernel) kX10_refused lX10_181 rfl rfl (by decide) rfl rfl (by decide +kernel) (Nat.le_of_ble_eq_true rfl) (Nat.le_refl _) hm rfl (fun v18 iv14 rv15 lv16 hq => ?_)
  obtain ⟨hT17, h⟩ := h v18 iv14 rv15 lv16 hq
  refine Z_if_eq (t := 17) (off := 5) (q := 15) (by decide +kernel) (by decide) rfl (fun hc => ?_) (fun hc => ?_)
  · replace h := h.1 hc
    refine Z_aload_n (a := 0) (q := 18) (by decide +kernel) rfl rfl ?_
    refine g10_9 (idx := 71) (q := 21) (by decide +kernel) fX10_71 rfl (by decide) (t10_9 hT17) rfl ?_
    refine Z_aload_n (a := 0) (q := 22) (by decide +kernel) rfl rfl ?_
    refine g10_1 (idx := 19) (q := 25) (by decide +kernel) fX10_19 rfl (by decide) (t10_1 hT17) rfl ?_
    refine Z_aload_n (a := 0) (q := 26) (by decide +kernel) rfl rfl ?_
    refine g10_3 (idx := 30) (q := 29) (by decide +kernel) fX10_30 rfl (by decide) rfl ?_
    obtain ⟨Q19, hm, h⟩ := h
    refine Z_callVv (M2 := mX8_prepare) (idx := 293) (d2 := d) (ci := 8) (As := [.ref _, .int _]) (q := 32) (by decide +kernel) kX8_prepare lX10_293 rfl rfl (by decide) rfl rfl (by decide +kernel) (Nat.le_of_ble_eq_true rfl) (Nat.le_refl _) hm rfl (fun iv20 rv21 lv22 hq => ?_)
    obtain ⟨hT23, h⟩ := h iv20 rv21 lv22 hq
    refine Z_aload_n (a := 0) (q := 33) (by decide +kernel) rfl rfl ?_
    refine Z_aload_n (a := 0) (q := 34) (by decide +kernel) rfl rfl ?_
    refine g10_9 (idx := 71) (q := 37) (by decide +kernel) fX10_71 rfl (by decide) (t10_9 hT23) rfl ?_
    refine Z_iload_n (a := 1) (q := 38) (by decide +kernel) rfl rfl ?_
    obtain ⟨Q25, hm, h⟩ := h
    refine Z_callVi (M2 := mX8_sumNextTo) (idx := 303) (d2 := d) (ci := 8) (As := [.int _]) (q := 41) (by decide +kernel) kX8_sumNextTo lX10_303 rfl rfl (by decide) rfl rfl (by decide +kernel) (Nat.le_of_ble_eq_true rfl) (Nat.le_refl _) hm rfl (fun v30 iv26 rv27 lv28 hq => ?_)
    obtain ⟨hT29, h⟩ := h v30 iv26 rv27 lv28 hq
    obtain ⟨Q31, hm, h⟩ := h
    refine Z_callVi (M2 := mX10_answer) (idx := 133) (d2 := d) (ci := 10) (As := [.int _]) (q := 44) (by decide +kernel) kX10_answer lX10_133 rfl rfl (by decide) rfl rfl (by decide +kernel) (Nat.le_of_ble_eq_true rfl) (Nat.le_refl _) hm rfl (fun v36 iv32 rv33 lv34 hq => ?_)
    obtain ⟨hT35, h⟩ := h v36 iv32 rv33 lv34 hq
    exact Z_iret (ty := .int) (by decide +kernel) rfl rfl rfl ⟨_, rfl, h⟩
  · replace h := h.2 hc
    refine Z_iconst (a := -1) (v := -1) (q := 16) (by decide +kernel) (by decide +kernel) rfl ?_
    exact Z_iret (ty := .int) (by decide +kernel) rfl rfl rfl ⟨_, rfl, h⟩
theorem eX10_add {d : Nat} (x1 : Int32) {iv : zI} {rv : zR} {lv : zJ} {Q : Int32 → zI → zR → zJ → Prop} (h : Zi mX10_add (d + 1) 0 [some (.ref 0), some (.int x1)] [] iv rv lv Q) : Ci mX10_add (d + 1) [.ref 0, .int x1] iv rv lv Q := Ci.of (by decide +kernel) (by simp [Value.category]) (Nat.le_of_ble_eq_true rfl) rfl h
set_option maxRecDepth 4000 in
theorem bX10_add_0 {d : Nat} (x1 : Int32) {iv : zI} {rv : zR} {lv : zJ} {Q : Int32 → zI → zR → zJ → Prop} (hT : zTop rv) 
    (h : ∃ Q1 : Int32 → zI → zR → zJ → Prop, Ci mX10_noText d [.ref 0] iv rv lv Q1 ∧ ∀ (v6 : Int32) (iv2 : zI) (rv3 : zR) (lv4 : zJ), Q1 v6 iv2 rv3 lv4 → zTop rv3 ∧ (∃ Q7 : Int32 → zI → zR → zJ → Prop, Ci mX10_noSuchValue d [.int x1] iv2 rv3 lv4 Q7 ∧ ∀ (v12 : Int32) (iv8 : zI) (rv9 : zR) (lv10 : zJ), Q7 v12 iv8 rv9 lv10 → zTop rv9 ∧ (∃ Q13 : Int32 → zI → zR → zJ → Prop, Ci mX10_refused d [.ref 0, .int v6, .int v12] iv8 rv9 lv10 Q13 ∧ ∀ (v18 : Int32) (iv14 : zI) (rv15 : zR) (lv16 : zJ), Q13 v18 iv14 rv15 lv16 → zTop rv15 ∧ ((v18 = 0 → ((iv14 8 0) < (10 : Int32) → ∃ Q19 : Nat → zI → zR → zJ → Prop, Cr mX2_keepAct d [.ref 13, .ref 8] iv14 rv15 lv16 Q19 ∧ ∀ (v24 : Nat) (iv20 : zI) (rv21 : zR) (lv22 : zJ), Q19 v24 iv20 rv21 lv22 → zTop rv21 ∧ v24 ∈ zSts ∧ (∃ Q25 : zI → zR → zJ → Prop, Cv mX9_append d [.ref 8, .int x1] iv20 rv21 lv22 Q25 ∧ ∀ (iv26 : zI) (rv27 : zR) (lv28 : zJ), Q25 iv26 rv27 lv28 → zTop rv27 ∧ (∃ Q31 : zI → zR → zJ → Prop, Cv mX10_changed d [.ref 0] iv26 rv27 lv28 Q31 ∧ ∀ (iv32 : zI) (rv33 : zR) (lv34 : zJ), Q31 iv32 rv33 lv34 → zTop rv33 ∧ (∃ Q37 : Int32 → zI → zR → zJ → Prop, Ci mX10_answer d [.ref 0, .int (iv32 8 0)] iv32 rv33 lv34 Q37 ∧ ∀ (v42 : Int32) (iv38 : zI) (rv39 : zR) (lv40 : zJ), Q37 v42 iv38 rv39 lv40 → zTop rv39 ∧ (Q v42 iv38 rv39 lv40))))) ∧ (¬ (iv14 8 0) < (10 : Int32) → ∃ Q43 : Int32 → zI → zR → zJ → Prop, Ci mX10_refuse d [.ref 0, .int (3 : Int32)] iv14 rv15 lv16 Q43 ∧ ∀ (v48 : Int32) (iv44 : zI) (rv45 : zR) (lv46 : zJ), Q43 v48 iv44 rv45 lv46 → zTop rv45 ∧ (Q v48 iv44 rv45 lv46))) ∧ (¬ v18 = 0 → Q (-1 : Int32) iv14 rv15 lv16))))) :
    Zi mX10_add (d + 1) 0 [some (.ref 0), some (.int x1)] [] iv rv lv Q := by
  unfold Zi
  refine Z_aload_n (a := 0) (q := 1) (by decide +kernel) rfl rfl ?_
  refine Z_aload_n (a := 0) (q := 2) (by decide +kernel) rfl rfl ?_
  obtain ⟨Q1, hm, h⟩ := h
  refine Z_callVi (M2 := mX10_noText) (idx := 136) (d2 := d) (ci := 10) (As := []) (q := 5) (by decide +kernel) kX10_noText lX10_136 rfl rfl (by decide) rfl rfl (by decide +kernel) (Nat.le_of_ble_eq_true rfl) (Nat.le_refl _) hm rfl (fun v6 iv2 rv3 lv4 hq => ?_)
  obtain ⟨hT5, h⟩ := h v6 iv2 rv3 lv4 hq
  refine Z_iload_n (a := 1) (q := 6) (by decide +kernel) rfl rfl ?_
  obtain ⟨Q7, hm, h⟩ := h
  refine Z_callSi (M2 := mX10_noSuchValue) (idx := 306) (d2 := d) (As := [.int _]) (q := 9) (by decide +kernel) kX10_noSuchValue lX10_306 rfl rfl (by decide +kernel) (Nat.le_of_ble_eq_true rfl) (Nat.le_refl _) hm rfl (fun v12 iv8 rv9 lv10 hq => ?_)
  obtain ⟨hT11, h⟩ := h v12 iv8 rv9 lv10 hq
  obtain ⟨Q13, hm, h⟩ := h
  refine Z_callVi (M2 := mX10_refused) (idx := 181) (d2 := d) (ci := 10) (As := [.int _, .int _]) (q := 12) (by decide +kernel) kX10_refused lX10_181 rfl rfl (by decide) rfl rfl (by decide +kernel) (Nat.le_of_ble_eq_true rfl) (Nat.le_refl _) hm rfl (fun v18 iv14 rv15 lv16 hq => ?_)
  obtain ⟨hT17, h⟩ := h v18 iv14 rv15 lv16 hq
  refine Z_if_eq (t := 17) (off := 5) (q := 15) (by decide +kernel) (by decide) rfl (fun hc => ?_) (fun hc => ?_)
  · replace h := h.1 hc
    refine Z_aload_n (a := 0) (q := 18) (by decide +kernel) rfl rfl ?_
    refine g10_1 (idx := 19) (q := 21) (by decide +kernel) fX10_19 rfl (by decide) (t10_1 hT17) rfl ?_
    refine g9_0 (idx := 130) (q := 24) (by decide +kernel) fX10_130 (hS9_0 (by decide : 8 ∈ zSts)) (hL9_0 (by decide : 8 ∈ zSts)) rfl ?_
    refine Z_bipush (a := 10) (v := 10) (q := 26) (by decide +kernel) (by decide +kernel) rfl ?_
    refine Z_icmp_lt (t := 35) (off := 9) (q := 29) (by decide +kernel) (by decide) rfl (fun hc => ?_) (fun hc => ?_)
    · replace h := h.1 hc
      refine Z_aload_n (a := 0) (q := 36) (by decide +kernel) rfl rfl ?_
      refine g10_2 (idx := 26) (q := 39) (by decide +kernel) fX10_26 rfl (by decide) (t10_2 hT17) rfl ?_
      refine Z_aload_n (a := 0) (q := 40) (by decide +kernel) rfl rfl ?_
      refine g10_1 (idx := 19) (q := 43) (by decide +kernel) fX10_19 rfl (by decide) (t10_1 hT17) rfl ?_
      obtain ⟨Q19, hm, h⟩ := h
      refine Z_callVr (M2 := mX2_keepAct) (idx := 309) (d2 := d) (ci := 2) (As := [.ref _]) (q := 46) (by decide +kernel) kX2_keepAct lX10_309 rfl rfl (by decide) rfl rfl (by decide +kernel) (Nat.le_of_ble_eq_true rfl) (Nat.le_refl _) hm rfl (fun v24 iv20 rv21 lv22 hq => ?_)
      obtain ⟨hT23, hmv24, h⟩ := h v24 iv20 rv21 lv22 hq
      refine Z_pop (q := 47) (by decide +kernel) rfl rfl ?_
      refine Z_aload_n (a := 0) (q := 48) (by decide +kernel) rfl rfl ?_
      refine g10_1 (idx := 19) (q := 51) (by decide +kernel) fX10_19 rfl (by decide) (t10_1 hT23) rfl ?_
      refine Z_iload_n (a := 1) (q := 52) (by decide +kernel) rfl rfl ?_
      obtain ⟨Q25, hm, h⟩ := h
      refine Z_callVv (M2 := mX9_append) (idx := 313) (d2 := d) (ci := 9) (As := [.int _]) (q := 55) (by decide +kernel) kX9_append lX10_313 rfl (hS9_0 (by decide : 8 ∈ zSts)) (hL9_0 (by decide : 8 ∈ zSts)) rfl rfl (by decide +kernel) (Nat.le_of_ble_eq_true rfl) (Nat.le_refl _) hm rfl (fun iv26 rv27 lv28 hq => ?_)
      obtain ⟨hT29, h⟩ := h iv26 rv27 lv28 hq
      refine Z_aload_n (a := 0) (q := 56) (by decide +kernel) rfl rfl ?_
      obtain ⟨Q31, hm, h⟩ := h
      refine Z_callVv (M2 := mX10_changed) (idx := 127) (d2 := d) (ci := 10) (As := []) (q := 59) (by decide +kernel) kX10_changed lX10_127 rfl rfl (by decide) rfl rfl (by decide +kernel) (Nat.le_of_ble_eq_true rfl) (Nat.le_refl _) hm rfl (fun iv32 rv33 lv34 hq => ?_)
      obtain ⟨hT35, h⟩ := h iv32 rv33 lv34 hq
      refine Z_aload_n (a := 0) (q := 60) (by decide +kernel) rfl rfl ?_
      refine Z_aload_n (a := 0) (q := 61) (by decide +kernel) rfl rfl ?_
      refine g10_1 (idx := 19) (q := 64) (by decide +kernel) fX10_19 rfl (by decide) (t10_1 hT35) rfl ?_
      refine g9_0 (idx := 130) (q := 67) (by decide +kernel) fX10_130 (hS9_0 (by decide : 8 ∈ zSts)) (hL9_0 (by decide : 8 ∈ zSts)) rfl ?_
      obtain ⟨Q37, hm, h⟩ := h
      refine Z_callVi (M2 := mX10_answer) (idx := 133) (d2 := d) (ci := 10) (As := [.int _]) (q := 70) (by decide +kernel) kX10_answer lX10_133 rfl rfl (by decide) rfl rfl (by decide +kernel) (Nat.le_of_ble_eq_true rfl) (Nat.le_refl _) hm rfl (fun v42 iv38 rv39 lv40 hq => ?_)
      obtain ⟨hT41, h⟩ := h v42 iv38 rv39 lv40 hq
      exact Z_iret (ty := .int) (by decide +kernel) rfl rfl rfl ⟨_, rfl, h⟩
    · replace h := h.2 hc
      refine Z_aload_n (a := 0) (q := 30) (by decide +kernel) rfl rfl ?_
      refine Z_iconst (a := 3) (v := 3) (q := 31) (by decide +kernel) (by decide +kernel) rfl ?_
      obtain ⟨Q43, hm, h⟩ := h
      refine Z_callVi (M2 := mX10_refuse) (idx := 100) (d2 := d) (ci := 10) (As := [.int _]) (q := 34) (by decide +kernel) kX10_refuse lX10_100 rfl rfl (by decide) rfl rfl (by decide +kernel) (Nat.le_of_ble_eq_true rfl) (Nat.le_refl _) hm rfl (fun v48 iv44 rv45 lv46 hq => ?_)
      obtain ⟨hT47, h⟩ := h v48 iv44 rv45 lv46 hq
      exact Z_iret (ty := .int) (by decide +kernel) rfl rfl rfl ⟨_, rfl, h⟩
  · replace h := h.2 hc
    refine Z_iconst (a := -1) (v := -1) (q := 16) (by decide +kernel) (by decide +kernel) rfl ?_
    exact Z_iret (ty := .int) (by decide +kernel) rfl rfl rfl ⟨_, rfl, h⟩
theorem eX10_drop {d : Nat} (x1 : Int32) {iv : zI} {rv : zR} {lv : zJ} {Q : Int32 → zI → zR → zJ → Prop} (h : Zi mX10_drop (d + 1) 0 [some (.ref 0), some (.int x1), none] [] iv rv lv Q) : Ci mX10_drop (d + 1) [.ref 0, .int x1] iv rv lv Q := Ci.of (by decide +kernel) (by simp [Value.category]) (Nat.le_of_ble_eq_true rfl) rfl h
set_option maxRecDepth 4000 in
theorem bX10_drop_0 {d : Nat} (x1 : Int32) {iv : zI} {rv : zR} {lv : zJ} {Q : Int32 → zI → zR → zJ → Prop} (hT : zTop rv) 
    (h : ∃ Q1 : Int32 → zI → zR → zJ → Prop, Ci mX10_noNumber d [.ref 0, .int x1] iv rv lv Q1 ∧ ∀ (v6 : Int32) (iv2 : zI) (rv3 : zR) (lv4 : zJ), Q1 v6 iv2 rv3 lv4 → zTop rv3 ∧ ((v6 = 0 → (¬ (iv2 8 0) = (1 : Int32) → vp_in x1 10 ∧ (∃ Q8 : Nat → zI → zR → zJ → Prop, Cr mX2_keepAct d [.ref 13, .ref 8] iv2 rv3 lv4 Q8 ∧ ∀ (v13 : Nat) (iv9 : zI) (rv10 : zR) (lv11 : zJ), Q8 v13 iv9 rv10 lv11 → zTop rv10 ∧ v13 ∈ zSts ∧ (∃ Q14 : zI → zR → zJ → Prop, Cv mX9_remove d [.ref 8, .int x1] iv9 rv10 lv11 Q14 ∧ ∀ (iv15 : zI) (rv16 : zR) (lv17 : zJ), Q14 iv15 rv16 lv17 → zTop rv16 ∧ (∃ Q20 : zI → zR → zJ → Prop, Cv mX10_changed d [.ref 0] iv15 rv16 lv17 Q20 ∧ ∀ (iv21 : zI) (rv22 : zR) (lv23 : zJ), Q20 iv21 rv22 lv23 → zTop rv22 ∧ (∃ Q26 : Int32 → zI → zR → zJ → Prop, Ci mX10_answer d [.ref 0, .int (iv2 (8 + 1) x1.toNatClampNeg)] iv21 rv22 lv23 Q26 ∧ ∀ (v31 : Int32) (iv27 : zI) (rv28 : zR) (lv29 : zJ), Q26 v31 iv27 rv28 lv29 → zTop rv28 ∧ (Q v31 iv27 rv28 lv29)))))) ∧ ((iv2 8 0) = (1 : Int32) → ∃ Q32 : Int32 → zI → zR → zJ → Prop, Ci mX10_refuse d [.ref 0, .int (5 : Int32)] iv2 rv3 lv4 Q32 ∧ ∀ (v37 : Int32) (iv33 : zI) (rv34 : zR) (lv35 : zJ), Q32 v37 iv33 rv34 lv35 → zTop rv34 ∧ (Q v37 iv33 rv34 lv35))) ∧ (¬ v6 = 0 → ∃ Q38 : Int32 → zI → zR → zJ → Prop, Ci mX10_refuse d [.ref 0, .int (1 : Int32)] iv2 rv3 lv4 Q38 ∧ ∀ (v43 : Int32) (iv39 : zI) (rv40 : zR) (lv41 : zJ), Q38 v43 iv39 rv40 lv41 → zTop rv40 ∧ (Q v43 iv39 rv40 lv41)))) :
    Zi mX10_drop (d + 1) 0 [some (.ref 0), some (.int x1), none] [] iv rv lv Q := by
  unfold Zi
  refine Z_aload_n (a := 0) (q := 1) (by decide +kernel) rfl rfl ?_
  refine Z_iload_n (a := 1) (q := 2) (by decide +kernel) rfl rfl ?_
  obtain ⟨Q1, hm, h⟩ := h
  refine Z_callVi (M2 := mX10_noNumber) (idx := 163) (d2 := d) (ci := 10) (As := [.int _]) (q := 5) (by decide +kernel) kX10_noNumber lX10_163 rfl rfl (by decide) rfl rfl (by decide +kernel) (Nat.le_of_ble_eq_true rfl) (Nat.le_refl _) hm rfl (fun v6 iv2 rv3 lv4 hq => ?_)
  obtain ⟨hT5, h⟩ := h v6 iv2 rv3 lv4 hq
  refine Z_if_eq (t := 14) (off := 9) (q := 8) (by decide +kernel) (by decide) rfl (fun hc => ?_) (fun hc => ?_)
  · replace h := h.1 hc
    refine Z_aload_n (a := 0) (q := 15) (by decide +kernel) rfl rfl ?_
    refine g10_1 (idx := 19) (q := 18) (by decide +kernel) fX10_19 rfl (by decide) (t10_1 hT5) rfl ?_
    refine g9_0 (idx := 130) (q := 21) (by decide +kernel) fX10_130 (hS9_0 (by decide : 8 ∈ zSts)) (hL9_0 (by decide : 8 ∈ zSts)) rfl ?_
    refine Z_iconst (a := 1) (v := 1) (q := 22) (by decide +kernel) (by decide +kernel) rfl ?_
    refine Z_icmp_ne (t := 31) (off := 9) (q := 25) (by decide +kernel) (by decide) rfl (fun hc => ?_) (fun hc => ?_)
    · replace h := h.1 hc
      refine Z_aload_n (a := 0) (q := 32) (by decide +kernel) rfl rfl ?_
      refine g10_1 (idx := 19) (q := 35) (by decide +kernel) fX10_19 rfl (by decide) (t10_1 hT5) rfl ?_
      refine g9_2 (idx := 156) (q := 38) (by decide +kernel) fX10_156 (hS9_0 (by decide : 8 ∈ zSts)) (hL9_0 (by decide : 8 ∈ zSts)) (t9_2 hT5 (by decide : 8 ∈ zSts)) rfl ?_
      refine Z_iload_n (a := 1) (q := 39) (by decide +kernel) rfl rfl ?_
      obtain ⟨hin7, h⟩ := h
      refine Z_iald (len := 10) (q := 40) (by decide +kernel) (hS9_1 (by decide : 8 ∈ zSts)) (hL9_1 (by decide : 8 ∈ zSts)) hin7 rfl ?_
      refine Z_istore_n (a := 2) (loc2 := [_, _, _]) (q := 41) (by decide +kernel) (by decide +kernel) rfl rfl rfl ?_
      refine Z_aload_n (a := 0) (q := 42) (by decide +kernel) rfl rfl ?_
      refine g10_2 (idx := 26) (q := 45) (by decide +kernel) fX10_26 rfl (by decide) (t10_2 hT5) rfl ?_
      refine Z_aload_n (a := 0) (q := 46) (by decide +kernel) rfl rfl ?_
      refine g10_1 (idx := 19) (q := 49) (by decide +kernel) fX10_19 rfl (by decide) (t10_1 hT5) rfl ?_
      obtain ⟨Q8, hm, h⟩ := h
      refine Z_callVr (M2 := mX2_keepAct) (idx := 309) (d2 := d) (ci := 2) (As := [.ref _]) (q := 52) (by decide +kernel) kX2_keepAct lX10_309 rfl rfl (by decide) rfl rfl (by decide +kernel) (Nat.le_of_ble_eq_true rfl) (Nat.le_refl _) hm rfl (fun v13 iv9 rv10 lv11 hq => ?_)
      obtain ⟨hT12, hmv13, h⟩ := h v13 iv9 rv10 lv11 hq
      refine Z_pop (q := 53) (by decide +kernel) rfl rfl ?_
      refine Z_aload_n (a := 0) (q := 54) (by decide +kernel) rfl rfl ?_
      refine g10_1 (idx := 19) (q := 57) (by decide +kernel) fX10_19 rfl (by decide) (t10_1 hT12) rfl ?_
      refine Z_iload_n (a := 1) (q := 58) (by decide +kernel) rfl rfl ?_
      obtain ⟨Q14, hm, h⟩ := h
      refine Z_callVv (M2 := mX9_remove) (idx := 316) (d2 := d) (ci := 9) (As := [.int _]) (q := 61) (by decide +kernel) kX9_remove lX10_316 rfl (hS9_0 (by decide : 8 ∈ zSts)) (hL9_0 (by decide : 8 ∈ zSts)) rfl rfl (by decide +kernel) (Nat.le_of_ble_eq_true rfl) (Nat.le_refl _) hm rfl (fun iv15 rv16 lv17 hq => ?_)
      obtain ⟨hT18, h⟩ := h iv15 rv16 lv17 hq
      refine Z_aload_n (a := 0) (q := 62) (by decide +kernel) rfl rfl ?_
      obtain ⟨Q20, hm, h⟩ := h
      refine Z_callVv (M2 := mX10_changed) (idx := 127) (d2 := d) (ci := 10) (As := []) (q := 65) (by decide +kernel) kX10_changed lX10_127 rfl rfl (by decide) rfl rfl (by decide +kernel) (Nat.le_of_ble_eq_true rfl) (Nat.le_refl _) hm rfl (fun iv21 rv22 lv23 hq => ?_)
      obtain ⟨hT24, h⟩ := h iv21 rv22 lv23 hq
      refine Z_aload_n (a := 0) (q := 66) (by decide +kernel) rfl rfl ?_
      refine Z_iload_n (a := 2) (q := 67) (by decide +kernel) rfl rfl ?_
      obtain ⟨Q26, hm, h⟩ := h
      refine Z_callVi (M2 := mX10_answer) (idx := 133) (d2 := d) (ci := 10) (As := [.int _]) (q := 70) (by decide +kernel) kX10_answer lX10_133 rfl rfl (by decide) rfl rfl (by decide +kernel) (Nat.le_of_ble_eq_true rfl) (Nat.le_refl _) hm rfl (fun v31 iv27 rv28 lv29 hq => ?_)
      obtain ⟨hT30, h⟩ := h v31 iv27 rv28 lv29 hq
      exact Z_iret (ty := .int) (by decide +kernel) rfl rfl rfl ⟨_, rfl, h⟩
    · replace h := h.2 hc
      refine Z_aload_n (a := 0) (q := 26) (by decide +kernel) rfl rfl ?_
      refine Z_iconst (a := 5) (v := 5) (q := 27) (by decide +kernel) (by decide +kernel) rfl ?_
      obtain ⟨Q32, hm, h⟩ := h
      refine Z_callVi (M2 := mX10_refuse) (idx := 100) (d2 := d) (ci := 10) (As := [.int _]) (q := 30) (by decide +kernel) kX10_refuse lX10_100 rfl rfl (by decide) rfl rfl (by decide +kernel) (Nat.le_of_ble_eq_true rfl) (Nat.le_refl _) hm rfl (fun v37 iv33 rv34 lv35 hq => ?_)
      obtain ⟨hT36, h⟩ := h v37 iv33 rv34 lv35 hq
      exact Z_iret (ty := .int) (by decide +kernel) rfl rfl rfl ⟨_, rfl, h⟩
  · replace h := h.2 hc
    refine Z_aload_n (a := 0) (q := 9) (by decide +kernel) rfl rfl ?_
    refine Z_iconst (a := 1) (v := 1) (q := 10) (by decide +kernel) (by decide +kernel) rfl ?_
    obtain ⟨Q38, hm, h⟩ := h
    refine Z_callVi (M2 := mX10_refuse) (idx := 100) (d2 := d) (ci := 10) (As := [.int _]) (q := 13) (by decide +kernel) kX10_refuse lX10_100 rfl rfl (by decide) rfl rfl (by decide +kernel) (Nat.le_of_ble_eq_true rfl) (Nat.le_refl _) hm rfl (fun v43 iv39 rv40 lv41 hq => ?_)
    obtain ⟨hT42, h⟩ := h v43 iv39 rv40 lv41 hq
    exact Z_iret (ty := .int) (by decide +kernel) rfl rfl rfl ⟨_, rfl, h⟩
theorem eX10_become {d : Nat} (x1 : Int32) (x2 : Int32) {iv : zI} {rv : zR} {lv : zJ} {Q : Int32 → zI → zR → zJ → Prop} (h : Zi mX10_become (d + 1) 0 [some (.ref 0), some (.int x1), some (.int x2), none] [] iv rv lv Q) : Ci mX10_become (d + 1) [.ref 0, .int x1, .int x2] iv rv lv Q := Ci.of (by decide +kernel) (by simp [Value.category]) (Nat.le_of_ble_eq_true rfl) rfl h
set_option maxRecDepth 4000 in
theorem bX10_become_0 {d : Nat} (x1 : Int32) (x2 : Int32) {iv : zI} {rv : zR} {lv : zJ} {Q : Int32 → zI → zR → zJ → Prop} (hT : zTop rv) 
    (h : ∃ Q1 : Int32 → zI → zR → zJ → Prop, Ci mX10_noNumber d [.ref 0, .int x1] iv rv lv Q1 ∧ ∀ (v6 : Int32) (iv2 : zI) (rv3 : zR) (lv4 : zJ), Q1 v6 iv2 rv3 lv4 → zTop rv3 ∧ (∃ Q7 : Int32 → zI → zR → zJ → Prop, Ci mX10_noSuchValue d [.int x2] iv2 rv3 lv4 Q7 ∧ ∀ (v12 : Int32) (iv8 : zI) (rv9 : zR) (lv10 : zJ), Q7 v12 iv8 rv9 lv10 → zTop rv9 ∧ (∃ Q13 : Int32 → zI → zR → zJ → Prop, Ci mX10_refused d [.ref 0, .int v6, .int v12] iv8 rv9 lv10 Q13 ∧ ∀ (v18 : Int32) (iv14 : zI) (rv15 : zR) (lv16 : zJ), Q13 v18 iv14 rv15 lv16 → zTop rv15 ∧ ((v18 = 0 → vp_in x1 10 ∧ (∃ Q20 : Nat → zI → zR → zJ → Prop, Cr mX2_keepAct d [.ref 13, .ref 8] iv14 rv15 lv16 Q20 ∧ ∀ (v25 : Nat) (iv21 : zI) (rv22 : zR) (lv23 : zJ), Q20 v25 iv21 rv22 lv23 → zTop rv22 ∧ v25 ∈ zSts ∧ (∀ iv26 : zI, iv26 = zu iv21 (8 + 1) x1.toNatClampNeg x2 → ∃ Q27 : zI → zR → zJ → Prop, Cv mX10_changed d [.ref 0] iv26 rv22 lv23 Q27 ∧ ∀ (iv28 : zI) (rv29 : zR) (lv30 : zJ), Q27 iv28 rv29 lv30 → zTop rv29 ∧ (∃ Q33 : Int32 → zI → zR → zJ → Prop, Ci mX10_answer d [.ref 0, .int (iv14 (8 + 1) x1.toNatClampNeg)] iv28 rv29 lv30 Q33 ∧ ∀ (v38 : Int32) (iv34 : zI) (rv35 : zR) (lv36 : zJ), Q33 v38 iv34 rv35 lv36 → zTop rv35 ∧ (Q v38 iv34 rv35 lv36))))) ∧ (¬ v18 = 0 → Q (-1 : Int32) iv14 rv15 lv16))))) :
    Zi mX10_become (d + 1) 0 [some (.ref 0), some (.int x1), some (.int x2), none] [] iv rv lv Q := by
  unfold Zi
  refine Z_aload_n (a := 0) (q := 1) (by decide +kernel) rfl rfl ?_
  refine Z_aload_n (a := 0) (q := 2) (by decide +kernel) rfl rfl ?_
  refine Z_iload_n (a := 1) (q := 3) (by decide +kernel) rfl rfl ?_
  obtain ⟨Q1, hm, h⟩ := h
  refine Z_callVi (M2 := mX10_noNumber) (idx := 163) (d2 := d) (ci := 10) (As := [.int _]) (q := 6) (by decide +kernel) kX10_noNumber lX10_163 rfl rfl (by decide) rfl rfl (by decide +kernel) (Nat.le_of_ble_eq_true rfl) (Nat.le_refl _) hm rfl (fun v6 iv2 rv3 lv4 hq => ?_)
  obtain ⟨hT5, h⟩ := h v6 iv2 rv3 lv4 hq
  refine Z_iload_n (a := 2) (q := 7) (by decide +kernel) rfl rfl ?_
  obtain ⟨Q7, hm, h⟩ := h
  refine Z_callSi (M2 := mX10_noSuchValue) (idx := 306) (d2 := d) (As := [.int _]) (q := 10) (by decide +kernel) kX10_noSuchValue lX10_306 rfl rfl (by decide +kernel) (Nat.le_of_ble_eq_true rfl) (Nat.le_refl _) hm rfl (fun v12 iv8 rv9 lv10 hq => ?_)
  obtain ⟨hT11, h⟩ := h v12 iv8 rv9 lv10 hq
  obtain ⟨Q13, hm, h⟩ := h
  refine Z_callVi (M2 := mX10_refused) (idx := 181) (d2 := d) (ci := 10) (As := [.int _, .int _]) (q := 13) (by decide +kernel) kX10_refused lX10_181 rfl rfl (by decide) rfl rfl (by decide +kernel) (Nat.le_of_ble_eq_true rfl) (Nat.le_refl _) hm rfl (fun v18 iv14 rv15 lv16 hq => ?_)
  obtain ⟨hT17, h⟩ := h v18 iv14 rv15 lv16 hq
  refine Z_if_eq (t := 18) (off := 5) (q := 16) (by decide +kernel) (by decide) rfl (fun hc => ?_) (fun hc => ?_)
  · replace h := h.1 hc
    refine Z_aload_n (a := 0) (q := 19) (by decide +kernel) rfl rfl ?_
    refine g10_1 (idx := 19) (q := 22) (by decide +kernel) fX10_19 rfl (by decide) (t10_1 hT17) rfl ?_
    refine g9_2 (idx := 156) (q := 25) (by decide +kernel) fX10_156 (hS9_0 (by decide : 8 ∈ zSts)) (hL9_0 (by decide : 8 ∈ zSts)) (t9_2 hT17 (by decide : 8 ∈ zSts)) rfl ?_
    refine Z_iload_n (a := 1) (q := 26) (by decide +kernel) rfl rfl ?_
    obtain ⟨hin19, h⟩ := h
    refine Z_iald (len := 10) (q := 27) (by decide +kernel) (hS9_1 (by decide : 8 ∈ zSts)) (hL9_1 (by decide : 8 ∈ zSts)) hin19 rfl ?_
    refine Z_istore_n (a := 3) (loc2 := [_, _, _, _]) (q := 28) (by decide +kernel) (by decide +kernel) rfl rfl rfl ?_
    refine Z_aload_n (a := 0) (q := 29) (by decide +kernel) rfl rfl ?_
    refine g10_2 (idx := 26) (q := 32) (by decide +kernel) fX10_26 rfl (by decide) (t10_2 hT17) rfl ?_
    refine Z_aload_n (a := 0) (q := 33) (by decide +kernel) rfl rfl ?_
    refine g10_1 (idx := 19) (q := 36) (by decide +kernel) fX10_19 rfl (by decide) (t10_1 hT17) rfl ?_
    obtain ⟨Q20, hm, h⟩ := h
    refine Z_callVr (M2 := mX2_keepAct) (idx := 309) (d2 := d) (ci := 2) (As := [.ref _]) (q := 39) (by decide +kernel) kX2_keepAct lX10_309 rfl rfl (by decide) rfl rfl (by decide +kernel) (Nat.le_of_ble_eq_true rfl) (Nat.le_refl _) hm rfl (fun v25 iv21 rv22 lv23 hq => ?_)
    obtain ⟨hT24, hmv25, h⟩ := h v25 iv21 rv22 lv23 hq
    refine Z_pop (q := 40) (by decide +kernel) rfl rfl ?_
    refine Z_aload_n (a := 0) (q := 41) (by decide +kernel) rfl rfl ?_
    refine g10_1 (idx := 19) (q := 44) (by decide +kernel) fX10_19 rfl (by decide) (t10_1 hT24) rfl ?_
    refine g9_2 (idx := 156) (q := 47) (by decide +kernel) fX10_156 (hS9_0 (by decide : 8 ∈ zSts)) (hL9_0 (by decide : 8 ∈ zSts)) (t9_2 hT24 (by decide : 8 ∈ zSts)) rfl ?_
    refine Z_iload_n (a := 1) (q := 48) (by decide +kernel) rfl rfl ?_
    refine Z_iload_n (a := 2) (q := 49) (by decide +kernel) rfl rfl ?_
    refine Z_iast (len := 10) (q := 50) (by decide +kernel) (hS9_1 (by decide : 8 ∈ zSts)) (hL9_1 (by decide : 8 ∈ zSts)) hin19 rfl ?_
    replace h := h _ rfl
    refine Z_aload_n (a := 0) (q := 51) (by decide +kernel) rfl rfl ?_
    obtain ⟨Q27, hm, h⟩ := h
    refine Z_callVv (M2 := mX10_changed) (idx := 127) (d2 := d) (ci := 10) (As := []) (q := 54) (by decide +kernel) kX10_changed lX10_127 rfl rfl (by decide) rfl rfl (by decide +kernel) (Nat.le_of_ble_eq_true rfl) (Nat.le_refl _) hm rfl (fun iv28 rv29 lv30 hq => ?_)
    obtain ⟨hT31, h⟩ := h iv28 rv29 lv30 hq
    refine Z_aload_n (a := 0) (q := 55) (by decide +kernel) rfl rfl ?_
    refine Z_iload_n (a := 3) (q := 56) (by decide +kernel) rfl rfl ?_
    obtain ⟨Q33, hm, h⟩ := h
    refine Z_callVi (M2 := mX10_answer) (idx := 133) (d2 := d) (ci := 10) (As := [.int _]) (q := 59) (by decide +kernel) kX10_answer lX10_133 rfl rfl (by decide) rfl rfl (by decide +kernel) (Nat.le_of_ble_eq_true rfl) (Nat.le_refl _) hm rfl (fun v38 iv34 rv35 lv36 hq => ?_)
    obtain ⟨hT37, h⟩ := h v38 iv34 rv35 lv36 hq
    exact Z_iret (ty := .int) (by decide +kernel) rfl rfl rfl ⟨_, rfl, h⟩
  · replace h := h.2 hc
    refine Z_iconst (a := -1) (v := -1) (q := 17) (by decide +kernel) (by decide +kernel) rfl ?_
    exact Z_iret (ty := .int) (by decide +kernel) rfl rfl rfl ⟨_, rfl, h⟩
theorem eX10_keepIn {d : Nat} (x1 : Int32) (x2 : Int32) {iv : zI} {rv : zR} {lv : zJ} {Q : Int32 → zI → zR → zJ → Prop} (h : Zi mX10_keepIn (d + 1) 0 [some (.ref 0), some (.int x1), some (.int x2), none] [] iv rv lv Q) : Ci mX10_keepIn (d + 1) [.ref 0, .int x1, .int x2] iv rv lv Q := Ci.of (by decide +kernel) (by simp [Value.category]) (Nat.le_of_ble_eq_true rfl) rfl h
set_option maxRecDepth 4000 in
theorem bX10_keepIn_0 {d : Nat} (x1 : Int32) (x2 : Int32) {iv : zI} {rv : zR} {lv : zJ} {Q : Int32 → zI → zR → zJ → Prop} (hT : zTop rv) 
    (h : ∃ Q1 : Int32 → zI → zR → zJ → Prop, Ci mX10_noNumber d [.ref 0, .int x1] iv rv lv Q1 ∧ ∀ (v6 : Int32) (iv2 : zI) (rv3 : zR) (lv4 : zJ), Q1 v6 iv2 rv3 lv4 → zTop rv3 ∧ ((x2 = (-2 : Int32) → Zi mX10_keepIn (d + 1) 26 [some (.ref 0), some (.int x1), some (.int x2), none] [.int (0 : Int32), .int v6, .ref 0] iv2 rv3 lv4 Q) ∧ (¬ x2 = (-2 : Int32) → (x2 < 0 → Zi mX10_keepIn (d + 1) 26 [some (.ref 0), some (.int x1), some (.int x2), none] [.int (1 : Int32), .int v6, .ref 0] iv2 rv3 lv4 Q) ∧ (¬ x2 < 0 → (x2 < (4 : Int32) → Zi mX10_keepIn (d + 1) 26 [some (.ref 0), some (.int x1), some (.int x2), none] [.int (0 : Int32), .int v6, .ref 0] iv2 rv3 lv4 Q) ∧ (¬ x2 < (4 : Int32) → Zi mX10_keepIn (d + 1) 26 [some (.ref 0), some (.int x1), some (.int x2), none] [.int (1 : Int32), .int v6, .ref 0] iv2 rv3 lv4 Q))))) :
    Zi mX10_keepIn (d + 1) 0 [some (.ref 0), some (.int x1), some (.int x2), none] [] iv rv lv Q := by
  unfold Zi
  refine Z_aload_n (a := 0) (q := 1) (by decide +kernel) rfl rfl ?_
  refine Z_aload_n (a := 0) (q := 2) (by decide +kernel) rfl rfl ?_
  refine Z_iload_n (a := 1) (q := 3) (by decide +kernel) rfl rfl ?_
  obtain ⟨Q1, hm, h⟩ := h
  refine Z_callVi (M2 := mX10_noNumber) (idx := 163) (d2 := d) (ci := 10) (As := [.int _]) (q := 6) (by decide +kernel) kX10_noNumber lX10_163 rfl rfl (by decide) rfl rfl (by decide +kernel) (Nat.le_of_ble_eq_true rfl) (Nat.le_refl _) hm rfl (fun v6 iv2 rv3 lv4 hq => ?_)
  obtain ⟨hT5, h⟩ := h v6 iv2 rv3 lv4 hq
  refine Z_iload_n (a := 2) (q := 7) (by decide +kernel) rfl rfl ?_
  refine Z_bipush (a := -2) (v := -2) (q := 9) (by decide +kernel) (by decide +kernel) rfl ?_
  refine Z_icmp_eq (t := 25) (off := 16) (q := 12) (by decide +kernel) (by decide) rfl (fun hc => ?_) (fun hc => ?_)
  · replace h := h.1 hc
    refine Z_iconst (a := 0) (v := 0) (q := 26) (by decide +kernel) (by decide +kernel) rfl ?_
    exact h
  · replace h := h.2 hc
    refine Z_iload_n (a := 2) (q := 13) (by decide +kernel) rfl rfl ?_
    refine Z_if_lt (t := 21) (off := 8) (q := 16) (by decide +kernel) (by decide) rfl (fun hc => ?_) (fun hc => ?_)
    · replace h := h.1 hc
      refine Z_iconst (a := 1) (v := 1) (q := 22) (by decide +kernel) (by decide +kernel) rfl ?_
      refine Z_goto (q := 26) (off := 4) (by decide +kernel) (by decide) ?_
      exact h
    · replace h := h.2 hc
      refine Z_iload_n (a := 2) (q := 17) (by decide +kernel) rfl rfl ?_
      refine Z_iconst (a := 4) (v := 4) (q := 18) (by decide +kernel) (by decide +kernel) rfl ?_
      refine Z_icmp_lt (t := 25) (off := 7) (q := 21) (by decide +kernel) (by decide) rfl (fun hc => ?_) (fun hc => ?_)
      · replace h := h.1 hc
        refine Z_iconst (a := 0) (v := 0) (q := 26) (by decide +kernel) (by decide +kernel) rfl ?_
        exact h
      · replace h := h.2 hc
        refine Z_iconst (a := 1) (v := 1) (q := 22) (by decide +kernel) (by decide +kernel) rfl ?_
        refine Z_goto (q := 26) (off := 4) (by decide +kernel) (by decide) ?_
        exact h
set_option maxRecDepth 4000 in
theorem bX10_keepIn_26 {d : Nat} (x1 : Int32) (x2 : Int32) (y0 : Int32) (y1 : Int32) {iv : zI} {rv : zR} {lv : zJ} {Q : Int32 → zI → zR → zJ → Prop} (hT : zTop rv) 
    (h : ∃ Q1 : Int32 → zI → zR → zJ → Prop, Ci mX10_refused d [.ref 0, .int y1, .int y0] iv rv lv Q1 ∧ ∀ (v6 : Int32) (iv2 : zI) (rv3 : zR) (lv4 : zJ), Q1 v6 iv2 rv3 lv4 → zTop rv3 ∧ ((v6 = 0 → vp_in x1 10 ∧ (∃ Q8 : Nat → zI → zR → zJ → Prop, Cr mX2_keepAct d [.ref 13, .ref 8] iv2 rv3 lv4 Q8 ∧ ∀ (v13 : Nat) (iv9 : zI) (rv10 : zR) (lv11 : zJ), Q8 v13 iv9 rv10 lv11 → zTop rv10 ∧ v13 ∈ zSts ∧ (∀ iv14 : zI, iv14 = zu iv9 (8 + 2) x1.toNatClampNeg x2 → ∃ Q15 : zI → zR → zJ → Prop, Cv mX10_changed d [.ref 0] iv14 rv10 lv11 Q15 ∧ ∀ (iv16 : zI) (rv17 : zR) (lv18 : zJ), Q15 iv16 rv17 lv18 → zTop rv17 ∧ (∃ Q21 : Int32 → zI → zR → zJ → Prop, Ci mX10_answer d [.ref 0, .int (iv2 (8 + 2) x1.toNatClampNeg)] iv16 rv17 lv18 Q21 ∧ ∀ (v26 : Int32) (iv22 : zI) (rv23 : zR) (lv24 : zJ), Q21 v26 iv22 rv23 lv24 → zTop rv23 ∧ (Q v26 iv22 rv23 lv24))))) ∧ (¬ v6 = 0 → Q (-1 : Int32) iv2 rv3 lv4))) :
    Zi mX10_keepIn (d + 1) 26 [some (.ref 0), some (.int x1), some (.int x2), none] [.int y0, .int y1, .ref 0] iv rv lv Q := by
  unfold Zi
  obtain ⟨Q1, hm, h⟩ := h
  refine Z_callVi (M2 := mX10_refused) (idx := 181) (d2 := d) (ci := 10) (As := [.int _, .int _]) (q := 29) (by decide +kernel) kX10_refused lX10_181 rfl rfl (by decide) rfl rfl (by decide +kernel) (Nat.le_of_ble_eq_true rfl) (Nat.le_refl _) hm rfl (fun v6 iv2 rv3 lv4 hq => ?_)
  obtain ⟨hT5, h⟩ := h v6 iv2 rv3 lv4 hq
  refine Z_if_eq (t := 34) (off := 5) (q := 32) (by decide +kernel) (by decide) rfl (fun hc => ?_) (fun hc => ?_)
  · replace h := h.1 hc
    refine Z_aload_n (a := 0) (q := 35) (by decide +kernel) rfl rfl ?_
    refine g10_1 (idx := 19) (q := 38) (by decide +kernel) fX10_19 rfl (by decide) (t10_1 hT5) rfl ?_
    refine g9_3 (idx := 169) (q := 41) (by decide +kernel) fX10_169 (hS9_0 (by decide : 8 ∈ zSts)) (hL9_0 (by decide : 8 ∈ zSts)) (t9_3 hT5 (by decide : 8 ∈ zSts)) rfl ?_
    refine Z_iload_n (a := 1) (q := 42) (by decide +kernel) rfl rfl ?_
    obtain ⟨hin7, h⟩ := h
    refine Z_iald (len := 10) (q := 43) (by decide +kernel) (hS9_2 (by decide : 8 ∈ zSts)) (hL9_2 (by decide : 8 ∈ zSts)) hin7 rfl ?_
    refine Z_istore_n (a := 3) (loc2 := [_, _, _, _]) (q := 44) (by decide +kernel) (by decide +kernel) rfl rfl rfl ?_
    refine Z_aload_n (a := 0) (q := 45) (by decide +kernel) rfl rfl ?_
    refine g10_2 (idx := 26) (q := 48) (by decide +kernel) fX10_26 rfl (by decide) (t10_2 hT5) rfl ?_
    refine Z_aload_n (a := 0) (q := 49) (by decide +kernel) rfl rfl ?_
    refine g10_1 (idx := 19) (q := 52) (by decide +kernel) fX10_19 rfl (by decide) (t10_1 hT5) rfl ?_
    obtain ⟨Q8, hm, h⟩ := h
    refine Z_callVr (M2 := mX2_keepAct) (idx := 309) (d2 := d) (ci := 2) (As := [.ref _]) (q := 55) (by decide +kernel) kX2_keepAct lX10_309 rfl rfl (by decide) rfl rfl (by decide +kernel) (Nat.le_of_ble_eq_true rfl) (Nat.le_refl _) hm rfl (fun v13 iv9 rv10 lv11 hq => ?_)
    obtain ⟨hT12, hmv13, h⟩ := h v13 iv9 rv10 lv11 hq
    refine Z_pop (q := 56) (by decide +kernel) rfl rfl ?_
    refine Z_aload_n (a := 0) (q := 57) (by decide +kernel) rfl rfl ?_
    refine g10_1 (idx := 19) (q := 60) (by decide +kernel) fX10_19 rfl (by decide) (t10_1 hT12) rfl ?_
    refine g9_3 (idx := 169) (q := 63) (by decide +kernel) fX10_169 (hS9_0 (by decide : 8 ∈ zSts)) (hL9_0 (by decide : 8 ∈ zSts)) (t9_3 hT12 (by decide : 8 ∈ zSts)) rfl ?_
    refine Z_iload_n (a := 1) (q := 64) (by decide +kernel) rfl rfl ?_
    refine Z_iload_n (a := 2) (q := 65) (by decide +kernel) rfl rfl ?_
    refine Z_iast (len := 10) (q := 66) (by decide +kernel) (hS9_2 (by decide : 8 ∈ zSts)) (hL9_2 (by decide : 8 ∈ zSts)) hin7 rfl ?_
    replace h := h _ rfl
    refine Z_aload_n (a := 0) (q := 67) (by decide +kernel) rfl rfl ?_
    obtain ⟨Q15, hm, h⟩ := h
    refine Z_callVv (M2 := mX10_changed) (idx := 127) (d2 := d) (ci := 10) (As := []) (q := 70) (by decide +kernel) kX10_changed lX10_127 rfl rfl (by decide) rfl rfl (by decide +kernel) (Nat.le_of_ble_eq_true rfl) (Nat.le_refl _) hm rfl (fun iv16 rv17 lv18 hq => ?_)
    obtain ⟨hT19, h⟩ := h iv16 rv17 lv18 hq
    refine Z_aload_n (a := 0) (q := 71) (by decide +kernel) rfl rfl ?_
    refine Z_iload_n (a := 3) (q := 72) (by decide +kernel) rfl rfl ?_
    obtain ⟨Q21, hm, h⟩ := h
    refine Z_callVi (M2 := mX10_answer) (idx := 133) (d2 := d) (ci := 10) (As := [.int _]) (q := 75) (by decide +kernel) kX10_answer lX10_133 rfl rfl (by decide) rfl rfl (by decide +kernel) (Nat.le_of_ble_eq_true rfl) (Nat.le_refl _) hm rfl (fun v26 iv22 rv23 lv24 hq => ?_)
    obtain ⟨hT25, h⟩ := h v26 iv22 rv23 lv24 hq
    exact Z_iret (ty := .int) (by decide +kernel) rfl rfl rfl ⟨_, rfl, h⟩
  · replace h := h.2 hc
    refine Z_iconst (a := -1) (v := -1) (q := 33) (by decide +kernel) (by decide +kernel) rfl ?_
    exact Z_iret (ty := .int) (by decide +kernel) rfl rfl rfl ⟨_, rfl, h⟩
theorem eX10_apart {d : Nat} (x1 : Int32) (x2 : Int32) {iv : zI} {rv : zR} {lv : zJ} {Q : Int32 → zI → zR → zJ → Prop} (h : Zi mX10_apart (d + 1) 0 [some (.ref 0), some (.int x1), some (.int x2)] [] iv rv lv Q) : Ci mX10_apart (d + 1) [.ref 0, .int x1, .int x2] iv rv lv Q := Ci.of (by decide +kernel) (by simp [Value.category]) (Nat.le_of_ble_eq_true rfl) rfl h
set_option maxRecDepth 4000 in
theorem bX10_apart_0 {d : Nat} (x1 : Int32) (x2 : Int32) {iv : zI} {rv : zR} {lv : zJ} {Q : Int32 → zI → zR → zJ → Prop} (hT : zTop rv) 
    (h : ∃ Q1 : Int32 → zI → zR → zJ → Prop, Ci mX10_noNumber d [.ref 0, .int x1] iv rv lv Q1 ∧ ∀ (v6 : Int32) (iv2 : zI) (rv3 : zR) (lv4 : zJ), Q1 v6 iv2 rv3 lv4 → zTop rv3 ∧ ((¬ v6 = 0 → ∃ Q7 : Int32 → zI → zR → zJ → Prop, Ci mX10_refuse d [.ref 0, .int (1 : Int32)] iv2 rv3 lv4 Q7 ∧ ∀ (v12 : Int32) (iv8 : zI) (rv9 : zR) (lv10 : zJ), Q7 v12 iv8 rv9 lv10 → zTop rv9 ∧ (Q v12 iv8 rv9 lv10)) ∧ (v6 = 0 → ∃ Q13 : Int32 → zI → zR → zJ → Prop, Ci mX10_noNumber d [.ref 0, .int x2] iv2 rv3 lv4 Q13 ∧ ∀ (v18 : Int32) (iv14 : zI) (rv15 : zR) (lv16 : zJ), Q13 v18 iv14 rv15 lv16 → zTop rv15 ∧ ((v18 = 0 → ∃ Q19 : Int32 → zI → zR → zJ → Prop, Ci mX9_pairs d [.ref 8] iv14 rv15 lv16 Q19 ∧ ∀ (v24 : Int32) (iv20 : zI) (rv21 : zR) (lv22 : zJ), Q19 v24 iv20 rv21 lv22 → zTop rv21 ∧ ((v24 < (6 : Int32) → Zi mX10_apart (d + 1) 52 [some (.ref 0), some (.int x1), some (.int x2)] [] iv20 rv21 lv22 Q) ∧ (¬ v24 < (6 : Int32) → ∃ Q25 : Int32 → zI → zR → zJ → Prop, Ci mX9_areApart d [.ref 8, .int x1, .int x2] iv20 rv21 lv22 Q25 ∧ ∀ (v30 : Int32) (iv26 : zI) (rv27 : zR) (lv28 : zJ), Q25 v30 iv26 rv27 lv28 → zTop rv27 ∧ ((¬ v30 = 0 → Zi mX10_apart (d + 1) 52 [some (.ref 0), some (.int x1), some (.int x2)] [] iv26 rv27 lv28 Q) ∧ (v30 = 0 → ∃ Q31 : Int32 → zI → zR → zJ → Prop, Ci mX10_refuse d [.ref 0, .int (3 : Int32)] iv26 rv27 lv28 Q31 ∧ ∀ (v36 : Int32) (iv32 : zI) (rv33 : zR) (lv34 : zJ), Q31 v36 iv32 rv33 lv34 → zTop rv33 ∧ (Q v36 iv32 rv33 lv34)))))) ∧ (¬ v18 = 0 → ∃ Q37 : Int32 → zI → zR → zJ → Prop, Ci mX10_refuse d [.ref 0, .int (1 : Int32)] iv14 rv15 lv16 Q37 ∧ ∀ (v42 : Int32) (iv38 : zI) (rv39 : zR) (lv40 : zJ), Q37 v42 iv38 rv39 lv40 → zTop rv39 ∧ (Q v42 iv38 rv39 lv40)))))) :
    Zi mX10_apart (d + 1) 0 [some (.ref 0), some (.int x1), some (.int x2)] [] iv rv lv Q := by
  unfold Zi
  refine Z_aload_n (a := 0) (q := 1) (by decide +kernel) rfl rfl ?_
  refine Z_iload_n (a := 1) (q := 2) (by decide +kernel) rfl rfl ?_
  obtain ⟨Q1, hm, h⟩ := h
  refine Z_callVi (M2 := mX10_noNumber) (idx := 163) (d2 := d) (ci := 10) (As := [.int _]) (q := 5) (by decide +kernel) kX10_noNumber lX10_163 rfl rfl (by decide) rfl rfl (by decide +kernel) (Nat.le_of_ble_eq_true rfl) (Nat.le_refl _) hm rfl (fun v6 iv2 rv3 lv4 hq => ?_)
  obtain ⟨hT5, h⟩ := h v6 iv2 rv3 lv4 hq
  refine Z_if_ne (t := 16) (off := 11) (q := 8) (by decide +kernel) (by decide) rfl (fun hc => ?_) (fun hc => ?_)
  · replace h := h.1 hc
    refine Z_aload_n (a := 0) (q := 17) (by decide +kernel) rfl rfl ?_
    refine Z_iconst (a := 1) (v := 1) (q := 18) (by decide +kernel) (by decide +kernel) rfl ?_
    obtain ⟨Q7, hm, h⟩ := h
    refine Z_callVi (M2 := mX10_refuse) (idx := 100) (d2 := d) (ci := 10) (As := [.int _]) (q := 21) (by decide +kernel) kX10_refuse lX10_100 rfl rfl (by decide) rfl rfl (by decide +kernel) (Nat.le_of_ble_eq_true rfl) (Nat.le_refl _) hm rfl (fun v12 iv8 rv9 lv10 hq => ?_)
    obtain ⟨hT11, h⟩ := h v12 iv8 rv9 lv10 hq
    exact Z_iret (ty := .int) (by decide +kernel) rfl rfl rfl ⟨_, rfl, h⟩
  · replace h := h.2 hc
    refine Z_aload_n (a := 0) (q := 9) (by decide +kernel) rfl rfl ?_
    refine Z_iload_n (a := 2) (q := 10) (by decide +kernel) rfl rfl ?_
    obtain ⟨Q13, hm, h⟩ := h
    refine Z_callVi (M2 := mX10_noNumber) (idx := 163) (d2 := d) (ci := 10) (As := [.int _]) (q := 13) (by decide +kernel) kX10_noNumber lX10_163 rfl rfl (by decide) rfl rfl (by decide +kernel) (Nat.le_of_ble_eq_true rfl) (Nat.le_refl _) hm rfl (fun v18 iv14 rv15 lv16 hq => ?_)
    obtain ⟨hT17, h⟩ := h v18 iv14 rv15 lv16 hq
    refine Z_if_eq (t := 22) (off := 9) (q := 16) (by decide +kernel) (by decide) rfl (fun hc => ?_) (fun hc => ?_)
    · replace h := h.1 hc
      refine Z_aload_n (a := 0) (q := 23) (by decide +kernel) rfl rfl ?_
      refine g10_1 (idx := 19) (q := 26) (by decide +kernel) fX10_19 rfl (by decide) (t10_1 hT17) rfl ?_
      obtain ⟨Q19, hm, h⟩ := h
      refine Z_callVi (M2 := mX9_pairs) (idx := 150) (d2 := d) (ci := 9) (As := []) (q := 29) (by decide +kernel) kX9_pairs lX10_150 rfl (hS9_0 (by decide : 8 ∈ zSts)) (hL9_0 (by decide : 8 ∈ zSts)) rfl rfl (by decide +kernel) (Nat.le_of_ble_eq_true rfl) (Nat.le_refl _) hm rfl (fun v24 iv20 rv21 lv22 hq => ?_)
      obtain ⟨hT23, h⟩ := h v24 iv20 rv21 lv22 hq
      refine Z_bipush (a := 6) (v := 6) (q := 31) (by decide +kernel) (by decide +kernel) rfl ?_
      refine Z_icmp_lt (t := 52) (off := 21) (q := 34) (by decide +kernel) (by decide) rfl (fun hc => ?_) (fun hc => ?_)
      · replace h := h.1 hc
        exact h
      · replace h := h.2 hc
        refine Z_aload_n (a := 0) (q := 35) (by decide +kernel) rfl rfl ?_
        refine g10_1 (idx := 19) (q := 38) (by decide +kernel) fX10_19 rfl (by decide) (t10_1 hT23) rfl ?_
        refine Z_iload_n (a := 1) (q := 39) (by decide +kernel) rfl rfl ?_
        refine Z_iload_n (a := 2) (q := 40) (by decide +kernel) rfl rfl ?_
        obtain ⟨Q25, hm, h⟩ := h
        refine Z_callVi (M2 := mX9_areApart) (idx := 319) (d2 := d) (ci := 9) (As := [.int _, .int _]) (q := 43) (by decide +kernel) kX9_areApart lX10_319 rfl (hS9_0 (by decide : 8 ∈ zSts)) (hL9_0 (by decide : 8 ∈ zSts)) rfl rfl (by decide +kernel) (Nat.le_of_ble_eq_true rfl) (Nat.le_refl _) hm rfl (fun v30 iv26 rv27 lv28 hq => ?_)
        obtain ⟨hT29, h⟩ := h v30 iv26 rv27 lv28 hq
        refine Z_if_ne (t := 52) (off := 9) (q := 46) (by decide +kernel) (by decide) rfl (fun hc => ?_) (fun hc => ?_)
        · replace h := h.1 hc
          exact h
        · replace h := h.2 hc
          refine Z_aload_n (a := 0) (q := 47) (by decide +kernel) rfl rfl ?_
          refine Z_iconst (a := 3) (v := 3) (q := 48) (by decide +kernel) (by decide +kernel) rfl ?_
          obtain ⟨Q31, hm, h⟩ := h
          refine Z_callVi (M2 := mX10_refuse) (idx := 100) (d2 := d) (ci := 10) (As := [.int _]) (q := 51) (by decide +kernel) kX10_refuse lX10_100 rfl rfl (by decide) rfl rfl (by decide +kernel) (Nat.le_of_ble_eq_true rfl) (Nat.le_refl _) hm rfl (fun v36 iv32 rv33 lv34 hq => ?_)
          obtain ⟨hT35, h⟩ := h v36 iv32 rv33 lv34 hq
          exact Z_iret (ty := .int) (by decide +kernel) rfl rfl rfl ⟨_, rfl, h⟩
    · replace h := h.2 hc
      refine Z_aload_n (a := 0) (q := 17) (by decide +kernel) rfl rfl ?_
      refine Z_iconst (a := 1) (v := 1) (q := 18) (by decide +kernel) (by decide +kernel) rfl ?_
      obtain ⟨Q37, hm, h⟩ := h
      refine Z_callVi (M2 := mX10_refuse) (idx := 100) (d2 := d) (ci := 10) (As := [.int _]) (q := 21) (by decide +kernel) kX10_refuse lX10_100 rfl rfl (by decide) rfl rfl (by decide +kernel) (Nat.le_of_ble_eq_true rfl) (Nat.le_refl _) hm rfl (fun v42 iv38 rv39 lv40 hq => ?_)
      obtain ⟨hT41, h⟩ := h v42 iv38 rv39 lv40 hq
      exact Z_iret (ty := .int) (by decide +kernel) rfl rfl rfl ⟨_, rfl, h⟩
set_option maxRecDepth 4000 in
theorem bX10_apart_52 {d : Nat} (x1 : Int32) (x2 : Int32) {iv : zI} {rv : zR} {lv : zJ} {Q : Int32 → zI → zR → zJ → Prop} (hT : zTop rv) 
    (h : (¬ x1 = x2 → ∃ Q1 : Nat → zI → zR → zJ → Prop, Cr mX2_keepAct d [.ref 13, .ref 8] iv rv lv Q1 ∧ ∀ (v6 : Nat) (iv2 : zI) (rv3 : zR) (lv4 : zJ), Q1 v6 iv2 rv3 lv4 → zTop rv3 ∧ v6 ∈ zSts ∧ (∃ Q7 : zI → zR → zJ → Prop, Cv mX9_toggleApart d [.ref 8, .int x1, .int x2] iv2 rv3 lv4 Q7 ∧ ∀ (iv8 : zI) (rv9 : zR) (lv10 : zJ), Q7 iv8 rv9 lv10 → zTop rv9 ∧ (∃ Q13 : zI → zR → zJ → Prop, Cv mX10_changed d [.ref 0] iv8 rv9 lv10 Q13 ∧ ∀ (iv14 : zI) (rv15 : zR) (lv16 : zJ), Q13 iv14 rv15 lv16 → zTop rv15 ∧ (∃ Q19 : Int32 → zI → zR → zJ → Prop, Ci mX9_pairs d [.ref 8] iv14 rv15 lv16 Q19 ∧ ∀ (v24 : Int32) (iv20 : zI) (rv21 : zR) (lv22 : zJ), Q19 v24 iv20 rv21 lv22 → zTop rv21 ∧ (∃ Q25 : Int32 → zI → zR → zJ → Prop, Ci mX10_answer d [.ref 0, .int v24] iv20 rv21 lv22 Q25 ∧ ∀ (v30 : Int32) (iv26 : zI) (rv27 : zR) (lv28 : zJ), Q25 v30 iv26 rv27 lv28 → zTop rv27 ∧ (Q v30 iv26 rv27 lv28)))))) ∧ (x1 = x2 → ∃ Q31 : Int32 → zI → zR → zJ → Prop, Ci mX10_refuse d [.ref 0, .int (5 : Int32)] iv rv lv Q31 ∧ ∀ (v36 : Int32) (iv32 : zI) (rv33 : zR) (lv34 : zJ), Q31 v36 iv32 rv33 lv34 → zTop rv33 ∧ (Q v36 iv32 rv33 lv34))) :
    Zi mX10_apart (d + 1) 52 [some (.ref 0), some (.int x1), some (.int x2)] [] iv rv lv Q := by
  unfold Zi
  refine Z_iload_n (a := 1) (q := 53) (by decide +kernel) rfl rfl ?_
  refine Z_iload_n (a := 2) (q := 54) (by decide +kernel) rfl rfl ?_
  refine Z_icmp_ne (t := 63) (off := 9) (q := 57) (by decide +kernel) (by decide) rfl (fun hc => ?_) (fun hc => ?_)
  · replace h := h.1 hc
    refine Z_aload_n (a := 0) (q := 64) (by decide +kernel) rfl rfl ?_
    refine g10_2 (idx := 26) (q := 67) (by decide +kernel) fX10_26 rfl (by decide) (t10_2 hT) rfl ?_
    refine Z_aload_n (a := 0) (q := 68) (by decide +kernel) rfl rfl ?_
    refine g10_1 (idx := 19) (q := 71) (by decide +kernel) fX10_19 rfl (by decide) (t10_1 hT) rfl ?_
    obtain ⟨Q1, hm, h⟩ := h
    refine Z_callVr (M2 := mX2_keepAct) (idx := 309) (d2 := d) (ci := 2) (As := [.ref _]) (q := 74) (by decide +kernel) kX2_keepAct lX10_309 rfl rfl (by decide) rfl rfl (by decide +kernel) (Nat.le_of_ble_eq_true rfl) (Nat.le_refl _) hm rfl (fun v6 iv2 rv3 lv4 hq => ?_)
    obtain ⟨hT5, hmv6, h⟩ := h v6 iv2 rv3 lv4 hq
    refine Z_pop (q := 75) (by decide +kernel) rfl rfl ?_
    refine Z_aload_n (a := 0) (q := 76) (by decide +kernel) rfl rfl ?_
    refine g10_1 (idx := 19) (q := 79) (by decide +kernel) fX10_19 rfl (by decide) (t10_1 hT5) rfl ?_
    refine Z_iload_n (a := 1) (q := 80) (by decide +kernel) rfl rfl ?_
    refine Z_iload_n (a := 2) (q := 81) (by decide +kernel) rfl rfl ?_
    obtain ⟨Q7, hm, h⟩ := h
    refine Z_callVv (M2 := mX9_toggleApart) (idx := 323) (d2 := d) (ci := 9) (As := [.int _, .int _]) (q := 84) (by decide +kernel) kX9_toggleApart lX10_323 rfl (hS9_0 (by decide : 8 ∈ zSts)) (hL9_0 (by decide : 8 ∈ zSts)) rfl rfl (by decide +kernel) (Nat.le_of_ble_eq_true rfl) (Nat.le_refl _) hm rfl (fun iv8 rv9 lv10 hq => ?_)
    obtain ⟨hT11, h⟩ := h iv8 rv9 lv10 hq
    refine Z_aload_n (a := 0) (q := 85) (by decide +kernel) rfl rfl ?_
    obtain ⟨Q13, hm, h⟩ := h
    refine Z_callVv (M2 := mX10_changed) (idx := 127) (d2 := d) (ci := 10) (As := []) (q := 88) (by decide +kernel) kX10_changed lX10_127 rfl rfl (by decide) rfl rfl (by decide +kernel) (Nat.le_of_ble_eq_true rfl) (Nat.le_refl _) hm rfl (fun iv14 rv15 lv16 hq => ?_)
    obtain ⟨hT17, h⟩ := h iv14 rv15 lv16 hq
    refine Z_aload_n (a := 0) (q := 89) (by decide +kernel) rfl rfl ?_
    refine Z_aload_n (a := 0) (q := 90) (by decide +kernel) rfl rfl ?_
    refine g10_1 (idx := 19) (q := 93) (by decide +kernel) fX10_19 rfl (by decide) (t10_1 hT17) rfl ?_
    obtain ⟨Q19, hm, h⟩ := h
    refine Z_callVi (M2 := mX9_pairs) (idx := 150) (d2 := d) (ci := 9) (As := []) (q := 96) (by decide +kernel) kX9_pairs lX10_150 rfl (hS9_0 (by decide : 8 ∈ zSts)) (hL9_0 (by decide : 8 ∈ zSts)) rfl rfl (by decide +kernel) (Nat.le_of_ble_eq_true rfl) (Nat.le_refl _) hm rfl (fun v24 iv20 rv21 lv22 hq => ?_)
    obtain ⟨hT23, h⟩ := h v24 iv20 rv21 lv22 hq
    obtain ⟨Q25, hm, h⟩ := h
    refine Z_callVi (M2 := mX10_answer) (idx := 133) (d2 := d) (ci := 10) (As := [.int _]) (q := 99) (by decide +kernel) kX10_answer lX10_133 rfl rfl (by decide) rfl rfl (by decide +kernel) (Nat.le_of_ble_eq_true rfl) (Nat.le_refl _) hm rfl (fun v30 iv26 rv27 lv28 hq => ?_)
    obtain ⟨hT29, h⟩ := h v30 iv26 rv27 lv28 hq
    exact Z_iret (ty := .int) (by decide +kernel) rfl rfl rfl ⟨_, rfl, h⟩
  · replace h := h.2 hc
    refine Z_aload_n (a := 0) (q := 58) (by decide +kernel) rfl rfl ?_
    refine Z_iconst (a := 5) (v := 5) (q := 59) (by decide +kernel) (by decide +kernel) rfl ?_
    obtain ⟨Q31, hm, h⟩ := h
    refine Z_callVi (M2 := mX10_refuse) (idx := 100) (d2 := d) (ci := 10) (As := [.int _]) (q := 62) (by decide +kernel) kX10_refuse lX10_100 rfl rfl (by decide) rfl rfl (by decide +kernel) (Nat.le_of_ble_eq_true rfl) (Nat.le_refl _) hm rfl (fun v36 iv32 rv33 lv34 hq => ?_)
    obtain ⟨hT35, h⟩ := h v36 iv32 rv33 lv34 hq
    exact Z_iret (ty := .int) (by decide +kernel) rfl rfl rfl ⟨_, rfl, h⟩
theorem eX10_sort {d : Nat}  {iv : zI} {rv : zR} {lv : zJ} {Q : Int32 → zI → zR → zJ → Prop} (h : Zi mX10_sort (d + 1) 0 [some (.ref 0), none, none] [] iv rv lv Q) : Ci mX10_sort (d + 1) [.ref 0] iv rv lv Q := Ci.of (by decide +kernel) (by simp [Value.category]) (Nat.le_of_ble_eq_true rfl) rfl h
set_option maxRecDepth 4000 in
theorem bX10_sort_0 {d : Nat}  {iv : zI} {rv : zR} {lv : zJ} {Q : Int32 → zI → zR → zJ → Prop} (hT : zTop rv) 
    (h : ∃ Q1 : Int32 → zI → zR → zJ → Prop, Ci mX10_noText d [.ref 0] iv rv lv Q1 ∧ ∀ (v6 : Int32) (iv2 : zI) (rv3 : zR) (lv4 : zJ), Q1 v6 iv2 rv3 lv4 → zTop rv3 ∧ ((v6 = 0 → Zi mX10_sort (d + 1) 17 [some (.ref 0), some (.int (0 : Int32)), some (.int (0 : Int32))] [] iv2 rv3 lv4 Q) ∧ (¬ v6 = 0 → ∃ Q7 : Int32 → zI → zR → zJ → Prop, Ci mX10_refuse d [.ref 0, .int (1 : Int32)] iv2 rv3 lv4 Q7 ∧ ∀ (v12 : Int32) (iv8 : zI) (rv9 : zR) (lv10 : zJ), Q7 v12 iv8 rv9 lv10 → zTop rv9 ∧ (Q v12 iv8 rv9 lv10)))) :
    Zi mX10_sort (d + 1) 0 [some (.ref 0), none, none] [] iv rv lv Q := by
  unfold Zi
  refine Z_aload_n (a := 0) (q := 1) (by decide +kernel) rfl rfl ?_
  obtain ⟨Q1, hm, h⟩ := h
  refine Z_callVi (M2 := mX10_noText) (idx := 136) (d2 := d) (ci := 10) (As := []) (q := 4) (by decide +kernel) kX10_noText lX10_136 rfl rfl (by decide) rfl rfl (by decide +kernel) (Nat.le_of_ble_eq_true rfl) (Nat.le_refl _) hm rfl (fun v6 iv2 rv3 lv4 hq => ?_)
  obtain ⟨hT5, h⟩ := h v6 iv2 rv3 lv4 hq
  refine Z_if_eq (t := 13) (off := 9) (q := 7) (by decide +kernel) (by decide) rfl (fun hc => ?_) (fun hc => ?_)
  · replace h := h.1 hc
    refine Z_iconst (a := 0) (v := 0) (q := 14) (by decide +kernel) (by decide +kernel) rfl ?_
    refine Z_istore_n (a := 1) (loc2 := [_, _, _]) (q := 15) (by decide +kernel) (by decide +kernel) rfl rfl rfl ?_
    refine Z_iconst (a := 0) (v := 0) (q := 16) (by decide +kernel) (by decide +kernel) rfl ?_
    refine Z_istore_n (a := 2) (loc2 := [_, _, _]) (q := 17) (by decide +kernel) (by decide +kernel) rfl rfl rfl ?_
    exact h
  · replace h := h.2 hc
    refine Z_aload_n (a := 0) (q := 8) (by decide +kernel) rfl rfl ?_
    refine Z_iconst (a := 1) (v := 1) (q := 9) (by decide +kernel) (by decide +kernel) rfl ?_
    obtain ⟨Q7, hm, h⟩ := h
    refine Z_callVi (M2 := mX10_refuse) (idx := 100) (d2 := d) (ci := 10) (As := [.int _]) (q := 12) (by decide +kernel) kX10_refuse lX10_100 rfl rfl (by decide) rfl rfl (by decide +kernel) (Nat.le_of_ble_eq_true rfl) (Nat.le_refl _) hm rfl (fun v12 iv8 rv9 lv10 hq => ?_)
    obtain ⟨hT11, h⟩ := h v12 iv8 rv9 lv10 hq
    exact Z_iret (ty := .int) (by decide +kernel) rfl rfl rfl ⟨_, rfl, h⟩
set_option maxRecDepth 4000 in
theorem bX10_sort_17 {d : Nat} (x1 : Int32) (x2 : Int32) {iv : zI} {rv : zR} {lv : zJ} {Q : Int32 → zI → zR → zJ → Prop} (hT : zTop rv) 
    (h : ((iv 8 0) ≤ x2 → ∃ Q1 : Nat → zI → zR → zJ → Prop, Cr mX2_keepAct d [.ref 13, .ref 8] iv rv lv Q1 ∧ ∀ (v6 : Nat) (iv2 : zI) (rv3 : zR) (lv4 : zJ), Q1 v6 iv2 rv3 lv4 → zTop rv3 ∧ v6 ∈ zSts ∧ (∃ Q7 : zI → zR → zJ → Prop, Cv mX9_layBySize d [.ref 8, .ref v6] iv2 rv3 lv4 Q7 ∧ ∀ (iv8 : zI) (rv9 : zR) (lv10 : zJ), Q7 iv8 rv9 lv10 → zTop rv9 ∧ (∃ Q13 : zI → zR → zJ → Prop, Cv mX10_changed d [.ref 0] iv8 rv9 lv10 Q13 ∧ ∀ (iv14 : zI) (rv15 : zR) (lv16 : zJ), Q13 iv14 rv15 lv16 → zTop rv15 ∧ (∃ Q19 : Int32 → zI → zR → zJ → Prop, Ci mX10_answer d [.ref 0, .int x1] iv14 rv15 lv16 Q19 ∧ ∀ (v24 : Int32) (iv20 : zI) (rv21 : zR) (lv22 : zJ), Q19 v24 iv20 rv21 lv22 → zTop rv21 ∧ (Q v24 iv20 rv21 lv22))))) ∧ (¬ (iv 8 0) ≤ x2 → vp_in x2 10 ∧ (((iv (8 + 4) x2.toNatClampNeg) = x2 → Zi mX10_sort (d + 1) 17 [some (.ref 0), some (.int x1), some (.int (x2 + 1))] [] iv rv lv Q) ∧ (¬ (iv (8 + 4) x2.toNatClampNeg) = x2 → Zi mX10_sort (d + 1) 17 [some (.ref 0), some (.int (x1 + 1)), some (.int (x2 + 1))] [] iv rv lv Q)))) :
    Zi mX10_sort (d + 1) 17 [some (.ref 0), some (.int x1), some (.int x2)] [] iv rv lv Q := by
  unfold Zi
  refine Z_iload_n (a := 2) (q := 18) (by decide +kernel) rfl rfl ?_
  refine Z_aload_n (a := 0) (q := 19) (by decide +kernel) rfl rfl ?_
  refine g10_1 (idx := 19) (q := 22) (by decide +kernel) fX10_19 rfl (by decide) (t10_1 hT) rfl ?_
  refine g9_0 (idx := 130) (q := 25) (by decide +kernel) fX10_130 (hS9_0 (by decide : 8 ∈ zSts)) (hL9_0 (by decide : 8 ∈ zSts)) rfl ?_
  refine Z_icmp_ge (t := 50) (off := 25) (q := 28) (by decide +kernel) (by decide) rfl (fun hc => ?_) (fun hc => ?_)
  · replace h := h.1 hc
    refine Z_aload_n (a := 0) (q := 51) (by decide +kernel) rfl rfl ?_
    refine g10_1 (idx := 19) (q := 54) (by decide +kernel) fX10_19 rfl (by decide) (t10_1 hT) rfl ?_
    refine Z_aload_n (a := 0) (q := 55) (by decide +kernel) rfl rfl ?_
    refine g10_2 (idx := 26) (q := 58) (by decide +kernel) fX10_26 rfl (by decide) (t10_2 hT) rfl ?_
    refine Z_aload_n (a := 0) (q := 59) (by decide +kernel) rfl rfl ?_
    refine g10_1 (idx := 19) (q := 62) (by decide +kernel) fX10_19 rfl (by decide) (t10_1 hT) rfl ?_
    obtain ⟨Q1, hm, h⟩ := h
    refine Z_callVr (M2 := mX2_keepAct) (idx := 309) (d2 := d) (ci := 2) (As := [.ref _]) (q := 65) (by decide +kernel) kX2_keepAct lX10_309 rfl rfl (by decide) rfl rfl (by decide +kernel) (Nat.le_of_ble_eq_true rfl) (Nat.le_refl _) hm rfl (fun v6 iv2 rv3 lv4 hq => ?_)
    obtain ⟨hT5, hmv6, h⟩ := h v6 iv2 rv3 lv4 hq
    obtain ⟨Q7, hm, h⟩ := h
    refine Z_callVv (M2 := mX9_layBySize) (idx := 327) (d2 := d) (ci := 9) (As := [.ref _]) (q := 68) (by decide +kernel) kX9_layBySize lX10_327 rfl (hS9_0 (by decide : 8 ∈ zSts)) (hL9_0 (by decide : 8 ∈ zSts)) rfl rfl (by decide +kernel) (Nat.le_of_ble_eq_true rfl) (Nat.le_refl _) hm rfl (fun iv8 rv9 lv10 hq => ?_)
    obtain ⟨hT11, h⟩ := h iv8 rv9 lv10 hq
    refine Z_aload_n (a := 0) (q := 69) (by decide +kernel) rfl rfl ?_
    obtain ⟨Q13, hm, h⟩ := h
    refine Z_callVv (M2 := mX10_changed) (idx := 127) (d2 := d) (ci := 10) (As := []) (q := 72) (by decide +kernel) kX10_changed lX10_127 rfl rfl (by decide) rfl rfl (by decide +kernel) (Nat.le_of_ble_eq_true rfl) (Nat.le_refl _) hm rfl (fun iv14 rv15 lv16 hq => ?_)
    obtain ⟨hT17, h⟩ := h iv14 rv15 lv16 hq
    refine Z_aload_n (a := 0) (q := 73) (by decide +kernel) rfl rfl ?_
    refine Z_iload_n (a := 1) (q := 74) (by decide +kernel) rfl rfl ?_
    obtain ⟨Q19, hm, h⟩ := h
    refine Z_callVi (M2 := mX10_answer) (idx := 133) (d2 := d) (ci := 10) (As := [.int _]) (q := 77) (by decide +kernel) kX10_answer lX10_133 rfl rfl (by decide) rfl rfl (by decide +kernel) (Nat.le_of_ble_eq_true rfl) (Nat.le_refl _) hm rfl (fun v24 iv20 rv21 lv22 hq => ?_)
    obtain ⟨hT23, h⟩ := h v24 iv20 rv21 lv22 hq
    exact Z_iret (ty := .int) (by decide +kernel) rfl rfl rfl ⟨_, rfl, h⟩
  · replace h := h.2 hc
    refine Z_aload_n (a := 0) (q := 29) (by decide +kernel) rfl rfl ?_
    refine g10_1 (idx := 19) (q := 32) (by decide +kernel) fX10_19 rfl (by decide) (t10_1 hT) rfl ?_
    refine g9_5 (idx := 160) (q := 35) (by decide +kernel) fX10_160 (hS9_0 (by decide : 8 ∈ zSts)) (hL9_0 (by decide : 8 ∈ zSts)) (t9_5 hT (by decide : 8 ∈ zSts)) rfl ?_
    refine Z_iload_n (a := 2) (q := 36) (by decide +kernel) rfl rfl ?_
    obtain ⟨hin25, h⟩ := h
    refine Z_iald (len := 10) (q := 37) (by decide +kernel) (hS9_4 (by decide : 8 ∈ zSts)) (hL9_4 (by decide : 8 ∈ zSts)) hin25 rfl ?_
    refine Z_iload_n (a := 2) (q := 38) (by decide +kernel) rfl rfl ?_
    refine Z_icmp_eq (t := 44) (off := 6) (q := 41) (by decide +kernel) (by decide) rfl (fun hc => ?_) (fun hc => ?_)
    · replace h := h.1 hc
      refine Z_iinc (a := 2) (b := 1) (v := _ + 1) (loc2 := [_, _, _]) (q := 47) (by decide +kernel) rfl (zinc _) (by decide +kernel) rfl rfl rfl ?_
      refine Z_goto (q := 17) (off := -30) (by decide +kernel) (by decide) ?_
      exact h
    · replace h := h.2 hc
      refine Z_iinc (a := 1) (b := 1) (v := _ + 1) (loc2 := [_, _, _]) (q := 44) (by decide +kernel) rfl (zinc _) (by decide +kernel) rfl rfl rfl ?_
      refine Z_iinc (a := 2) (b := 1) (v := _ + 1) (loc2 := [_, _, _]) (q := 47) (by decide +kernel) rfl (zinc _) (by decide +kernel) rfl rfl rfl ?_
      refine Z_goto (q := 17) (off := -30) (by decide +kernel) (by decide) ?_
      exact h
theorem eX10_heaps {d : Nat} (x1 : Int32) {iv : zI} {rv : zR} {lv : zJ} {Q : Int32 → zI → zR → zJ → Prop} (h : Zi mX10_heaps (d + 1) 0 [some (.ref 0), some (.int x1), none] [] iv rv lv Q) : Ci mX10_heaps (d + 1) [.ref 0, .int x1] iv rv lv Q := Ci.of (by decide +kernel) (by simp [Value.category]) (Nat.le_of_ble_eq_true rfl) rfl h
set_option maxRecDepth 4000 in
theorem bX10_heaps_0 {d : Nat} (x1 : Int32) {iv : zI} {rv : zR} {lv : zJ} {Q : Int32 → zI → zR → zJ → Prop} (hT : zTop rv) 
    (h : ∃ Q1 : Int32 → zI → zR → zJ → Prop, Ci mX10_noText d [.ref 0] iv rv lv Q1 ∧ ∀ (v6 : Int32) (iv2 : zI) (rv3 : zR) (lv4 : zJ), Q1 v6 iv2 rv3 lv4 → zTop rv3 ∧ (∃ Q7 : Int32 → zI → zR → zJ → Prop, Ci mX10_noSuchHeaps d [.int x1] iv2 rv3 lv4 Q7 ∧ ∀ (v12 : Int32) (iv8 : zI) (rv9 : zR) (lv10 : zJ), Q7 v12 iv8 rv9 lv10 → zTop rv9 ∧ (∃ Q13 : Int32 → zI → zR → zJ → Prop, Ci mX10_refused d [.ref 0, .int v6, .int v12] iv8 rv9 lv10 Q13 ∧ ∀ (v18 : Int32) (iv14 : zI) (rv15 : zR) (lv16 : zJ), Q13 v18 iv14 rv15 lv16 → zTop rv15 ∧ ((v18 = 0 → ∃ Q19 : Nat → zI → zR → zJ → Prop, Cr mX2_keepAct d [.ref 13, .ref 8] iv14 rv15 lv16 Q19 ∧ ∀ (v24 : Nat) (iv20 : zI) (rv21 : zR) (lv22 : zJ), Q19 v24 iv20 rv21 lv22 → zTop rv21 ∧ v24 ∈ zSts ∧ (∀ iv25 : zI, iv25 = zu iv20 8 1 x1 → ∃ Q26 : zI → zR → zJ → Prop, Cv mX10_changed d [.ref 0] iv25 rv21 lv22 Q26 ∧ ∀ (iv27 : zI) (rv28 : zR) (lv29 : zJ), Q26 iv27 rv28 lv29 → zTop rv28 ∧ (∃ Q32 : Int32 → zI → zR → zJ → Prop, Ci mX10_answer d [.ref 0, .int (iv14 8 1)] iv27 rv28 lv29 Q32 ∧ ∀ (v37 : Int32) (iv33 : zI) (rv34 : zR) (lv35 : zJ), Q32 v37 iv33 rv34 lv35 → zTop rv34 ∧ (Q v37 iv33 rv34 lv35)))) ∧ (¬ v18 = 0 → Q (-1 : Int32) iv14 rv15 lv16))))) :
    Zi mX10_heaps (d + 1) 0 [some (.ref 0), some (.int x1), none] [] iv rv lv Q := by
  unfold Zi
  refine Z_aload_n (a := 0) (q := 1) (by decide +kernel) rfl rfl ?_
  refine Z_aload_n (a := 0) (q := 2) (by decide +kernel) rfl rfl ?_
  obtain ⟨Q1, hm, h⟩ := h
  refine Z_callVi (M2 := mX10_noText) (idx := 136) (d2 := d) (ci := 10) (As := []) (q := 5) (by decide +kernel) kX10_noText lX10_136 rfl rfl (by decide) rfl rfl (by decide +kernel) (Nat.le_of_ble_eq_true rfl) (Nat.le_refl _) hm rfl (fun v6 iv2 rv3 lv4 hq => ?_)
  obtain ⟨hT5, h⟩ := h v6 iv2 rv3 lv4 hq
  refine Z_iload_n (a := 1) (q := 6) (by decide +kernel) rfl rfl ?_
  obtain ⟨Q7, hm, h⟩ := h
  refine Z_callSi (M2 := mX10_noSuchHeaps) (idx := 178) (d2 := d) (As := [.int _]) (q := 9) (by decide +kernel) kX10_noSuchHeaps lX10_178 rfl rfl (by decide +kernel) (Nat.le_of_ble_eq_true rfl) (Nat.le_refl _) hm rfl (fun v12 iv8 rv9 lv10 hq => ?_)
  obtain ⟨hT11, h⟩ := h v12 iv8 rv9 lv10 hq
  obtain ⟨Q13, hm, h⟩ := h
  refine Z_callVi (M2 := mX10_refused) (idx := 181) (d2 := d) (ci := 10) (As := [.int _, .int _]) (q := 12) (by decide +kernel) kX10_refused lX10_181 rfl rfl (by decide) rfl rfl (by decide +kernel) (Nat.le_of_ble_eq_true rfl) (Nat.le_refl _) hm rfl (fun v18 iv14 rv15 lv16 hq => ?_)
  obtain ⟨hT17, h⟩ := h v18 iv14 rv15 lv16 hq
  refine Z_if_eq (t := 17) (off := 5) (q := 15) (by decide +kernel) (by decide) rfl (fun hc => ?_) (fun hc => ?_)
  · replace h := h.1 hc
    refine Z_aload_n (a := 0) (q := 18) (by decide +kernel) rfl rfl ?_
    refine g10_1 (idx := 19) (q := 21) (by decide +kernel) fX10_19 rfl (by decide) (t10_1 hT17) rfl ?_
    refine g9_1 (idx := 140) (q := 24) (by decide +kernel) fX10_140 (hS9_0 (by decide : 8 ∈ zSts)) (hL9_0 (by decide : 8 ∈ zSts)) rfl ?_
    refine Z_istore_n (a := 2) (loc2 := [_, _, _]) (q := 25) (by decide +kernel) (by decide +kernel) rfl rfl rfl ?_
    refine Z_aload_n (a := 0) (q := 26) (by decide +kernel) rfl rfl ?_
    refine g10_2 (idx := 26) (q := 29) (by decide +kernel) fX10_26 rfl (by decide) (t10_2 hT17) rfl ?_
    refine Z_aload_n (a := 0) (q := 30) (by decide +kernel) rfl rfl ?_
    refine g10_1 (idx := 19) (q := 33) (by decide +kernel) fX10_19 rfl (by decide) (t10_1 hT17) rfl ?_
    obtain ⟨Q19, hm, h⟩ := h
    refine Z_callVr (M2 := mX2_keepAct) (idx := 309) (d2 := d) (ci := 2) (As := [.ref _]) (q := 36) (by decide +kernel) kX2_keepAct lX10_309 rfl rfl (by decide) rfl rfl (by decide +kernel) (Nat.le_of_ble_eq_true rfl) (Nat.le_refl _) hm rfl (fun v24 iv20 rv21 lv22 hq => ?_)
    obtain ⟨hT23, hmv24, h⟩ := h v24 iv20 rv21 lv22 hq
    refine Z_pop (q := 37) (by decide +kernel) rfl rfl ?_
    refine Z_aload_n (a := 0) (q := 38) (by decide +kernel) rfl rfl ?_
    refine g10_1 (idx := 19) (q := 41) (by decide +kernel) fX10_19 rfl (by decide) (t10_1 hT23) rfl ?_
    refine Z_iload_n (a := 1) (q := 42) (by decide +kernel) rfl rfl ?_
    refine p9_1 (idx := 140) (q := 45) (by decide +kernel) fX10_140 (hS9_0 (by decide : 8 ∈ zSts)) (hL9_0 (by decide : 8 ∈ zSts)) rfl ?_
    replace h := h _ rfl
    refine Z_aload_n (a := 0) (q := 46) (by decide +kernel) rfl rfl ?_
    obtain ⟨Q26, hm, h⟩ := h
    refine Z_callVv (M2 := mX10_changed) (idx := 127) (d2 := d) (ci := 10) (As := []) (q := 49) (by decide +kernel) kX10_changed lX10_127 rfl rfl (by decide) rfl rfl (by decide +kernel) (Nat.le_of_ble_eq_true rfl) (Nat.le_refl _) hm rfl (fun iv27 rv28 lv29 hq => ?_)
    obtain ⟨hT30, h⟩ := h iv27 rv28 lv29 hq
    refine Z_aload_n (a := 0) (q := 50) (by decide +kernel) rfl rfl ?_
    refine Z_iload_n (a := 2) (q := 51) (by decide +kernel) rfl rfl ?_
    obtain ⟨Q32, hm, h⟩ := h
    refine Z_callVi (M2 := mX10_answer) (idx := 133) (d2 := d) (ci := 10) (As := [.int _]) (q := 54) (by decide +kernel) kX10_answer lX10_133 rfl rfl (by decide) rfl rfl (by decide +kernel) (Nat.le_of_ble_eq_true rfl) (Nat.le_refl _) hm rfl (fun v37 iv33 rv34 lv35 hq => ?_)
    obtain ⟨hT36, h⟩ := h v37 iv33 rv34 lv35 hq
    exact Z_iret (ty := .int) (by decide +kernel) rfl rfl rfl ⟨_, rfl, h⟩
  · replace h := h.2 hc
    refine Z_iconst (a := -1) (v := -1) (q := 16) (by decide +kernel) (by decide +kernel) rfl ?_
    exact Z_iret (ty := .int) (by decide +kernel) rfl rfl rfl ⟨_, rfl, h⟩
theorem eX10_undo {d : Nat}  {iv : zI} {rv : zR} {lv : zJ} {Q : Int32 → zI → zR → zJ → Prop} (h : Zi mX10_undo (d + 1) 0 [some (.ref 0)] [] iv rv lv Q) : Ci mX10_undo (d + 1) [.ref 0] iv rv lv Q := Ci.of (by decide +kernel) (by simp [Value.category]) (Nat.le_of_ble_eq_true rfl) rfl h
set_option maxRecDepth 4000 in
theorem bX10_undo_0 {d : Nat}  {iv : zI} {rv : zR} {lv : zJ} {Q : Int32 → zI → zR → zJ → Prop} (hT : zTop rv) 
    (h : ∃ Q1 : Int32 → zI → zR → zJ → Prop, Ci mX10_noText d [.ref 0] iv rv lv Q1 ∧ ∀ (v6 : Int32) (iv2 : zI) (rv3 : zR) (lv4 : zJ), Q1 v6 iv2 rv3 lv4 → zTop rv3 ∧ ((v6 = 0 → (¬ (iv2 13 2) = 0 → ∃ Q7 : zI → zR → zJ → Prop, Cv mX2_takeBack d [.ref 13, .ref 8] iv2 rv3 lv4 Q7 ∧ ∀ (iv8 : zI) (rv9 : zR) (lv10 : zJ), Q7 iv8 rv9 lv10 → zTop rv9 ∧ (∃ Q13 : zI → zR → zJ → Prop, Cv mX10_changed d [.ref 0] iv8 rv9 lv10 Q13 ∧ ∀ (iv14 : zI) (rv15 : zR) (lv16 : zJ), Q13 iv14 rv15 lv16 → zTop rv15 ∧ (∃ Q19 : Int32 → zI → zR → zJ → Prop, Ci mX10_answer d [.ref 0, .int (iv14 13 2)] iv14 rv15 lv16 Q19 ∧ ∀ (v24 : Int32) (iv20 : zI) (rv21 : zR) (lv22 : zJ), Q19 v24 iv20 rv21 lv22 → zTop rv21 ∧ (Q v24 iv20 rv21 lv22)))) ∧ ((iv2 13 2) = 0 → ∃ Q25 : Int32 → zI → zR → zJ → Prop, Ci mX10_refuse d [.ref 0, .int (5 : Int32)] iv2 rv3 lv4 Q25 ∧ ∀ (v30 : Int32) (iv26 : zI) (rv27 : zR) (lv28 : zJ), Q25 v30 iv26 rv27 lv28 → zTop rv27 ∧ (Q v30 iv26 rv27 lv28))) ∧ (¬ v6 = 0 → ∃ Q31 : Int32 → zI → zR → zJ → Prop, Ci mX10_refuse d [.ref 0, .int (1 : Int32)] iv2 rv3 lv4 Q31 ∧ ∀ (v36 : Int32) (iv32 : zI) (rv33 : zR) (lv34 : zJ), Q31 v36 iv32 rv33 lv34 → zTop rv33 ∧ (Q v36 iv32 rv33 lv34)))) :
    Zi mX10_undo (d + 1) 0 [some (.ref 0)] [] iv rv lv Q := by
  unfold Zi
  refine Z_aload_n (a := 0) (q := 1) (by decide +kernel) rfl rfl ?_
  obtain ⟨Q1, hm, h⟩ := h
  refine Z_callVi (M2 := mX10_noText) (idx := 136) (d2 := d) (ci := 10) (As := []) (q := 4) (by decide +kernel) kX10_noText lX10_136 rfl rfl (by decide) rfl rfl (by decide +kernel) (Nat.le_of_ble_eq_true rfl) (Nat.le_refl _) hm rfl (fun v6 iv2 rv3 lv4 hq => ?_)
  obtain ⟨hT5, h⟩ := h v6 iv2 rv3 lv4 hq
  refine Z_if_eq (t := 13) (off := 9) (q := 7) (by decide +kernel) (by decide) rfl (fun hc => ?_) (fun hc => ?_)
  · replace h := h.1 hc
    refine Z_aload_n (a := 0) (q := 14) (by decide +kernel) rfl rfl ?_
    refine g10_2 (idx := 26) (q := 17) (by decide +kernel) fX10_26 rfl (by decide) (t10_2 hT5) rfl ?_
    refine g2_2 (idx := 153) (q := 20) (by decide +kernel) fX10_153 rfl (by decide) rfl ?_
    refine Z_if_ne (t := 29) (off := 9) (q := 23) (by decide +kernel) (by decide) rfl (fun hc => ?_) (fun hc => ?_)
    · replace h := h.1 hc
      refine Z_aload_n (a := 0) (q := 30) (by decide +kernel) rfl rfl ?_
      refine g10_2 (idx := 26) (q := 33) (by decide +kernel) fX10_26 rfl (by decide) (t10_2 hT5) rfl ?_
      refine Z_aload_n (a := 0) (q := 34) (by decide +kernel) rfl rfl ?_
      refine g10_1 (idx := 19) (q := 37) (by decide +kernel) fX10_19 rfl (by decide) (t10_1 hT5) rfl ?_
      obtain ⟨Q7, hm, h⟩ := h
      refine Z_callVv (M2 := mX2_takeBack) (idx := 330) (d2 := d) (ci := 2) (As := [.ref _]) (q := 40) (by decide +kernel) kX2_takeBack lX10_330 rfl rfl (by decide) rfl rfl (by decide +kernel) (Nat.le_of_ble_eq_true rfl) (Nat.le_refl _) hm rfl (fun iv8 rv9 lv10 hq => ?_)
      obtain ⟨hT11, h⟩ := h iv8 rv9 lv10 hq
      refine Z_aload_n (a := 0) (q := 41) (by decide +kernel) rfl rfl ?_
      obtain ⟨Q13, hm, h⟩ := h
      refine Z_callVv (M2 := mX10_changed) (idx := 127) (d2 := d) (ci := 10) (As := []) (q := 44) (by decide +kernel) kX10_changed lX10_127 rfl rfl (by decide) rfl rfl (by decide +kernel) (Nat.le_of_ble_eq_true rfl) (Nat.le_refl _) hm rfl (fun iv14 rv15 lv16 hq => ?_)
      obtain ⟨hT17, h⟩ := h iv14 rv15 lv16 hq
      refine Z_aload_n (a := 0) (q := 45) (by decide +kernel) rfl rfl ?_
      refine Z_aload_n (a := 0) (q := 46) (by decide +kernel) rfl rfl ?_
      refine g10_2 (idx := 26) (q := 49) (by decide +kernel) fX10_26 rfl (by decide) (t10_2 hT17) rfl ?_
      refine g2_2 (idx := 153) (q := 52) (by decide +kernel) fX10_153 rfl (by decide) rfl ?_
      obtain ⟨Q19, hm, h⟩ := h
      refine Z_callVi (M2 := mX10_answer) (idx := 133) (d2 := d) (ci := 10) (As := [.int _]) (q := 55) (by decide +kernel) kX10_answer lX10_133 rfl rfl (by decide) rfl rfl (by decide +kernel) (Nat.le_of_ble_eq_true rfl) (Nat.le_refl _) hm rfl (fun v24 iv20 rv21 lv22 hq => ?_)
      obtain ⟨hT23, h⟩ := h v24 iv20 rv21 lv22 hq
      exact Z_iret (ty := .int) (by decide +kernel) rfl rfl rfl ⟨_, rfl, h⟩
    · replace h := h.2 hc
      refine Z_aload_n (a := 0) (q := 24) (by decide +kernel) rfl rfl ?_
      refine Z_iconst (a := 5) (v := 5) (q := 25) (by decide +kernel) (by decide +kernel) rfl ?_
      obtain ⟨Q25, hm, h⟩ := h
      refine Z_callVi (M2 := mX10_refuse) (idx := 100) (d2 := d) (ci := 10) (As := [.int _]) (q := 28) (by decide +kernel) kX10_refuse lX10_100 rfl rfl (by decide) rfl rfl (by decide +kernel) (Nat.le_of_ble_eq_true rfl) (Nat.le_refl _) hm rfl (fun v30 iv26 rv27 lv28 hq => ?_)
      obtain ⟨hT29, h⟩ := h v30 iv26 rv27 lv28 hq
      exact Z_iret (ty := .int) (by decide +kernel) rfl rfl rfl ⟨_, rfl, h⟩
  · replace h := h.2 hc
    refine Z_aload_n (a := 0) (q := 8) (by decide +kernel) rfl rfl ?_
    refine Z_iconst (a := 1) (v := 1) (q := 9) (by decide +kernel) (by decide +kernel) rfl ?_
    obtain ⟨Q31, hm, h⟩ := h
    refine Z_callVi (M2 := mX10_refuse) (idx := 100) (d2 := d) (ci := 10) (As := [.int _]) (q := 12) (by decide +kernel) kX10_refuse lX10_100 rfl rfl (by decide) rfl rfl (by decide +kernel) (Nat.le_of_ble_eq_true rfl) (Nat.le_refl _) hm rfl (fun v36 iv32 rv33 lv34 hq => ?_)
    obtain ⟨hT35, h⟩ := h v36 iv32 rv33 lv34 hq
    exact Z_iret (ty := .int) (by decide +kernel) rfl rfl rfl ⟨_, rfl, h⟩
theorem eX10_image {d : Nat} (x1 : Int32) {iv : zI} {rv : zR} {lv : zJ} {Q : Int32 → zI → zR → zJ → Prop} (h : Zi mX10_image (d + 1) 0 [some (.ref 0), some (.int x1)] [] iv rv lv Q) : Ci mX10_image (d + 1) [.ref 0, .int x1] iv rv lv Q := Ci.of (by decide +kernel) (by simp [Value.category]) (Nat.le_of_ble_eq_true rfl) rfl h
set_option maxRecDepth 4000 in
theorem bX10_image_0 {d : Nat} (x1 : Int32) {iv : zI} {rv : zR} {lv : zJ} {Q : Int32 → zI → zR → zJ → Prop} (hT : zTop rv) 
    (h : ∃ Q1 : Int32 → zI → zR → zJ → Prop, Ci mX10_noText d [.ref 0] iv rv lv Q1 ∧ ∀ (v6 : Int32) (iv2 : zI) (rv3 : zR) (lv4 : zJ), Q1 v6 iv2 rv3 lv4 → zTop rv3 ∧ ((¬ v6 = 0 → ∃ Q7 : Int32 → zI → zR → zJ → Prop, Ci mX10_refuse d [.ref 0, .int (1 : Int32)] iv2 rv3 lv4 Q7 ∧ ∀ (v12 : Int32) (iv8 : zI) (rv9 : zR) (lv10 : zJ), Q7 v12 iv8 rv9 lv10 → zTop rv9 ∧ (Q (0 : Int32) iv8 rv9 lv10)) ∧ (v6 = 0 → (x1 < 0 → ∃ Q13 : Int32 → zI → zR → zJ → Prop, Ci mX10_refuse d [.ref 0, .int (1 : Int32)] iv2 rv3 lv4 Q13 ∧ ∀ (v18 : Int32) (iv14 : zI) (rv15 : zR) (lv16 : zJ), Q13 v18 iv14 rv15 lv16 → zTop rv15 ∧ (Q (0 : Int32) iv14 rv15 lv16)) ∧ (¬ x1 < 0 → (x1 < (2 : Int32) → vp_in x1 2 ∧ (∃ r20 : Nat, rv3 15 x1.toNatClampNeg = some r20 ∧ r20 ∈ zSts ∧ (∃ Q21 : zI → zR → zJ → Prop, Cv mX9_copyFrom d [.ref r20, .ref 8] iv2 rv3 lv4 Q21 ∧ ∀ (iv22 : zI) (rv23 : zR) (lv24 : zJ), Q21 iv22 rv23 lv24 → zTop rv23 ∧ (∃ Q27 : Int32 → zI → zR → zJ → Prop, Ci mX10_answer d [.ref 0, .int x1] iv22 rv23 lv24 Q27 ∧ ∀ (v32 : Int32) (iv28 : zI) (rv29 : zR) (lv30 : zJ), Q27 v32 iv28 rv29 lv30 → zTop rv29 ∧ (Q (1 : Int32) iv28 rv29 lv30))))) ∧ (¬ x1 < (2 : Int32) → ∃ Q33 : Int32 → zI → zR → zJ → Prop, Ci mX10_refuse d [.ref 0, .int (1 : Int32)] iv2 rv3 lv4 Q33 ∧ ∀ (v38 : Int32) (iv34 : zI) (rv35 : zR) (lv36 : zJ), Q33 v38 iv34 rv35 lv36 → zTop rv35 ∧ (Q (0 : Int32) iv34 rv35 lv36)))))) :
    Zi mX10_image (d + 1) 0 [some (.ref 0), some (.int x1)] [] iv rv lv Q := by
  unfold Zi
  refine Z_aload_n (a := 0) (q := 1) (by decide +kernel) rfl rfl ?_
  obtain ⟨Q1, hm, h⟩ := h
  refine Z_callVi (M2 := mX10_noText) (idx := 136) (d2 := d) (ci := 10) (As := []) (q := 4) (by decide +kernel) kX10_noText lX10_136 rfl rfl (by decide) rfl rfl (by decide +kernel) (Nat.le_of_ble_eq_true rfl) (Nat.le_refl _) hm rfl (fun v6 iv2 rv3 lv4 hq => ?_)
  obtain ⟨hT5, h⟩ := h v6 iv2 rv3 lv4 hq
  refine Z_if_ne (t := 16) (off := 12) (q := 7) (by decide +kernel) (by decide) rfl (fun hc => ?_) (fun hc => ?_)
  · replace h := h.1 hc
    refine Z_aload_n (a := 0) (q := 17) (by decide +kernel) rfl rfl ?_
    refine Z_iconst (a := 1) (v := 1) (q := 18) (by decide +kernel) (by decide +kernel) rfl ?_
    obtain ⟨Q7, hm, h⟩ := h
    refine Z_callVi (M2 := mX10_refuse) (idx := 100) (d2 := d) (ci := 10) (As := [.int _]) (q := 21) (by decide +kernel) kX10_refuse lX10_100 rfl rfl (by decide) rfl rfl (by decide +kernel) (Nat.le_of_ble_eq_true rfl) (Nat.le_refl _) hm rfl (fun v12 iv8 rv9 lv10 hq => ?_)
    obtain ⟨hT11, h⟩ := h v12 iv8 rv9 lv10 hq
    refine Z_pop (q := 22) (by decide +kernel) rfl rfl ?_
    refine Z_iconst (a := 0) (v := 0) (q := 23) (by decide +kernel) (by decide +kernel) rfl ?_
    exact Z_iret (ty := .boolean) (by decide +kernel) rfl rfl rfl ⟨_, rfl, h⟩
  · replace h := h.2 hc
    refine Z_iload_n (a := 1) (q := 8) (by decide +kernel) rfl rfl ?_
    refine Z_if_lt (t := 16) (off := 8) (q := 11) (by decide +kernel) (by decide) rfl (fun hc => ?_) (fun hc => ?_)
    · replace h := h.1 hc
      refine Z_aload_n (a := 0) (q := 17) (by decide +kernel) rfl rfl ?_
      refine Z_iconst (a := 1) (v := 1) (q := 18) (by decide +kernel) (by decide +kernel) rfl ?_
      obtain ⟨Q13, hm, h⟩ := h
      refine Z_callVi (M2 := mX10_refuse) (idx := 100) (d2 := d) (ci := 10) (As := [.int _]) (q := 21) (by decide +kernel) kX10_refuse lX10_100 rfl rfl (by decide) rfl rfl (by decide +kernel) (Nat.le_of_ble_eq_true rfl) (Nat.le_refl _) hm rfl (fun v18 iv14 rv15 lv16 hq => ?_)
      obtain ⟨hT17, h⟩ := h v18 iv14 rv15 lv16 hq
      refine Z_pop (q := 22) (by decide +kernel) rfl rfl ?_
      refine Z_iconst (a := 0) (v := 0) (q := 23) (by decide +kernel) (by decide +kernel) rfl ?_
      exact Z_iret (ty := .boolean) (by decide +kernel) rfl rfl rfl ⟨_, rfl, h⟩
    · replace h := h.2 hc
      refine Z_iload_n (a := 1) (q := 12) (by decide +kernel) rfl rfl ?_
      refine Z_iconst (a := 2) (v := 2) (q := 13) (by decide +kernel) (by decide +kernel) rfl ?_
      refine Z_icmp_lt (t := 24) (off := 11) (q := 16) (by decide +kernel) (by decide) rfl (fun hc => ?_) (fun hc => ?_)
      · replace h := h.1 hc
        refine Z_aload_n (a := 0) (q := 25) (by decide +kernel) rfl rfl ?_
        refine g10_2 (idx := 26) (q := 28) (by decide +kernel) fX10_26 rfl (by decide) (t10_2 hT5) rfl ?_
        refine g2_3 (idx := 333) (q := 31) (by decide +kernel) fX10_333 rfl (by decide) (t2_3 hT5) rfl ?_
        refine Z_iload_n (a := 1) (q := 32) (by decide +kernel) rfl rfl ?_
        obtain ⟨hin19, h⟩ := h
        obtain ⟨r20, hr, hmr20, h⟩ := h
        refine Z_aald (len := 2) (t := 4) (r := r20) (q := 33) (by decide +kernel) rfl (by decide) (by decide) (by decide) hin19 hr rfl ?_
        refine Z_aload_n (a := 0) (q := 34) (by decide +kernel) rfl rfl ?_
        refine g10_1 (idx := 19) (q := 37) (by decide +kernel) fX10_19 rfl (by decide) (t10_1 hT5) rfl ?_
        obtain ⟨Q21, hm, h⟩ := h
        refine Z_callVv (M2 := mX9_copyFrom) (idx := 117) (d2 := d) (ci := 9) (As := [.ref _]) (q := 40) (by decide +kernel) kX9_copyFrom lX10_117 rfl (hS9_0 hmr20) (hL9_0 hmr20) rfl rfl (by decide +kernel) (Nat.le_of_ble_eq_true rfl) (Nat.le_refl _) hm rfl (fun iv22 rv23 lv24 hq => ?_)
        obtain ⟨hT25, h⟩ := h iv22 rv23 lv24 hq
        refine Z_aload_n (a := 0) (q := 41) (by decide +kernel) rfl rfl ?_
        refine Z_iload_n (a := 1) (q := 42) (by decide +kernel) rfl rfl ?_
        obtain ⟨Q27, hm, h⟩ := h
        refine Z_callVi (M2 := mX10_answer) (idx := 133) (d2 := d) (ci := 10) (As := [.int _]) (q := 45) (by decide +kernel) kX10_answer lX10_133 rfl rfl (by decide) rfl rfl (by decide +kernel) (Nat.le_of_ble_eq_true rfl) (Nat.le_refl _) hm rfl (fun v32 iv28 rv29 lv30 hq => ?_)
        obtain ⟨hT31, h⟩ := h v32 iv28 rv29 lv30 hq
        refine Z_pop (q := 46) (by decide +kernel) rfl rfl ?_
        refine Z_iconst (a := 1) (v := 1) (q := 47) (by decide +kernel) (by decide +kernel) rfl ?_
        exact Z_iret (ty := .boolean) (by decide +kernel) rfl rfl rfl ⟨_, rfl, h⟩
      · replace h := h.2 hc
        refine Z_aload_n (a := 0) (q := 17) (by decide +kernel) rfl rfl ?_
        refine Z_iconst (a := 1) (v := 1) (q := 18) (by decide +kernel) (by decide +kernel) rfl ?_
        obtain ⟨Q33, hm, h⟩ := h
        refine Z_callVi (M2 := mX10_refuse) (idx := 100) (d2 := d) (ci := 10) (As := [.int _]) (q := 21) (by decide +kernel) kX10_refuse lX10_100 rfl rfl (by decide) rfl rfl (by decide +kernel) (Nat.le_of_ble_eq_true rfl) (Nat.le_refl _) hm rfl (fun v38 iv34 rv35 lv36 hq => ?_)
        obtain ⟨hT37, h⟩ := h v38 iv34 rv35 lv36 hq
        refine Z_pop (q := 22) (by decide +kernel) rfl rfl ?_
        refine Z_iconst (a := 0) (v := 0) (q := 23) (by decide +kernel) (by decide +kernel) rfl ?_
        exact Z_iret (ty := .boolean) (by decide +kernel) rfl rfl rfl ⟨_, rfl, h⟩
theorem eX10_back {d : Nat} (x1 : Int32) {iv : zI} {rv : zR} {lv : zJ} {Q : Int32 → zI → zR → zJ → Prop} (h : Zi mX10_back (d + 1) 0 [some (.ref 0), some (.int x1)] [] iv rv lv Q) : Ci mX10_back (d + 1) [.ref 0, .int x1] iv rv lv Q := Ci.of (by decide +kernel) (by simp [Value.category]) (Nat.le_of_ble_eq_true rfl) rfl h
set_option maxRecDepth 4000 in
theorem bX10_back_0 {d : Nat} (x1 : Int32) {iv : zI} {rv : zR} {lv : zJ} {Q : Int32 → zI → zR → zJ → Prop} (hT : zTop rv) 
    (h : (x1 < 0 → ∃ Q1 : Int32 → zI → zR → zJ → Prop, Ci mX10_refuse d [.ref 0, .int (1 : Int32)] iv rv lv Q1 ∧ ∀ (v6 : Int32) (iv2 : zI) (rv3 : zR) (lv4 : zJ), Q1 v6 iv2 rv3 lv4 → zTop rv3 ∧ (Q (0 : Int32) iv2 rv3 lv4)) ∧ (¬ x1 < 0 → ((2 : Int32) ≤ x1 → ∃ Q7 : Int32 → zI → zR → zJ → Prop, Ci mX10_refuse d [.ref 0, .int (1 : Int32)] iv rv lv Q7 ∧ ∀ (v12 : Int32) (iv8 : zI) (rv9 : zR) (lv10 : zJ), Q7 v12 iv8 rv9 lv10 → zTop rv9 ∧ (Q (0 : Int32) iv8 rv9 lv10)) ∧ (¬ (2 : Int32) ≤ x1 → vp_in x1 2 ∧ (∃ r14 : Nat, rv 15 x1.toNatClampNeg = some r14 ∧ r14 ∈ zSts ∧ ((¬ (iv r14 0) = 0 → ∃ r15 : Nat, rv 15 x1.toNatClampNeg = some r15 ∧ r15 ∈ zSts ∧ (∃ Q16 : zI → zR → zJ → Prop, Cv mX9_copyFrom d [.ref 8, .ref r15] iv rv lv Q16 ∧ ∀ (iv17 : zI) (rv18 : zR) (lv19 : zJ), Q16 iv17 rv18 lv19 → zTop rv18 ∧ (∃ Q22 : zI → zR → zJ → Prop, Cv mX2_forgetActs d [.ref 13] iv17 rv18 lv19 Q22 ∧ ∀ (iv23 : zI) (rv24 : zR) (lv25 : zJ), Q22 iv23 rv24 lv25 → zTop rv24 ∧ (∃ Q28 : zI → zR → zJ → Prop, Cv mX10_changed d [.ref 0] iv23 rv24 lv25 Q28 ∧ ∀ (iv29 : zI) (rv30 : zR) (lv31 : zJ), Q28 iv29 rv30 lv31 → zTop rv30 ∧ (∃ Q34 : Int32 → zI → zR → zJ → Prop, Ci mX10_answer d [.ref 0, .int x1] iv29 rv30 lv31 Q34 ∧ ∀ (v39 : Int32) (iv35 : zI) (rv36 : zR) (lv37 : zJ), Q34 v39 iv35 rv36 lv37 → zTop rv36 ∧ (Q (1 : Int32) iv35 rv36 lv37)))))) ∧ ((iv r14 0) = 0 → ∃ Q40 : Int32 → zI → zR → zJ → Prop, Ci mX10_refuse d [.ref 0, .int (1 : Int32)] iv rv lv Q40 ∧ ∀ (v45 : Int32) (iv41 : zI) (rv42 : zR) (lv43 : zJ), Q40 v45 iv41 rv42 lv43 → zTop rv42 ∧ (Q (0 : Int32) iv41 rv42 lv43))))))) :
    Zi mX10_back (d + 1) 0 [some (.ref 0), some (.int x1)] [] iv rv lv Q := by
  unfold Zi
  refine Z_iload_n (a := 1) (q := 1) (by decide +kernel) rfl rfl ?_
  refine Z_if_lt (t := 24) (off := 23) (q := 4) (by decide +kernel) (by decide) rfl (fun hc => ?_) (fun hc => ?_)
  · replace h := h.1 hc
    refine Z_aload_n (a := 0) (q := 25) (by decide +kernel) rfl rfl ?_
    refine Z_iconst (a := 1) (v := 1) (q := 26) (by decide +kernel) (by decide +kernel) rfl ?_
    obtain ⟨Q1, hm, h⟩ := h
    refine Z_callVi (M2 := mX10_refuse) (idx := 100) (d2 := d) (ci := 10) (As := [.int _]) (q := 29) (by decide +kernel) kX10_refuse lX10_100 rfl rfl (by decide) rfl rfl (by decide +kernel) (Nat.le_of_ble_eq_true rfl) (Nat.le_refl _) hm rfl (fun v6 iv2 rv3 lv4 hq => ?_)
    obtain ⟨hT5, h⟩ := h v6 iv2 rv3 lv4 hq
    refine Z_pop (q := 30) (by decide +kernel) rfl rfl ?_
    refine Z_iconst (a := 0) (v := 0) (q := 31) (by decide +kernel) (by decide +kernel) rfl ?_
    exact Z_iret (ty := .boolean) (by decide +kernel) rfl rfl rfl ⟨_, rfl, h⟩
  · replace h := h.2 hc
    refine Z_iload_n (a := 1) (q := 5) (by decide +kernel) rfl rfl ?_
    refine Z_iconst (a := 2) (v := 2) (q := 6) (by decide +kernel) (by decide +kernel) rfl ?_
    refine Z_icmp_ge (t := 24) (off := 18) (q := 9) (by decide +kernel) (by decide) rfl (fun hc => ?_) (fun hc => ?_)
    · replace h := h.1 hc
      refine Z_aload_n (a := 0) (q := 25) (by decide +kernel) rfl rfl ?_
      refine Z_iconst (a := 1) (v := 1) (q := 26) (by decide +kernel) (by decide +kernel) rfl ?_
      obtain ⟨Q7, hm, h⟩ := h
      refine Z_callVi (M2 := mX10_refuse) (idx := 100) (d2 := d) (ci := 10) (As := [.int _]) (q := 29) (by decide +kernel) kX10_refuse lX10_100 rfl rfl (by decide) rfl rfl (by decide +kernel) (Nat.le_of_ble_eq_true rfl) (Nat.le_refl _) hm rfl (fun v12 iv8 rv9 lv10 hq => ?_)
      obtain ⟨hT11, h⟩ := h v12 iv8 rv9 lv10 hq
      refine Z_pop (q := 30) (by decide +kernel) rfl rfl ?_
      refine Z_iconst (a := 0) (v := 0) (q := 31) (by decide +kernel) (by decide +kernel) rfl ?_
      exact Z_iret (ty := .boolean) (by decide +kernel) rfl rfl rfl ⟨_, rfl, h⟩
    · replace h := h.2 hc
      refine Z_aload_n (a := 0) (q := 10) (by decide +kernel) rfl rfl ?_
      refine g10_2 (idx := 26) (q := 13) (by decide +kernel) fX10_26 rfl (by decide) (t10_2 hT) rfl ?_
      refine g2_3 (idx := 333) (q := 16) (by decide +kernel) fX10_333 rfl (by decide) (t2_3 hT) rfl ?_
      refine Z_iload_n (a := 1) (q := 17) (by decide +kernel) rfl rfl ?_
      obtain ⟨hin13, h⟩ := h
      obtain ⟨r14, hr, hmr14, h⟩ := h
      refine Z_aald (len := 2) (t := 4) (r := r14) (q := 18) (by decide +kernel) rfl (by decide) (by decide) (by decide) hin13 hr rfl ?_
      refine g9_0 (idx := 130) (q := 21) (by decide +kernel) fX10_130 (hS9_0 hmr14) (hL9_0 hmr14) rfl ?_
      refine Z_if_ne (t := 32) (off := 11) (q := 24) (by decide +kernel) (by decide) rfl (fun hc => ?_) (fun hc => ?_)
      · replace h := h.1 hc
        refine Z_aload_n (a := 0) (q := 33) (by decide +kernel) rfl rfl ?_
        refine g10_1 (idx := 19) (q := 36) (by decide +kernel) fX10_19 rfl (by decide) (t10_1 hT) rfl ?_
        refine Z_aload_n (a := 0) (q := 37) (by decide +kernel) rfl rfl ?_
        refine g10_2 (idx := 26) (q := 40) (by decide +kernel) fX10_26 rfl (by decide) (t10_2 hT) rfl ?_
        refine g2_3 (idx := 333) (q := 43) (by decide +kernel) fX10_333 rfl (by decide) (t2_3 hT) rfl ?_
        refine Z_iload_n (a := 1) (q := 44) (by decide +kernel) rfl rfl ?_
        obtain ⟨r15, hr, hmr15, h⟩ := h
        refine Z_aald (len := 2) (t := 4) (r := r15) (q := 45) (by decide +kernel) rfl (by decide) (by decide) (by decide) hin13 hr rfl ?_
        obtain ⟨Q16, hm, h⟩ := h
        refine Z_callVv (M2 := mX9_copyFrom) (idx := 117) (d2 := d) (ci := 9) (As := [.ref _]) (q := 48) (by decide +kernel) kX9_copyFrom lX10_117 rfl (hS9_0 (by decide : 8 ∈ zSts)) (hL9_0 (by decide : 8 ∈ zSts)) rfl rfl (by decide +kernel) (Nat.le_of_ble_eq_true rfl) (Nat.le_refl _) hm rfl (fun iv17 rv18 lv19 hq => ?_)
        obtain ⟨hT20, h⟩ := h iv17 rv18 lv19 hq
        refine Z_aload_n (a := 0) (q := 49) (by decide +kernel) rfl rfl ?_
        refine g10_2 (idx := 26) (q := 52) (by decide +kernel) fX10_26 rfl (by decide) (t10_2 hT20) rfl ?_
        obtain ⟨Q22, hm, h⟩ := h
        refine Z_callVv (M2 := mX2_forgetActs) (idx := 121) (d2 := d) (ci := 2) (As := []) (q := 55) (by decide +kernel) kX2_forgetActs lX10_121 rfl rfl (by decide) rfl rfl (by decide +kernel) (Nat.le_of_ble_eq_true rfl) (Nat.le_refl _) hm rfl (fun iv23 rv24 lv25 hq => ?_)
        obtain ⟨hT26, h⟩ := h iv23 rv24 lv25 hq
        refine Z_aload_n (a := 0) (q := 56) (by decide +kernel) rfl rfl ?_
        obtain ⟨Q28, hm, h⟩ := h
        refine Z_callVv (M2 := mX10_changed) (idx := 127) (d2 := d) (ci := 10) (As := []) (q := 59) (by decide +kernel) kX10_changed lX10_127 rfl rfl (by decide) rfl rfl (by decide +kernel) (Nat.le_of_ble_eq_true rfl) (Nat.le_refl _) hm rfl (fun iv29 rv30 lv31 hq => ?_)
        obtain ⟨hT32, h⟩ := h iv29 rv30 lv31 hq
        refine Z_aload_n (a := 0) (q := 60) (by decide +kernel) rfl rfl ?_
        refine Z_iload_n (a := 1) (q := 61) (by decide +kernel) rfl rfl ?_
        obtain ⟨Q34, hm, h⟩ := h
        refine Z_callVi (M2 := mX10_answer) (idx := 133) (d2 := d) (ci := 10) (As := [.int _]) (q := 64) (by decide +kernel) kX10_answer lX10_133 rfl rfl (by decide) rfl rfl (by decide +kernel) (Nat.le_of_ble_eq_true rfl) (Nat.le_refl _) hm rfl (fun v39 iv35 rv36 lv37 hq => ?_)
        obtain ⟨hT38, h⟩ := h v39 iv35 rv36 lv37 hq
        refine Z_pop (q := 65) (by decide +kernel) rfl rfl ?_
        refine Z_iconst (a := 1) (v := 1) (q := 66) (by decide +kernel) (by decide +kernel) rfl ?_
        exact Z_iret (ty := .boolean) (by decide +kernel) rfl rfl rfl ⟨_, rfl, h⟩
      · replace h := h.2 hc
        refine Z_aload_n (a := 0) (q := 25) (by decide +kernel) rfl rfl ?_
        refine Z_iconst (a := 1) (v := 1) (q := 26) (by decide +kernel) (by decide +kernel) rfl ?_
        obtain ⟨Q40, hm, h⟩ := h
        refine Z_callVi (M2 := mX10_refuse) (idx := 100) (d2 := d) (ci := 10) (As := [.int _]) (q := 29) (by decide +kernel) kX10_refuse lX10_100 rfl rfl (by decide) rfl rfl (by decide +kernel) (Nat.le_of_ble_eq_true rfl) (Nat.le_refl _) hm rfl (fun v45 iv41 rv42 lv43 hq => ?_)
        obtain ⟨hT44, h⟩ := h v45 iv41 rv42 lv43 hq
        refine Z_pop (q := 30) (by decide +kernel) rfl rfl ?_
        refine Z_iconst (a := 0) (v := 0) (q := 31) (by decide +kernel) (by decide +kernel) rfl ?_
        exact Z_iret (ty := .boolean) (by decide +kernel) rfl rfl rfl ⟨_, rfl, h⟩
theorem eX10_write {d : Nat}  {iv : zI} {rv : zR} {lv : zJ} {Q : Int32 → zI → zR → zJ → Prop} (h : Zi mX10_write (d + 1) 0 [some (.ref 0), none, none] [] iv rv lv Q) : Ci mX10_write (d + 1) [.ref 0] iv rv lv Q := Ci.of (by decide +kernel) (by simp [Value.category]) (Nat.le_of_ble_eq_true rfl) rfl h
set_option maxRecDepth 4000 in
theorem bX10_write_0 {d : Nat}  {iv : zI} {rv : zR} {lv : zJ} {Q : Int32 → zI → zR → zJ → Prop} (hT : zTop rv) 
    (h : ∃ Q1 : Int32 → zI → zR → zJ → Prop, Ci mX10_noText d [.ref 0] iv rv lv Q1 ∧ ∀ (v6 : Int32) (iv2 : zI) (rv3 : zR) (lv4 : zJ), Q1 v6 iv2 rv3 lv4 → zTop rv3 ∧ ((v6 = 0 → ∃ Q7 : Nat → zI → zR → zJ → Prop, Cr mX10_allRows d [.ref 0, .int (iv2 8 1)] iv2 rv3 lv4 Q7 ∧ ∀ (v12 : Nat) (iv8 : zI) (rv9 : zR) (lv10 : zJ), Q7 v12 iv8 rv9 lv10 → zTop rv9 ∧ v12 ∈ zPts ∧ (∃ Q13 : Int32 → zI → zR → zJ → Prop, Ci mX5_findLeast d [.ref v12, .ref 8, .int (iv8 0 3)] iv8 rv9 lv10 Q13 ∧ ∀ (v18 : Int32) (iv14 : zI) (rv15 : zR) (lv16 : zJ), Q13 v18 iv14 rv15 lv16 → zTop rv15 ∧ ((¬ v18 = 0 → ∀ iv19 : zI, iv19 = zu iv14 0 11 (0 : Int32) → Zi mX10_write (d + 1) 54 [some (.ref 0), some (.ref v12), some (.int (0 : Int32))] [] iv19 rv15 lv16 Q) ∧ (v18 = 0 → ∃ Q20 : Int32 → zI → zR → zJ → Prop, Ci mX10_refuse d [.ref 0, .int (6 : Int32)] iv14 rv15 lv16 Q20 ∧ ∀ (v25 : Int32) (iv21 : zI) (rv22 : zR) (lv23 : zJ), Q20 v25 iv21 rv22 lv23 → zTop rv22 ∧ (Q v25 iv21 rv22 lv23))))) ∧ (¬ v6 = 0 → ∃ Q26 : Int32 → zI → zR → zJ → Prop, Ci mX10_refuse d [.ref 0, .int (1 : Int32)] iv2 rv3 lv4 Q26 ∧ ∀ (v31 : Int32) (iv27 : zI) (rv28 : zR) (lv29 : zJ), Q26 v31 iv27 rv28 lv29 → zTop rv28 ∧ (Q v31 iv27 rv28 lv29)))) :
    Zi mX10_write (d + 1) 0 [some (.ref 0), none, none] [] iv rv lv Q := by
  unfold Zi
  refine Z_aload_n (a := 0) (q := 1) (by decide +kernel) rfl rfl ?_
  obtain ⟨Q1, hm, h⟩ := h
  refine Z_callVi (M2 := mX10_noText) (idx := 136) (d2 := d) (ci := 10) (As := []) (q := 4) (by decide +kernel) kX10_noText lX10_136 rfl rfl (by decide) rfl rfl (by decide +kernel) (Nat.le_of_ble_eq_true rfl) (Nat.le_refl _) hm rfl (fun v6 iv2 rv3 lv4 hq => ?_)
  obtain ⟨hT5, h⟩ := h v6 iv2 rv3 lv4 hq
  refine Z_if_eq (t := 13) (off := 9) (q := 7) (by decide +kernel) (by decide) rfl (fun hc => ?_) (fun hc => ?_)
  · replace h := h.1 hc
    refine Z_aload_n (a := 0) (q := 14) (by decide +kernel) rfl rfl ?_
    refine Z_aload_n (a := 0) (q := 15) (by decide +kernel) rfl rfl ?_
    refine g10_1 (idx := 19) (q := 18) (by decide +kernel) fX10_19 rfl (by decide) (t10_1 hT5) rfl ?_
    refine g9_1 (idx := 140) (q := 21) (by decide +kernel) fX10_140 (hS9_0 (by decide : 8 ∈ zSts)) (hL9_0 (by decide : 8 ∈ zSts)) rfl ?_
    obtain ⟨Q7, hm, h⟩ := h
    refine Z_callVr (M2 := mX10_allRows) (idx := 261) (d2 := d) (ci := 10) (As := [.int _]) (q := 24) (by decide +kernel) kX10_allRows lX10_261 rfl rfl (by decide) rfl rfl (by decide +kernel) (Nat.le_of_ble_eq_true rfl) (Nat.le_refl _) hm rfl (fun v12 iv8 rv9 lv10 hq => ?_)
    obtain ⟨hT11, hmv12, h⟩ := h v12 iv8 rv9 lv10 hq
    refine Z_astore_n (a := 1) (loc2 := [_, _, _]) (q := 25) (by decide +kernel) (by decide +kernel) rfl rfl rfl ?_
    refine Z_aload_n (a := 1) (q := 26) (by decide +kernel) rfl rfl ?_
    refine Z_aload_n (a := 0) (q := 27) (by decide +kernel) rfl rfl ?_
    refine g10_1 (idx := 19) (q := 30) (by decide +kernel) fX10_19 rfl (by decide) (t10_1 hT11) rfl ?_
    refine Z_aload_n (a := 0) (q := 31) (by decide +kernel) rfl rfl ?_
    refine g10_3 (idx := 30) (q := 34) (by decide +kernel) fX10_30 rfl (by decide) rfl ?_
    obtain ⟨Q13, hm, h⟩ := h
    refine Z_callVi (M2 := mX5_findLeast) (idx := 265) (d2 := d) (ci := 5) (As := [.ref _, .int _]) (q := 37) (by decide +kernel) kX5_findLeast lX10_265 rfl (hS5_0 hmv12) (hL5_0 hmv12) rfl rfl (by decide +kernel) (Nat.le_of_ble_eq_true rfl) (Nat.le_refl _) hm rfl (fun v18 iv14 rv15 lv16 hq => ?_)
    obtain ⟨hT17, h⟩ := h v18 iv14 rv15 lv16 hq
    refine Z_if_ne (t := 47) (off := 10) (q := 40) (by decide +kernel) (by decide) rfl (fun hc => ?_) (fun hc => ?_)
    · replace h := h.1 hc
      refine Z_aload_n (a := 0) (q := 48) (by decide +kernel) rfl rfl ?_
      refine Z_iconst (a := 0) (v := 0) (q := 49) (by decide +kernel) (by decide +kernel) rfl ?_
      refine p10_11 (idx := 79) (q := 52) (by decide +kernel) fX10_79 rfl (by decide) rfl ?_
      replace h := h _ rfl
      refine Z_iconst (a := 0) (v := 0) (q := 53) (by decide +kernel) (by decide +kernel) rfl ?_
      refine Z_istore_n (a := 2) (loc2 := [_, _, _]) (q := 54) (by decide +kernel) (by decide +kernel) rfl rfl rfl ?_
      exact h
    · replace h := h.2 hc
      refine Z_aload_n (a := 0) (q := 41) (by decide +kernel) rfl rfl ?_
      refine Z_bipush (a := 6) (v := 6) (q := 43) (by decide +kernel) (by decide +kernel) rfl ?_
      obtain ⟨Q20, hm, h⟩ := h
      refine Z_callVi (M2 := mX10_refuse) (idx := 100) (d2 := d) (ci := 10) (As := [.int _]) (q := 46) (by decide +kernel) kX10_refuse lX10_100 rfl rfl (by decide) rfl rfl (by decide +kernel) (Nat.le_of_ble_eq_true rfl) (Nat.le_refl _) hm rfl (fun v25 iv21 rv22 lv23 hq => ?_)
      obtain ⟨hT24, h⟩ := h v25 iv21 rv22 lv23 hq
      exact Z_iret (ty := .int) (by decide +kernel) rfl rfl rfl ⟨_, rfl, h⟩
  · replace h := h.2 hc
    refine Z_aload_n (a := 0) (q := 8) (by decide +kernel) rfl rfl ?_
    refine Z_iconst (a := 1) (v := 1) (q := 9) (by decide +kernel) (by decide +kernel) rfl ?_
    obtain ⟨Q26, hm, h⟩ := h
    refine Z_callVi (M2 := mX10_refuse) (idx := 100) (d2 := d) (ci := 10) (As := [.int _]) (q := 12) (by decide +kernel) kX10_refuse lX10_100 rfl rfl (by decide) rfl rfl (by decide +kernel) (Nat.le_of_ble_eq_true rfl) (Nat.le_refl _) hm rfl (fun v31 iv27 rv28 lv29 hq => ?_)
    obtain ⟨hT30, h⟩ := h v31 iv27 rv28 lv29 hq
    exact Z_iret (ty := .int) (by decide +kernel) rfl rfl rfl ⟨_, rfl, h⟩
set_option maxRecDepth 4000 in
theorem bX10_write_54 {d : Nat} (x1 : Nat) (x2 : Int32) {iv : zI} {rv : zR} {lv : zJ} {Q : Int32 → zI → zR → zJ → Prop} (hT : zTop rv) (m_x1 : x1 ∈ zPts)
    (h : ((iv 8 1) ≤ x2 → ∃ Q1 : Int32 → zI → zR → zJ → Prop, Ci mX10_answer d [.ref 0, .int (iv 0 11)] iv rv lv Q1 ∧ ∀ (v6 : Int32) (iv2 : zI) (rv3 : zR) (lv4 : zJ), Q1 v6 iv2 rv3 lv4 → zTop rv3 ∧ (Q v6 iv2 rv3 lv4)) ∧ (¬ (iv 8 1) ≤ x2 → (x2 ≤ 0 → ∃ Q7 : zI → zR → zJ → Prop, Cv mX10_putHeap d [.ref 0, .int x2, .ref (x1 + 1)] iv rv lv Q7 ∧ ∀ (iv8 : zI) (rv9 : zR) (lv10 : zJ), Q7 iv8 rv9 lv10 → zTop rv9 ∧ (Zi mX10_write (d + 1) 54 [some (.ref 0), some (.ref x1), some (.int (x2 + 1))] [] iv8 rv9 lv10 Q)) ∧ (¬ x2 ≤ 0 → ∃ Q13 : zI → zR → zJ → Prop, Cv mX10_putByte d [.ref 0, .int (47 : Int32)] iv rv lv Q13 ∧ ∀ (iv14 : zI) (rv15 : zR) (lv16 : zJ), Q13 iv14 rv15 lv16 → zTop rv15 ∧ (∃ Q19 : zI → zR → zJ → Prop, Cv mX10_putHeap d [.ref 0, .int x2, .ref (x1 + 1)] iv14 rv15 lv16 Q19 ∧ ∀ (iv20 : zI) (rv21 : zR) (lv22 : zJ), Q19 iv20 rv21 lv22 → zTop rv21 ∧ (Zi mX10_write (d + 1) 54 [some (.ref 0), some (.ref x1), some (.int (x2 + 1))] [] iv20 rv21 lv22 Q))))) :
    Zi mX10_write (d + 1) 54 [some (.ref 0), some (.ref x1), some (.int x2)] [] iv rv lv Q := by
  unfold Zi
  refine Z_iload_n (a := 2) (q := 55) (by decide +kernel) rfl rfl ?_
  refine Z_aload_n (a := 0) (q := 56) (by decide +kernel) rfl rfl ?_
  refine g10_1 (idx := 19) (q := 59) (by decide +kernel) fX10_19 rfl (by decide) (t10_1 hT) rfl ?_
  refine g9_1 (idx := 140) (q := 62) (by decide +kernel) fX10_140 (hS9_0 (by decide : 8 ∈ zSts)) (hL9_0 (by decide : 8 ∈ zSts)) rfl ?_
  refine Z_icmp_ge (t := 90) (off := 28) (q := 65) (by decide +kernel) (by decide) rfl (fun hc => ?_) (fun hc => ?_)
  · replace h := h.1 hc
    refine Z_aload_n (a := 0) (q := 91) (by decide +kernel) rfl rfl ?_
    refine Z_aload_n (a := 0) (q := 92) (by decide +kernel) rfl rfl ?_
    refine g10_11 (idx := 79) (q := 95) (by decide +kernel) fX10_79 rfl (by decide) rfl ?_
    obtain ⟨Q1, hm, h⟩ := h
    refine Z_callVi (M2 := mX10_answer) (idx := 133) (d2 := d) (ci := 10) (As := [.int _]) (q := 98) (by decide +kernel) kX10_answer lX10_133 rfl rfl (by decide) rfl rfl (by decide +kernel) (Nat.le_of_ble_eq_true rfl) (Nat.le_refl _) hm rfl (fun v6 iv2 rv3 lv4 hq => ?_)
    obtain ⟨hT5, h⟩ := h v6 iv2 rv3 lv4 hq
    exact Z_iret (ty := .int) (by decide +kernel) rfl rfl rfl ⟨_, rfl, h⟩
  · replace h := h.2 hc
    refine Z_iload_n (a := 2) (q := 66) (by decide +kernel) rfl rfl ?_
    refine Z_if_le (t := 75) (off := 9) (q := 69) (by decide +kernel) (by decide) rfl (fun hc => ?_) (fun hc => ?_)
    · replace h := h.1 hc
      refine Z_aload_n (a := 0) (q := 76) (by decide +kernel) rfl rfl ?_
      refine Z_iload_n (a := 2) (q := 77) (by decide +kernel) rfl rfl ?_
      refine Z_aload_n (a := 1) (q := 78) (by decide +kernel) rfl rfl ?_
      refine g5_3 (idx := 274) (q := 81) (by decide +kernel) fX10_274 (hS5_0 m_x1) (hL5_0 m_x1) (t5_3 hT m_x1) rfl ?_
      obtain ⟨Q7, hm, h⟩ := h
      refine Z_callVv (M2 := mX10_putHeap) (idx := 340) (d2 := d) (ci := 10) (As := [.int _, .ref _]) (q := 84) (by decide +kernel) kX10_putHeap lX10_340 rfl rfl (by decide) rfl rfl (by decide +kernel) (Nat.le_of_ble_eq_true rfl) (Nat.le_refl _) hm rfl (fun iv8 rv9 lv10 hq => ?_)
      obtain ⟨hT11, h⟩ := h iv8 rv9 lv10 hq
      refine Z_iinc (a := 2) (b := 1) (v := _ + 1) (loc2 := [_, _, _]) (q := 87) (by decide +kernel) rfl (zinc _) (by decide +kernel) rfl rfl rfl ?_
      refine Z_goto (q := 54) (off := -33) (by decide +kernel) (by decide) ?_
      exact h
    · replace h := h.2 hc
      refine Z_aload_n (a := 0) (q := 70) (by decide +kernel) rfl rfl ?_
      refine Z_bipush (a := 47) (v := 47) (q := 72) (by decide +kernel) (by decide +kernel) rfl ?_
      obtain ⟨Q13, hm, h⟩ := h
      refine Z_callVv (M2 := mX10_putByte) (idx := 337) (d2 := d) (ci := 10) (As := [.int _]) (q := 75) (by decide +kernel) kX10_putByte lX10_337 rfl rfl (by decide) rfl rfl (by decide +kernel) (Nat.le_of_ble_eq_true rfl) (Nat.le_refl _) hm rfl (fun iv14 rv15 lv16 hq => ?_)
      obtain ⟨hT17, h⟩ := h iv14 rv15 lv16 hq
      refine Z_aload_n (a := 0) (q := 76) (by decide +kernel) rfl rfl ?_
      refine Z_iload_n (a := 2) (q := 77) (by decide +kernel) rfl rfl ?_
      refine Z_aload_n (a := 1) (q := 78) (by decide +kernel) rfl rfl ?_
      refine g5_3 (idx := 274) (q := 81) (by decide +kernel) fX10_274 (hS5_0 m_x1) (hL5_0 m_x1) (t5_3 hT17 m_x1) rfl ?_
      obtain ⟨Q19, hm, h⟩ := h
      refine Z_callVv (M2 := mX10_putHeap) (idx := 340) (d2 := d) (ci := 10) (As := [.int _, .ref _]) (q := 84) (by decide +kernel) kX10_putHeap lX10_340 rfl rfl (by decide) rfl rfl (by decide +kernel) (Nat.le_of_ble_eq_true rfl) (Nat.le_refl _) hm rfl (fun iv20 rv21 lv22 hq => ?_)
      obtain ⟨hT23, h⟩ := h iv20 rv21 lv22 hq
      refine Z_iinc (a := 2) (b := 1) (v := _ + 1) (loc2 := [_, _, _]) (q := 87) (by decide +kernel) rfl (zinc _) (by decide +kernel) rfl rfl rfl ?_
      refine Z_goto (q := 54) (off := -33) (by decide +kernel) (by decide) ?_
      exact h
theorem eX10_bytes {d : Nat}  {iv : zI} {rv : zR} {lv : zJ} {Q : Int32 → zI → zR → zJ → Prop} (h : Zi mX10_bytes d 0 [some (.ref 0)] [] iv rv lv Q) : Ci mX10_bytes d [.ref 0] iv rv lv Q := Ci.of (by decide +kernel) (by simp [Value.category]) (Nat.le_of_ble_eq_true rfl) rfl h
set_option maxRecDepth 4000 in
theorem bX10_bytes_0 {d : Nat}  {iv : zI} {rv : zR} {lv : zJ} {Q : Int32 → zI → zR → zJ → Prop} (hT : zTop rv) 
    (h : Q (iv 1 0) iv rv lv) :
    Zi mX10_bytes d 0 [some (.ref 0)] [] iv rv lv Q := by
  unfold Zi
  refine Z_aload_n (a := 0) (q := 1) (by decide +kernel) rfl rfl ?_
  refine g10_0 (idx := 10) (q := 4) (by decide +kernel) fX10_10 rfl (by decide) (t10_0 hT) rfl ?_
  refine g6_0 (idx := 94) (q := 7) (by decide +kernel) fX10_94 rfl (by decide) rfl ?_
  exact Z_iret (ty := .int) (by decide +kernel) rfl rfl rfl ⟨_, rfl, h⟩
theorem eX10_trouble {d : Nat}  {iv : zI} {rv : zR} {lv : zJ} {Q : Int32 → zI → zR → zJ → Prop} (h : Zi mX10_trouble d 0 [some (.ref 0)] [] iv rv lv Q) : Ci mX10_trouble d [.ref 0] iv rv lv Q := Ci.of (by decide +kernel) (by simp [Value.category]) (Nat.le_of_ble_eq_true rfl) rfl h
set_option maxRecDepth 4000 in
theorem bX10_trouble_0 {d : Nat}  {iv : zI} {rv : zR} {lv : zJ} {Q : Int32 → zI → zR → zJ → Prop} (hT : zTop rv) 
    (h : Q (iv 0 12) iv rv lv) :
    Zi mX10_trouble d 0 [some (.ref 0)] [] iv rv lv Q := by
  unfold Zi
  refine Z_aload_n (a := 0) (q := 1) (by decide +kernel) rfl rfl ?_
  refine g10_12 (idx := 82) (q := 4) (by decide +kernel) fX10_82 rfl (by decide) rfl ?_
  exact Z_iret (ty := .int) (by decide +kernel) rfl rfl rfl ⟨_, rfl, h⟩
theorem eX10_refuse {d : Nat} (x1 : Int32) {iv : zI} {rv : zR} {lv : zJ} {Q : Int32 → zI → zR → zJ → Prop} (h : Zi mX10_refuse d 0 [some (.ref 0), some (.int x1)] [] iv rv lv Q) : Ci mX10_refuse d [.ref 0, .int x1] iv rv lv Q := Ci.of (by decide +kernel) (by simp [Value.category]) (Nat.le_of_ble_eq_true rfl) rfl h
set_option maxRecDepth 4000 in
theorem bX10_refuse_0 {d : Nat} (x1 : Int32) {iv : zI} {rv : zR} {lv : zJ} {Q : Int32 → zI → zR → zJ → Prop} (hT : zTop rv) 
    (h : ∀ iv1 : zI, iv1 = zu iv 0 12 x1 → ∀ iv2 : zI, iv2 = zu iv1 0 14 (-1 : Int32) → Q (-1 : Int32) iv2 rv lv) :
    Zi mX10_refuse d 0 [some (.ref 0), some (.int x1)] [] iv rv lv Q := by
  unfold Zi
  refine Z_aload_n (a := 0) (q := 1) (by decide +kernel) rfl rfl ?_
  refine Z_iload_n (a := 1) (q := 2) (by decide +kernel) rfl rfl ?_
  refine p10_12 (idx := 82) (q := 5) (by decide +kernel) fX10_82 rfl (by decide) rfl ?_
  replace h := h _ rfl
  refine Z_aload_n (a := 0) (q := 6) (by decide +kernel) rfl rfl ?_
  refine Z_iconst (a := -1) (v := -1) (q := 7) (by decide +kernel) (by decide +kernel) rfl ?_
  refine p10_14 (idx := 88) (q := 10) (by decide +kernel) fX10_88 rfl (by decide) rfl ?_
  replace h := h _ rfl
  refine Z_iconst (a := -1) (v := -1) (q := 11) (by decide +kernel) (by decide +kernel) rfl ?_
  exact Z_iret (ty := .int) (by decide +kernel) rfl rfl rfl ⟨_, rfl, h⟩
theorem eX10_refused {d : Nat} (x1 : Int32) (x2 : Int32) {iv : zI} {rv : zR} {lv : zJ} {Q : Int32 → zI → zR → zJ → Prop} (h : Zi mX10_refused (d + 1) 0 [some (.ref 0), some (.int x1), some (.int x2)] [] iv rv lv Q) : Ci mX10_refused (d + 1) [.ref 0, .int x1, .int x2] iv rv lv Q := Ci.of (by decide +kernel) (by simp [Value.category]) (Nat.le_of_ble_eq_true rfl) rfl h
set_option maxRecDepth 4000 in
theorem bX10_refused_0 {d : Nat} (x1 : Int32) (x2 : Int32) {iv : zI} {rv : zR} {lv : zJ} {Q : Int32 → zI → zR → zJ → Prop} (hT : zTop rv) 
    (h : (x1 = 0 → (x2 = 0 → (¬ x1 = 0 → Q (1 : Int32) iv rv lv) ∧ (x1 = 0 → (x2 = 0 → Q (0 : Int32) iv rv lv) ∧ (¬ x2 = 0 → Q (1 : Int32) iv rv lv))) ∧ (¬ x2 = 0 → ∃ Q1 : Int32 → zI → zR → zJ → Prop, Ci mX10_refuse d [.ref 0, .int (2 : Int32)] iv rv lv Q1 ∧ ∀ (v6 : Int32) (iv2 : zI) (rv3 : zR) (lv4 : zJ), Q1 v6 iv2 rv3 lv4 → zTop rv3 ∧ ((¬ x1 = 0 → Q (1 : Int32) iv2 rv3 lv4) ∧ (x1 = 0 → (x2 = 0 → Q (0 : Int32) iv2 rv3 lv4) ∧ (¬ x2 = 0 → Q (1 : Int32) iv2 rv3 lv4))))) ∧ (¬ x1 = 0 → ∃ Q7 : Int32 → zI → zR → zJ → Prop, Ci mX10_refuse d [.ref 0, .int (1 : Int32)] iv rv lv Q7 ∧ ∀ (v12 : Int32) (iv8 : zI) (rv9 : zR) (lv10 : zJ), Q7 v12 iv8 rv9 lv10 → zTop rv9 ∧ ((¬ x1 = 0 → Q (1 : Int32) iv8 rv9 lv10) ∧ (x1 = 0 → (x2 = 0 → Q (0 : Int32) iv8 rv9 lv10) ∧ (¬ x2 = 0 → Q (1 : Int32) iv8 rv9 lv10))))) :
    Zi mX10_refused (d + 1) 0 [some (.ref 0), some (.int x1), some (.int x2)] [] iv rv lv Q := by
  unfold Zi
  refine Z_iload_n (a := 1) (q := 1) (by decide +kernel) rfl rfl ?_
  refine Z_if_eq (t := 13) (off := 12) (q := 4) (by decide +kernel) (by decide) rfl (fun hc => ?_) (fun hc => ?_)
  · replace h := h.1 hc
    refine Z_iload_n (a := 2) (q := 14) (by decide +kernel) rfl rfl ?_
    refine Z_if_eq (t := 23) (off := 9) (q := 17) (by decide +kernel) (by decide) rfl (fun hc => ?_) (fun hc => ?_)
    · replace h := h.1 hc
      refine Z_iload_n (a := 1) (q := 24) (by decide +kernel) rfl rfl ?_
      refine Z_if_ne (t := 31) (off := 7) (q := 27) (by decide +kernel) (by decide) rfl (fun hc => ?_) (fun hc => ?_)
      · replace h := h.1 hc
        refine Z_iconst (a := 1) (v := 1) (q := 32) (by decide +kernel) (by decide +kernel) rfl ?_
        refine Z_goto (q := 36) (off := 4) (by decide +kernel) (by decide) ?_
        exact Z_iret (ty := .boolean) (by decide +kernel) rfl rfl rfl ⟨_, rfl, h⟩
      · replace h := h.2 hc
        refine Z_iload_n (a := 2) (q := 28) (by decide +kernel) rfl rfl ?_
        refine Z_if_eq (t := 35) (off := 7) (q := 31) (by decide +kernel) (by decide) rfl (fun hc => ?_) (fun hc => ?_)
        · replace h := h.1 hc
          refine Z_iconst (a := 0) (v := 0) (q := 36) (by decide +kernel) (by decide +kernel) rfl ?_
          exact Z_iret (ty := .boolean) (by decide +kernel) rfl rfl rfl ⟨_, rfl, h⟩
        · replace h := h.2 hc
          refine Z_iconst (a := 1) (v := 1) (q := 32) (by decide +kernel) (by decide +kernel) rfl ?_
          refine Z_goto (q := 36) (off := 4) (by decide +kernel) (by decide) ?_
          exact Z_iret (ty := .boolean) (by decide +kernel) rfl rfl rfl ⟨_, rfl, h⟩
    · replace h := h.2 hc
      refine Z_aload_n (a := 0) (q := 18) (by decide +kernel) rfl rfl ?_
      refine Z_iconst (a := 2) (v := 2) (q := 19) (by decide +kernel) (by decide +kernel) rfl ?_
      obtain ⟨Q1, hm, h⟩ := h
      refine Z_callVi (M2 := mX10_refuse) (idx := 100) (d2 := d) (ci := 10) (As := [.int _]) (q := 22) (by decide +kernel) kX10_refuse lX10_100 rfl rfl (by decide) rfl rfl (by decide +kernel) (Nat.le_of_ble_eq_true rfl) (Nat.le_refl _) hm rfl (fun v6 iv2 rv3 lv4 hq => ?_)
      obtain ⟨hT5, h⟩ := h v6 iv2 rv3 lv4 hq
      refine Z_pop (q := 23) (by decide +kernel) rfl rfl ?_
      refine Z_iload_n (a := 1) (q := 24) (by decide +kernel) rfl rfl ?_
      refine Z_if_ne (t := 31) (off := 7) (q := 27) (by decide +kernel) (by decide) rfl (fun hc => ?_) (fun hc => ?_)
      · replace h := h.1 hc
        refine Z_iconst (a := 1) (v := 1) (q := 32) (by decide +kernel) (by decide +kernel) rfl ?_
        refine Z_goto (q := 36) (off := 4) (by decide +kernel) (by decide) ?_
        exact Z_iret (ty := .boolean) (by decide +kernel) rfl rfl rfl ⟨_, rfl, h⟩
      · replace h := h.2 hc
        refine Z_iload_n (a := 2) (q := 28) (by decide +kernel) rfl rfl ?_
        refine Z_if_eq (t := 35) (off := 7) (q := 31) (by decide +kernel) (by decide) rfl (fun hc => ?_) (fun hc => ?_)
        · replace h := h.1 hc
          refine Z_iconst (a := 0) (v := 0) (q := 36) (by decide +kernel) (by decide +kernel) rfl ?_
          exact Z_iret (ty := .boolean) (by decide +kernel) rfl rfl rfl ⟨_, rfl, h⟩
        · replace h := h.2 hc
          refine Z_iconst (a := 1) (v := 1) (q := 32) (by decide +kernel) (by decide +kernel) rfl ?_
          refine Z_goto (q := 36) (off := 4) (by decide +kernel) (by decide) ?_
          exact Z_iret (ty := .boolean) (by decide +kernel) rfl rfl rfl ⟨_, rfl, h⟩
  · replace h := h.2 hc
    refine Z_aload_n (a := 0) (q := 5) (by decide +kernel) rfl rfl ?_
    refine Z_iconst (a := 1) (v := 1) (q := 6) (by decide +kernel) (by decide +kernel) rfl ?_
    obtain ⟨Q7, hm, h⟩ := h
    refine Z_callVi (M2 := mX10_refuse) (idx := 100) (d2 := d) (ci := 10) (As := [.int _]) (q := 9) (by decide +kernel) kX10_refuse lX10_100 rfl rfl (by decide) rfl rfl (by decide +kernel) (Nat.le_of_ble_eq_true rfl) (Nat.le_refl _) hm rfl (fun v12 iv8 rv9 lv10 hq => ?_)
    obtain ⟨hT11, h⟩ := h v12 iv8 rv9 lv10 hq
    refine Z_pop (q := 10) (by decide +kernel) rfl rfl ?_
    refine Z_goto (q := 23) (off := 13) (by decide +kernel) (by decide) ?_
    refine Z_iload_n (a := 1) (q := 24) (by decide +kernel) rfl rfl ?_
    refine Z_if_ne (t := 31) (off := 7) (q := 27) (by decide +kernel) (by decide) rfl (fun hc => ?_) (fun hc => ?_)
    · replace h := h.1 hc
      refine Z_iconst (a := 1) (v := 1) (q := 32) (by decide +kernel) (by decide +kernel) rfl ?_
      refine Z_goto (q := 36) (off := 4) (by decide +kernel) (by decide) ?_
      exact Z_iret (ty := .boolean) (by decide +kernel) rfl rfl rfl ⟨_, rfl, h⟩
    · replace h := h.2 hc
      refine Z_iload_n (a := 2) (q := 28) (by decide +kernel) rfl rfl ?_
      refine Z_if_eq (t := 35) (off := 7) (q := 31) (by decide +kernel) (by decide) rfl (fun hc => ?_) (fun hc => ?_)
      · replace h := h.1 hc
        refine Z_iconst (a := 0) (v := 0) (q := 36) (by decide +kernel) (by decide +kernel) rfl ?_
        exact Z_iret (ty := .boolean) (by decide +kernel) rfl rfl rfl ⟨_, rfl, h⟩
      · replace h := h.2 hc
        refine Z_iconst (a := 1) (v := 1) (q := 32) (by decide +kernel) (by decide +kernel) rfl ?_
        refine Z_goto (q := 36) (off := 4) (by decide +kernel) (by decide) ?_
        exact Z_iret (ty := .boolean) (by decide +kernel) rfl rfl rfl ⟨_, rfl, h⟩
theorem eX10_answer {d : Nat} (x1 : Int32) {iv : zI} {rv : zR} {lv : zJ} {Q : Int32 → zI → zR → zJ → Prop} (h : Zi mX10_answer d 0 [some (.ref 0), some (.int x1)] [] iv rv lv Q) : Ci mX10_answer d [.ref 0, .int x1] iv rv lv Q := Ci.of (by decide +kernel) (by simp [Value.category]) (Nat.le_of_ble_eq_true rfl) rfl h
set_option maxRecDepth 4000 in
theorem bX10_answer_0 {d : Nat} (x1 : Int32) {iv : zI} {rv : zR} {lv : zJ} {Q : Int32 → zI → zR → zJ → Prop} (hT : zTop rv) 
    (h : ∀ iv1 : zI, iv1 = zu iv 0 12 (0 : Int32) → ∀ iv2 : zI, iv2 = zu iv1 0 14 (-1 : Int32) → Q x1 iv2 rv lv) :
    Zi mX10_answer d 0 [some (.ref 0), some (.int x1)] [] iv rv lv Q := by
  unfold Zi
  refine Z_aload_n (a := 0) (q := 1) (by decide +kernel) rfl rfl ?_
  refine Z_iconst (a := 0) (v := 0) (q := 2) (by decide +kernel) (by decide +kernel) rfl ?_
  refine p10_12 (idx := 82) (q := 5) (by decide +kernel) fX10_82 rfl (by decide) rfl ?_
  replace h := h _ rfl
  refine Z_aload_n (a := 0) (q := 6) (by decide +kernel) rfl rfl ?_
  refine Z_iconst (a := -1) (v := -1) (q := 7) (by decide +kernel) (by decide +kernel) rfl ?_
  refine p10_14 (idx := 88) (q := 10) (by decide +kernel) fX10_88 rfl (by decide) rfl ?_
  replace h := h _ rfl
  refine Z_iload_n (a := 1) (q := 11) (by decide +kernel) rfl rfl ?_
  exact Z_iret (ty := .int) (by decide +kernel) rfl rfl rfl ⟨_, rfl, h⟩
theorem eX10_noText {d : Nat}  {iv : zI} {rv : zR} {lv : zJ} {Q : Int32 → zI → zR → zJ → Prop} (h : Zi mX10_noText d 0 [some (.ref 0)] [] iv rv lv Q) : Ci mX10_noText d [.ref 0] iv rv lv Q := Ci.of (by decide +kernel) (by simp [Value.category]) (Nat.le_of_ble_eq_true rfl) rfl h
set_option maxRecDepth 4000 in
theorem bX10_noText_0 {d : Nat}  {iv : zI} {rv : zR} {lv : zJ} {Q : Int32 → zI → zR → zJ → Prop} (hT : zTop rv) 
    (h : (¬ (iv 8 0) = 0 → Q (0 : Int32) iv rv lv) ∧ ((iv 8 0) = 0 → Q (1 : Int32) iv rv lv)) :
    Zi mX10_noText d 0 [some (.ref 0)] [] iv rv lv Q := by
  unfold Zi
  refine Z_aload_n (a := 0) (q := 1) (by decide +kernel) rfl rfl ?_
  refine g10_1 (idx := 19) (q := 4) (by decide +kernel) fX10_19 rfl (by decide) (t10_1 hT) rfl ?_
  refine g9_0 (idx := 130) (q := 7) (by decide +kernel) fX10_130 (hS9_0 (by decide : 8 ∈ zSts)) (hL9_0 (by decide : 8 ∈ zSts)) rfl ?_
  refine Z_if_ne (t := 14) (off := 7) (q := 10) (by decide +kernel) (by decide) rfl (fun hc => ?_) (fun hc => ?_)
  · replace h := h.1 hc
    refine Z_iconst (a := 0) (v := 0) (q := 15) (by decide +kernel) (by decide +kernel) rfl ?_
    exact Z_iret (ty := .boolean) (by decide +kernel) rfl rfl rfl ⟨_, rfl, h⟩
  · replace h := h.2 hc
    refine Z_iconst (a := 1) (v := 1) (q := 11) (by decide +kernel) (by decide +kernel) rfl ?_
    refine Z_goto (q := 15) (off := 4) (by decide +kernel) (by decide) ?_
    exact Z_iret (ty := .boolean) (by decide +kernel) rfl rfl rfl ⟨_, rfl, h⟩
theorem eX10_noNumber {d : Nat} (x1 : Int32) {iv : zI} {rv : zR} {lv : zJ} {Q : Int32 → zI → zR → zJ → Prop} (h : Zi mX10_noNumber d 0 [some (.ref 0), some (.int x1)] [] iv rv lv Q) : Ci mX10_noNumber d [.ref 0, .int x1] iv rv lv Q := Ci.of (by decide +kernel) (by simp [Value.category]) (Nat.le_of_ble_eq_true rfl) rfl h
set_option maxRecDepth 4000 in
theorem bX10_noNumber_0 {d : Nat} (x1 : Int32) {iv : zI} {rv : zR} {lv : zJ} {Q : Int32 → zI → zR → zJ → Prop} (hT : zTop rv) 
    (h : (x1 < 0 → Q (1 : Int32) iv rv lv) ∧ (¬ x1 < 0 → (x1 < (iv 8 0) → Q (0 : Int32) iv rv lv) ∧ (¬ x1 < (iv 8 0) → Q (1 : Int32) iv rv lv))) :
    Zi mX10_noNumber d 0 [some (.ref 0), some (.int x1)] [] iv rv lv Q := by
  unfold Zi
  refine Z_iload_n (a := 1) (q := 1) (by decide +kernel) rfl rfl ?_
  refine Z_if_lt (t := 15) (off := 14) (q := 4) (by decide +kernel) (by decide) rfl (fun hc => ?_) (fun hc => ?_)
  · replace h := h.1 hc
    refine Z_iconst (a := 1) (v := 1) (q := 16) (by decide +kernel) (by decide +kernel) rfl ?_
    refine Z_goto (q := 20) (off := 4) (by decide +kernel) (by decide) ?_
    exact Z_iret (ty := .boolean) (by decide +kernel) rfl rfl rfl ⟨_, rfl, h⟩
  · replace h := h.2 hc
    refine Z_iload_n (a := 1) (q := 5) (by decide +kernel) rfl rfl ?_
    refine Z_aload_n (a := 0) (q := 6) (by decide +kernel) rfl rfl ?_
    refine g10_1 (idx := 19) (q := 9) (by decide +kernel) fX10_19 rfl (by decide) (t10_1 hT) rfl ?_
    refine g9_0 (idx := 130) (q := 12) (by decide +kernel) fX10_130 (hS9_0 (by decide : 8 ∈ zSts)) (hL9_0 (by decide : 8 ∈ zSts)) rfl ?_
    refine Z_icmp_lt (t := 19) (off := 7) (q := 15) (by decide +kernel) (by decide) rfl (fun hc => ?_) (fun hc => ?_)
    · replace h := h.1 hc
      refine Z_iconst (a := 0) (v := 0) (q := 20) (by decide +kernel) (by decide +kernel) rfl ?_
      exact Z_iret (ty := .boolean) (by decide +kernel) rfl rfl rfl ⟨_, rfl, h⟩
    · replace h := h.2 hc
      refine Z_iconst (a := 1) (v := 1) (q := 16) (by decide +kernel) (by decide +kernel) rfl ?_
      refine Z_goto (q := 20) (off := 4) (by decide +kernel) (by decide) ?_
      exact Z_iret (ty := .boolean) (by decide +kernel) rfl rfl rfl ⟨_, rfl, h⟩
theorem eX10_noSuchHeaps {d : Nat} (x0 : Int32) {iv : zI} {rv : zR} {lv : zJ} {Q : Int32 → zI → zR → zJ → Prop} (h : Zi mX10_noSuchHeaps d 0 [some (.int x0)] [] iv rv lv Q) : Ci mX10_noSuchHeaps d [.int x0] iv rv lv Q := Ci.of (by decide +kernel) (by simp [Value.category]) (Nat.le_of_ble_eq_true rfl) rfl h
set_option maxRecDepth 4000 in
theorem bX10_noSuchHeaps_0 {d : Nat} (x0 : Int32) {iv : zI} {rv : zR} {lv : zJ} {Q : Int32 → zI → zR → zJ → Prop} (hT : zTop rv) 
    (h : (x0 < (2 : Int32) → Q (1 : Int32) iv rv lv) ∧ (¬ x0 < (2 : Int32) → (x0 ≤ (4 : Int32) → Q (0 : Int32) iv rv lv) ∧ (¬ x0 ≤ (4 : Int32) → Q (1 : Int32) iv rv lv))) :
    Zi mX10_noSuchHeaps d 0 [some (.int x0)] [] iv rv lv Q := by
  unfold Zi
  refine Z_iload_n (a := 0) (q := 1) (by decide +kernel) rfl rfl ?_
  refine Z_iconst (a := 2) (v := 2) (q := 2) (by decide +kernel) (by decide +kernel) rfl ?_
  refine Z_icmp_lt (t := 10) (off := 8) (q := 5) (by decide +kernel) (by decide) rfl (fun hc => ?_) (fun hc => ?_)
  · replace h := h.1 hc
    refine Z_iconst (a := 1) (v := 1) (q := 11) (by decide +kernel) (by decide +kernel) rfl ?_
    refine Z_goto (q := 15) (off := 4) (by decide +kernel) (by decide) ?_
    exact Z_iret (ty := .boolean) (by decide +kernel) rfl rfl rfl ⟨_, rfl, h⟩
  · replace h := h.2 hc
    refine Z_iload_n (a := 0) (q := 6) (by decide +kernel) rfl rfl ?_
    refine Z_iconst (a := 4) (v := 4) (q := 7) (by decide +kernel) (by decide +kernel) rfl ?_
    refine Z_icmp_le (t := 14) (off := 7) (q := 10) (by decide +kernel) (by decide) rfl (fun hc => ?_) (fun hc => ?_)
    · replace h := h.1 hc
      refine Z_iconst (a := 0) (v := 0) (q := 15) (by decide +kernel) (by decide +kernel) rfl ?_
      exact Z_iret (ty := .boolean) (by decide +kernel) rfl rfl rfl ⟨_, rfl, h⟩
    · replace h := h.2 hc
      refine Z_iconst (a := 1) (v := 1) (q := 11) (by decide +kernel) (by decide +kernel) rfl ?_
      refine Z_goto (q := 15) (off := 4) (by decide +kernel) (by decide) ?_
      exact Z_iret (ty := .boolean) (by decide +kernel) rfl rfl rfl ⟨_, rfl, h⟩
theorem eX10_noSuchValue {d : Nat} (x0 : Int32) {iv : zI} {rv : zR} {lv : zJ} {Q : Int32 → zI → zR → zJ → Prop} (h : Zi mX10_noSuchValue d 0 [some (.int x0)] [] iv rv lv Q) : Ci mX10_noSuchValue d [.int x0] iv rv lv Q := Ci.of (by decide +kernel) (by simp [Value.category]) (Nat.le_of_ble_eq_true rfl) rfl h
set_option maxRecDepth 4000 in
theorem bX10_noSuchValue_0 {d : Nat} (x0 : Int32) {iv : zI} {rv : zR} {lv : zJ} {Q : Int32 → zI → zR → zJ → Prop} (hT : zTop rv) 
    (h : (x0 < (1 : Int32) → Q (1 : Int32) iv rv lv) ∧ (¬ x0 < (1 : Int32) → (x0 ≤ (9999 : Int32) → Q (0 : Int32) iv rv lv) ∧ (¬ x0 ≤ (9999 : Int32) → Q (1 : Int32) iv rv lv))) :
    Zi mX10_noSuchValue d 0 [some (.int x0)] [] iv rv lv Q := by
  unfold Zi
  refine Z_iload_n (a := 0) (q := 1) (by decide +kernel) rfl rfl ?_
  refine Z_iconst (a := 1) (v := 1) (q := 2) (by decide +kernel) (by decide +kernel) rfl ?_
  refine Z_icmp_lt (t := 12) (off := 10) (q := 5) (by decide +kernel) (by decide) rfl (fun hc => ?_) (fun hc => ?_)
  · replace h := h.1 hc
    refine Z_iconst (a := 1) (v := 1) (q := 13) (by decide +kernel) (by decide +kernel) rfl ?_
    refine Z_goto (q := 17) (off := 4) (by decide +kernel) (by decide) ?_
    exact Z_iret (ty := .boolean) (by decide +kernel) rfl rfl rfl ⟨_, rfl, h⟩
  · replace h := h.2 hc
    refine Z_iload_n (a := 0) (q := 6) (by decide +kernel) rfl rfl ?_
    refine Z_sipush (a := 9999) (v := 9999) (q := 9) (by decide +kernel) (by decide +kernel) rfl ?_
    refine Z_icmp_le (t := 16) (off := 7) (q := 12) (by decide +kernel) (by decide) rfl (fun hc => ?_) (fun hc => ?_)
    · replace h := h.1 hc
      refine Z_iconst (a := 0) (v := 0) (q := 17) (by decide +kernel) (by decide +kernel) rfl ?_
      exact Z_iret (ty := .boolean) (by decide +kernel) rfl rfl rfl ⟨_, rfl, h⟩
    · replace h := h.2 hc
      refine Z_iconst (a := 1) (v := 1) (q := 13) (by decide +kernel) (by decide +kernel) rfl ?_
      refine Z_goto (q := 17) (off := 4) (by decide +kernel) (by decide) ?_
      exact Z_iret (ty := .boolean) (by decide +kernel) rfl rfl rfl ⟨_, rfl, h⟩
theorem eX10_noSuchSum {d : Nat} (x0 : Int32) {iv : zI} {rv : zR} {lv : zJ} {Q : Int32 → zI → zR → zJ → Prop} (h : Zi mX10_noSuchSum d 0 [some (.int x0)] [] iv rv lv Q) : Ci mX10_noSuchSum d [.int x0] iv rv lv Q := Ci.of (by decide +kernel) (by simp [Value.category]) (Nat.le_of_ble_eq_true rfl) rfl h
set_option maxRecDepth 4000 in
theorem bX10_noSuchSum_0 {d : Nat} (x0 : Int32) {iv : zI} {rv : zR} {lv : zJ} {Q : Int32 → zI → zR → zJ → Prop} (hT : zTop rv) 
    (h : (x0 < 0 → Q (1 : Int32) iv rv lv) ∧ (¬ x0 < 0 → (x0 ≤ (99999 : Int32) → Q (0 : Int32) iv rv lv) ∧ (¬ x0 ≤ (99999 : Int32) → Q (1 : Int32) iv rv lv))) :
    Zi mX10_noSuchSum d 0 [some (.int x0)] [] iv rv lv Q := by
  unfold Zi
  refine Z_iload_n (a := 0) (q := 1) (by decide +kernel) rfl rfl ?_
  refine Z_if_lt (t := 11) (off := 10) (q := 4) (by decide +kernel) (by decide) rfl (fun hc => ?_) (fun hc => ?_)
  · replace h := h.1 hc
    refine Z_iconst (a := 1) (v := 1) (q := 12) (by decide +kernel) (by decide +kernel) rfl ?_
    refine Z_goto (q := 16) (off := 4) (by decide +kernel) (by decide) ?_
    exact Z_iret (ty := .boolean) (by decide +kernel) rfl rfl rfl ⟨_, rfl, h⟩
  · replace h := h.2 hc
    refine Z_iload_n (a := 0) (q := 5) (by decide +kernel) rfl rfl ?_
    refine Z_ldcw (a := 347) (v := 99999) (q := 8) (by decide +kernel) cX10_347 rfl ?_
    refine Z_icmp_le (t := 15) (off := 7) (q := 11) (by decide +kernel) (by decide) rfl (fun hc => ?_) (fun hc => ?_)
    · replace h := h.1 hc
      refine Z_iconst (a := 0) (v := 0) (q := 16) (by decide +kernel) (by decide +kernel) rfl ?_
      exact Z_iret (ty := .boolean) (by decide +kernel) rfl rfl rfl ⟨_, rfl, h⟩
    · replace h := h.2 hc
      refine Z_iconst (a := 1) (v := 1) (q := 12) (by decide +kernel) (by decide +kernel) rfl ?_
      refine Z_goto (q := 16) (off := 4) (by decide +kernel) (by decide) ?_
      exact Z_iret (ty := .boolean) (by decide +kernel) rfl rfl rfl ⟨_, rfl, h⟩
theorem eX10_notZeroOrOne {d : Nat} (x0 : Int32) {iv : zI} {rv : zR} {lv : zJ} {Q : Int32 → zI → zR → zJ → Prop} (h : Zi mX10_notZeroOrOne d 0 [some (.int x0)] [] iv rv lv Q) : Ci mX10_notZeroOrOne d [.int x0] iv rv lv Q := Ci.of (by decide +kernel) (by simp [Value.category]) (Nat.le_of_ble_eq_true rfl) rfl h
set_option maxRecDepth 4000 in
theorem bX10_notZeroOrOne_0 {d : Nat} (x0 : Int32) {iv : zI} {rv : zR} {lv : zJ} {Q : Int32 → zI → zR → zJ → Prop} (hT : zTop rv) 
    (h : (x0 < 0 → Q (1 : Int32) iv rv lv) ∧ (¬ x0 < 0 → (x0 ≤ (1 : Int32) → Q (0 : Int32) iv rv lv) ∧ (¬ x0 ≤ (1 : Int32) → Q (1 : Int32) iv rv lv))) :
    Zi mX10_notZeroOrOne d 0 [some (.int x0)] [] iv rv lv Q := by
  unfold Zi
  refine Z_iload_n (a := 0) (q := 1) (by decide +kernel) rfl rfl ?_
  refine Z_if_lt (t := 9) (off := 8) (q := 4) (by decide +kernel) (by decide) rfl (fun hc => ?_) (fun hc => ?_)
  · replace h := h.1 hc
    refine Z_iconst (a := 1) (v := 1) (q := 10) (by decide +kernel) (by decide +kernel) rfl ?_
    refine Z_goto (q := 14) (off := 4) (by decide +kernel) (by decide) ?_
    exact Z_iret (ty := .boolean) (by decide +kernel) rfl rfl rfl ⟨_, rfl, h⟩
  · replace h := h.2 hc
    refine Z_iload_n (a := 0) (q := 5) (by decide +kernel) rfl rfl ?_
    refine Z_iconst (a := 1) (v := 1) (q := 6) (by decide +kernel) (by decide +kernel) rfl ?_
    refine Z_icmp_le (t := 13) (off := 7) (q := 9) (by decide +kernel) (by decide) rfl (fun hc => ?_) (fun hc => ?_)
    · replace h := h.1 hc
      refine Z_iconst (a := 0) (v := 0) (q := 14) (by decide +kernel) (by decide +kernel) rfl ?_
      exact Z_iret (ty := .boolean) (by decide +kernel) rfl rfl rfl ⟨_, rfl, h⟩
    · replace h := h.2 hc
      refine Z_iconst (a := 1) (v := 1) (q := 10) (by decide +kernel) (by decide +kernel) rfl ?_
      refine Z_goto (q := 14) (off := 4) (by decide +kernel) (by decide) ?_
      exact Z_iret (ty := .boolean) (by decide +kernel) rfl rfl rfl ⟨_, rfl, h⟩
theorem eX10_allRows {d : Nat} (x1 : Int32) {iv : zI} {rv : zR} {lv : zJ} {Q : Nat → zI → zR → zJ → Prop} (h : Zr mX10_allRows (d + 1) 0 [some (.ref 0), some (.int x1)] [] iv rv lv Q) : Cr mX10_allRows (d + 1) [.ref 0, .int x1] iv rv lv Q := Cr.of (by decide +kernel) (by simp [Value.category]) (Nat.le_of_ble_eq_true rfl) rfl h
set_option maxRecDepth 4000 in
theorem bX10_allRows_0 {d : Nat} (x1 : Int32) {iv : zI} {rv : zR} {lv : zJ} {Q : Nat → zI → zR → zJ → Prop} (hT : zTop rv) 
    (h : vp_in ((zmx (2 : Int32) (zmn x1 (4 : Int32))) - (2 : Int32)) 3 ∧ (∃ r2 : Nat, rv 154 ((zmx (2 : Int32) (zmn x1 (4 : Int32))) - (2 : Int32)).toNatClampNeg = some r2 ∧ r2 ∈ zPts ∧ (Q r2 iv rv lv))) :
    Zr mX10_allRows (d + 1) 0 [some (.ref 0), some (.int x1)] [] iv rv lv Q := by
  unfold Zr
  refine Z_aload_n (a := 0) (q := 1) (by decide +kernel) rfl rfl ?_
  refine g10_8 (idx := 64) (q := 4) (by decide +kernel) fX10_64 rfl (by decide) (t10_8 hT) rfl ?_
  refine Z_iconst (a := 2) (v := 2) (q := 5) (by decide +kernel) (by decide +kernel) rfl ?_
  refine Z_iload_n (a := 1) (q := 6) (by decide +kernel) rfl rfl ?_
  refine Z_iconst (a := 4) (v := 4) (q := 7) (by decide +kernel) (by decide +kernel) rfl ?_
  refine Z_min (idx := 348) (q := 10) (by decide +kernel) lX10_348 (Nat.le_of_ble_eq_true rfl) (Nat.le_add_left 1 d) rfl ?_
  refine Z_max (idx := 256) (q := 13) (by decide +kernel) lX10_256 (Nat.le_of_ble_eq_true rfl) (Nat.le_add_left 1 d) rfl ?_
  refine Z_iconst (a := 2) (v := 2) (q := 14) (by decide +kernel) (by decide +kernel) rfl ?_
  refine Z_isub (q := 15) (by decide +kernel) rfl ?_
  obtain ⟨hin1, h⟩ := h
  obtain ⟨r2, hr, hmr2, h⟩ := h
  refine Z_aald (len := 3) (t := 6) (r := r2) (q := 16) (by decide +kernel) rfl (by decide) (by decide) (by decide) hin1 hr rfl ?_
  exact Z_aret (by decide +kernel) rfl rfl ⟨_, rfl, h⟩
theorem eX10_changed {d : Nat}  {iv : zI} {rv : zR} {lv : zJ} {Q : zI → zR → zJ → Prop} (h : Zv mX10_changed (d + 1) 0 [some (.ref 0)] [] iv rv lv Q) : Cv mX10_changed (d + 1) [.ref 0] iv rv lv Q := Cv.of (by decide +kernel) (by simp [Value.category]) (Nat.le_of_ble_eq_true rfl) rfl h
set_option maxRecDepth 4000 in
theorem bX10_changed_0 {d : Nat}  {iv : zI} {rv : zR} {lv : zJ} {Q : zI → zR → zJ → Prop} (hT : zTop rv) 
    (h : ∃ Q1 : zI → zR → zJ → Prop, Cv mX9_orderBySize d [.ref 8] iv rv lv Q1 ∧ ∀ (iv2 : zI) (rv3 : zR) (lv4 : zJ), Q1 iv2 rv3 lv4 → zTop rv3 ∧ (∀ iv7 : zI, iv7 = zu iv2 0 3 ((iv2 0 3) + (1 : Int32)) → Q iv7 rv3 lv4)) :
    Zv mX10_changed (d + 1) 0 [some (.ref 0)] [] iv rv lv Q := by
  unfold Zv
  refine Z_aload_n (a := 0) (q := 1) (by decide +kernel) rfl rfl ?_
  refine g10_1 (idx := 19) (q := 4) (by decide +kernel) fX10_19 rfl (by decide) (t10_1 hT) rfl ?_
  obtain ⟨Q1, hm, h⟩ := h
  refine Z_callVv (M2 := mX9_orderBySize) (idx := 351) (d2 := d) (ci := 9) (As := []) (q := 7) (by decide +kernel) kX9_orderBySize lX10_351 rfl (hS9_0 (by decide : 8 ∈ zSts)) (hL9_0 (by decide : 8 ∈ zSts)) rfl rfl (by decide +kernel) (Nat.le_of_ble_eq_true rfl) (Nat.le_refl _) hm rfl (fun iv2 rv3 lv4 hq => ?_)
  obtain ⟨hT5, h⟩ := h iv2 rv3 lv4 hq
  refine Z_aload_n (a := 0) (q := 8) (by decide +kernel) rfl rfl ?_
  refine Z_dup (q := 9) (by decide +kernel) rfl rfl ?_
  refine g10_3 (idx := 30) (q := 12) (by decide +kernel) fX10_30 rfl (by decide) rfl ?_
  refine Z_iconst (a := 1) (v := 1) (q := 13) (by decide +kernel) (by decide +kernel) rfl ?_
  refine Z_iadd (q := 14) (by decide +kernel) rfl ?_
  refine p10_3 (idx := 30) (q := 17) (by decide +kernel) fX10_30 rfl (by decide) rfl ?_
  replace h := h _ rfl
  exact Z_vret (by decide +kernel) rfl rfl ⟨rfl, h⟩
theorem eX10_putByte {d : Nat} (x1 : Int32) {iv : zI} {rv : zR} {lv : zJ} {Q : zI → zR → zJ → Prop} (h : Zv mX10_putByte d 0 [some (.ref 0), some (.int x1)] [] iv rv lv Q) : Cv mX10_putByte d [.ref 0, .int x1] iv rv lv Q := Cv.of (by decide +kernel) (by simp [Value.category]) (Nat.le_of_ble_eq_true rfl) rfl h
set_option maxRecDepth 4000 in
theorem bX10_putByte_0 {d : Nat} (x1 : Int32) {iv : zI} {rv : zR} {lv : zJ} {Q : zI → zR → zJ → Prop} (hT : zTop rv) 
    (h : ((64 : Int32) ≤ (iv 0 11) → Q iv rv lv) ∧ (¬ (64 : Int32) ≤ (iv 0 11) → vp_in (iv 0 11) 64 ∧ (∀ iv2 : zI, iv2 = zu iv 158 (iv 0 11).toNatClampNeg (vp_nar .byte x1.toInt8.toInt32) → ∀ iv3 : zI, iv3 = zu iv2 0 11 ((iv2 0 11) + (1 : Int32)) → Q iv3 rv lv))) :
    Zv mX10_putByte d 0 [some (.ref 0), some (.int x1)] [] iv rv lv Q := by
  unfold Zv
  refine Z_aload_n (a := 0) (q := 1) (by decide +kernel) rfl rfl ?_
  refine g10_11 (idx := 79) (q := 4) (by decide +kernel) fX10_79 rfl (by decide) rfl ?_
  refine Z_bipush (a := 64) (v := 64) (q := 6) (by decide +kernel) (by decide +kernel) rfl ?_
  refine Z_icmp_ge (t := 30) (off := 24) (q := 9) (by decide +kernel) (by decide) rfl (fun hc => ?_) (fun hc => ?_)
  · replace h := h.1 hc
    exact Z_vret (by decide +kernel) rfl rfl ⟨rfl, h⟩
  · replace h := h.2 hc
    refine Z_aload_n (a := 0) (q := 10) (by decide +kernel) rfl rfl ?_
    refine g10_10 (idx := 75) (q := 13) (by decide +kernel) fX10_75 rfl (by decide) (t10_10 hT) rfl ?_
    refine Z_aload_n (a := 0) (q := 14) (by decide +kernel) rfl rfl ?_
    refine g10_11 (idx := 79) (q := 17) (by decide +kernel) fX10_79 rfl (by decide) rfl ?_
    refine Z_iload_n (a := 1) (q := 18) (by decide +kernel) rfl rfl ?_
    refine Z_i2b (q := 19) (by decide +kernel) rfl ?_
    obtain ⟨hin1, h⟩ := h
    refine Z_bast (len := 64) (q := 20) (by decide +kernel) rfl (by decide) hin1 rfl ?_
    replace h := h _ rfl
    refine Z_aload_n (a := 0) (q := 21) (by decide +kernel) rfl rfl ?_
    refine Z_dup (q := 22) (by decide +kernel) rfl rfl ?_
    refine g10_11 (idx := 79) (q := 25) (by decide +kernel) fX10_79 rfl (by decide) rfl ?_
    refine Z_iconst (a := 1) (v := 1) (q := 26) (by decide +kernel) (by decide +kernel) rfl ?_
    refine Z_iadd (q := 27) (by decide +kernel) rfl ?_
    refine p10_11 (idx := 79) (q := 30) (by decide +kernel) fX10_79 rfl (by decide) rfl ?_
    replace h := h _ rfl
    exact Z_vret (by decide +kernel) rfl rfl ⟨rfl, h⟩
theorem eX10_putHeap {d : Nat} (x1 : Int32) (x2 l_x2 : Nat) {iv : zI} {rv : zR} {lv : zJ} {Q : zI → zR → zJ → Prop} (h : Zv mX10_putHeap (d + 1) 0 [some (.ref 0), some (.int x1), some (.ref x2), none, none] [] iv rv lv Q) : Cv mX10_putHeap (d + 1) [.ref 0, .int x1, .ref x2] iv rv lv Q := Cv.of (by decide +kernel) (by simp [Value.category]) (Nat.le_of_ble_eq_true rfl) rfl h
set_option maxRecDepth 4000 in
theorem bX10_putHeap_0 {d : Nat} (x1 : Int32) (x2 l_x2 : Nat) {iv : zI} {rv : zR} {lv : zJ} {Q : zI → zR → zJ → Prop} (hT : zTop rv) (s_x2 : zSH x2 = (0, l_x2)) (a_x2 : x2 < 200)
    (h : Zv mX10_putHeap (d + 1) 5 [some (.ref 0), some (.int x1), some (.ref x2), some (.int (1 : Int32)), some (.int (0 : Int32))] [] iv rv lv Q) :
    Zv mX10_putHeap (d + 1) 0 [some (.ref 0), some (.int x1), some (.ref x2), none, none] [] iv rv lv Q := by
  unfold Zv
  refine Z_iconst (a := 1) (v := 1) (q := 1) (by decide +kernel) (by decide +kernel) rfl ?_
  refine Z_istore_n (a := 3) (loc2 := [_, _, _, _, _]) (q := 2) (by decide +kernel) (by decide +kernel) rfl rfl rfl ?_
  refine Z_iconst (a := 0) (v := 0) (q := 3) (by decide +kernel) (by decide +kernel) rfl ?_
  refine Z_istore (a := 4) (loc2 := [_, _, _, _, _]) (q := 5) (by decide +kernel) (by decide +kernel) rfl rfl rfl ?_
  exact h
set_option maxRecDepth 4000 in
theorem bX10_putHeap_5 {d : Nat} (x1 : Int32) (x2 l_x2 : Nat) (x3 : Int32) (x4 : Int32) {iv : zI} {rv : zR} {lv : zJ} {Q : zI → zR → zJ → Prop} (hT : zTop rv) (s_x2 : zSH x2 = (0, l_x2)) (a_x2 : x2 < 200)
    (h : ((iv 8 0) ≤ x4 → (x3 = 0 → Q iv rv lv) ∧ (¬ x3 = 0 → ∃ Q1 : zI → zR → zJ → Prop, Cv mX10_putByte d [.ref 0, .int (48 : Int32)] iv rv lv Q1 ∧ ∀ (iv2 : zI) (rv3 : zR) (lv4 : zJ), Q1 iv2 rv3 lv4 → zTop rv3 ∧ (Q iv2 rv3 lv4))) ∧ (¬ (iv 8 0) ≤ x4 → vp_in x4 l_x2 ∧ ((¬ (iv x2 x4.toNatClampNeg) = x1 → Zv mX10_putHeap (d + 1) 5 [some (.ref 0), some (.int x1), some (.ref x2), some (.int x3), some (.int (x4 + 1))] [] iv rv lv Q) ∧ ((iv x2 x4.toNatClampNeg) = x1 → (¬ x3 = 0 → vp_in x4 10 ∧ (∃ Q9 : zI → zR → zJ → Prop, Cv mX10_putNumber d [.ref 0, .int (iv (8 + 1) x4.toNatClampNeg)] iv rv lv Q9 ∧ ∀ (iv10 : zI) (rv11 : zR) (lv12 : zJ), Q9 iv10 rv11 lv12 → zTop rv11 ∧ (Zv mX10_putHeap (d + 1) 5 [some (.ref 0), some (.int x1), some (.ref x2), some (.int (0 : Int32)), some (.int (x4 + 1))] [] iv10 rv11 lv12 Q))) ∧ (x3 = 0 → ∃ Q15 : zI → zR → zJ → Prop, Cv mX10_putByte d [.ref 0, .int (43 : Int32)] iv rv lv Q15 ∧ ∀ (iv16 : zI) (rv17 : zR) (lv18 : zJ), Q15 iv16 rv17 lv18 → zTop rv17 ∧ (vp_in x4 10 ∧ (∃ Q22 : zI → zR → zJ → Prop, Cv mX10_putNumber d [.ref 0, .int (iv16 (8 + 1) x4.toNatClampNeg)] iv16 rv17 lv18 Q22 ∧ ∀ (iv23 : zI) (rv24 : zR) (lv25 : zJ), Q22 iv23 rv24 lv25 → zTop rv24 ∧ (Zv mX10_putHeap (d + 1) 5 [some (.ref 0), some (.int x1), some (.ref x2), some (.int (0 : Int32)), some (.int (x4 + 1))] [] iv23 rv24 lv25 Q)))))))) :
    Zv mX10_putHeap (d + 1) 5 [some (.ref 0), some (.int x1), some (.ref x2), some (.int x3), some (.int x4)] [] iv rv lv Q := by
  unfold Zv
  refine Z_iload (a := 4) (q := 7) (by decide +kernel) rfl rfl ?_
  refine Z_aload_n (a := 0) (q := 8) (by decide +kernel) rfl rfl ?_
  refine g10_1 (idx := 19) (q := 11) (by decide +kernel) fX10_19 rfl (by decide) (t10_1 hT) rfl ?_
  refine g9_0 (idx := 130) (q := 14) (by decide +kernel) fX10_130 (hS9_0 (by decide : 8 ∈ zSts)) (hL9_0 (by decide : 8 ∈ zSts)) rfl ?_
  refine Z_icmp_ge (t := 57) (off := 43) (q := 17) (by decide +kernel) (by decide) rfl (fun hc => ?_) (fun hc => ?_)
  · replace h := h.1 hc
    refine Z_iload_n (a := 3) (q := 58) (by decide +kernel) rfl rfl ?_
    refine Z_if_eq (t := 67) (off := 9) (q := 61) (by decide +kernel) (by decide) rfl (fun hc => ?_) (fun hc => ?_)
    · replace h := h.1 hc
      exact Z_vret (by decide +kernel) rfl rfl ⟨rfl, h⟩
    · replace h := h.2 hc
      refine Z_aload_n (a := 0) (q := 62) (by decide +kernel) rfl rfl ?_
      refine Z_bipush (a := 48) (v := 48) (q := 64) (by decide +kernel) (by decide +kernel) rfl ?_
      obtain ⟨Q1, hm, h⟩ := h
      refine Z_callVv (M2 := mX10_putByte) (idx := 337) (d2 := d) (ci := 10) (As := [.int _]) (q := 67) (by decide +kernel) kX10_putByte lX10_337 rfl rfl (by decide) rfl rfl (by decide +kernel) (Nat.le_of_ble_eq_true rfl) (Nat.le_refl _) hm rfl (fun iv2 rv3 lv4 hq => ?_)
      obtain ⟨hT5, h⟩ := h iv2 rv3 lv4 hq
      exact Z_vret (by decide +kernel) rfl rfl ⟨rfl, h⟩
  · replace h := h.2 hc
    refine Z_aload_n (a := 2) (q := 18) (by decide +kernel) rfl rfl ?_
    refine Z_iload (a := 4) (q := 20) (by decide +kernel) rfl rfl ?_
    obtain ⟨hin7, h⟩ := h
    refine Z_iald (len := l_x2) (q := 21) (by decide +kernel) s_x2 a_x2 hin7 rfl ?_
    refine Z_iload_n (a := 1) (q := 22) (by decide +kernel) rfl rfl ?_
    refine Z_icmp_ne (t := 51) (off := 29) (q := 25) (by decide +kernel) (by decide) rfl (fun hc => ?_) (fun hc => ?_)
    · replace h := h.1 hc
      refine Z_iinc (a := 4) (b := 1) (v := _ + 1) (loc2 := [_, _, _, _, _]) (q := 54) (by decide +kernel) rfl (zinc _) (by decide +kernel) rfl rfl rfl ?_
      refine Z_goto (q := 5) (off := -49) (by decide +kernel) (by decide) ?_
      exact h
    · replace h := h.2 hc
      refine Z_iload_n (a := 3) (q := 26) (by decide +kernel) rfl rfl ?_
      refine Z_if_ne (t := 35) (off := 9) (q := 29) (by decide +kernel) (by decide) rfl (fun hc => ?_) (fun hc => ?_)
      · replace h := h.1 hc
        refine Z_aload_n (a := 0) (q := 36) (by decide +kernel) rfl rfl ?_
        refine Z_aload_n (a := 0) (q := 37) (by decide +kernel) rfl rfl ?_
        refine g10_1 (idx := 19) (q := 40) (by decide +kernel) fX10_19 rfl (by decide) (t10_1 hT) rfl ?_
        refine g9_2 (idx := 156) (q := 43) (by decide +kernel) fX10_156 (hS9_0 (by decide : 8 ∈ zSts)) (hL9_0 (by decide : 8 ∈ zSts)) (t9_2 hT (by decide : 8 ∈ zSts)) rfl ?_
        refine Z_iload (a := 4) (q := 45) (by decide +kernel) rfl rfl ?_
        obtain ⟨hin8, h⟩ := h
        refine Z_iald (len := 10) (q := 46) (by decide +kernel) (hS9_1 (by decide : 8 ∈ zSts)) (hL9_1 (by decide : 8 ∈ zSts)) hin8 rfl ?_
        obtain ⟨Q9, hm, h⟩ := h
        refine Z_callVv (M2 := mX10_putNumber) (idx := 354) (d2 := d) (ci := 10) (As := [.int _]) (q := 49) (by decide +kernel) kX10_putNumber lX10_354 rfl rfl (by decide) rfl rfl (by decide +kernel) (Nat.le_of_ble_eq_true rfl) (Nat.le_refl _) hm rfl (fun iv10 rv11 lv12 hq => ?_)
        obtain ⟨hT13, h⟩ := h iv10 rv11 lv12 hq
        refine Z_iconst (a := 0) (v := 0) (q := 50) (by decide +kernel) (by decide +kernel) rfl ?_
        refine Z_istore_n (a := 3) (loc2 := [_, _, _, _, _]) (q := 51) (by decide +kernel) (by decide +kernel) rfl rfl rfl ?_
        refine Z_iinc (a := 4) (b := 1) (v := _ + 1) (loc2 := [_, _, _, _, _]) (q := 54) (by decide +kernel) rfl (zinc _) (by decide +kernel) rfl rfl rfl ?_
        refine Z_goto (q := 5) (off := -49) (by decide +kernel) (by decide) ?_
        exact h
      · replace h := h.2 hc
        refine Z_aload_n (a := 0) (q := 30) (by decide +kernel) rfl rfl ?_
        refine Z_bipush (a := 43) (v := 43) (q := 32) (by decide +kernel) (by decide +kernel) rfl ?_
        obtain ⟨Q15, hm, h⟩ := h
        refine Z_callVv (M2 := mX10_putByte) (idx := 337) (d2 := d) (ci := 10) (As := [.int _]) (q := 35) (by decide +kernel) kX10_putByte lX10_337 rfl rfl (by decide) rfl rfl (by decide +kernel) (Nat.le_of_ble_eq_true rfl) (Nat.le_refl _) hm rfl (fun iv16 rv17 lv18 hq => ?_)
        obtain ⟨hT19, h⟩ := h iv16 rv17 lv18 hq
        refine Z_aload_n (a := 0) (q := 36) (by decide +kernel) rfl rfl ?_
        refine Z_aload_n (a := 0) (q := 37) (by decide +kernel) rfl rfl ?_
        refine g10_1 (idx := 19) (q := 40) (by decide +kernel) fX10_19 rfl (by decide) (t10_1 hT19) rfl ?_
        refine g9_2 (idx := 156) (q := 43) (by decide +kernel) fX10_156 (hS9_0 (by decide : 8 ∈ zSts)) (hL9_0 (by decide : 8 ∈ zSts)) (t9_2 hT19 (by decide : 8 ∈ zSts)) rfl ?_
        refine Z_iload (a := 4) (q := 45) (by decide +kernel) rfl rfl ?_
        obtain ⟨hin21, h⟩ := h
        refine Z_iald (len := 10) (q := 46) (by decide +kernel) (hS9_1 (by decide : 8 ∈ zSts)) (hL9_1 (by decide : 8 ∈ zSts)) hin21 rfl ?_
        obtain ⟨Q22, hm, h⟩ := h
        refine Z_callVv (M2 := mX10_putNumber) (idx := 354) (d2 := d) (ci := 10) (As := [.int _]) (q := 49) (by decide +kernel) kX10_putNumber lX10_354 rfl rfl (by decide) rfl rfl (by decide +kernel) (Nat.le_of_ble_eq_true rfl) (Nat.le_refl _) hm rfl (fun iv23 rv24 lv25 hq => ?_)
        obtain ⟨hT26, h⟩ := h iv23 rv24 lv25 hq
        refine Z_iconst (a := 0) (v := 0) (q := 50) (by decide +kernel) (by decide +kernel) rfl ?_
        refine Z_istore_n (a := 3) (loc2 := [_, _, _, _, _]) (q := 51) (by decide +kernel) (by decide +kernel) rfl rfl rfl ?_
        refine Z_iinc (a := 4) (b := 1) (v := _ + 1) (loc2 := [_, _, _, _, _]) (q := 54) (by decide +kernel) rfl (zinc _) (by decide +kernel) rfl rfl rfl ?_
        refine Z_goto (q := 5) (off := -49) (by decide +kernel) (by decide) ?_
        exact h
theorem eX10_putNumber {d : Nat} (x1 : Int32) {iv : zI} {rv : zR} {lv : zJ} {Q : zI → zR → zJ → Prop} (h : Zv mX10_putNumber (d + 1) 0 [some (.ref 0), some (.int x1), none] [] iv rv lv Q) : Cv mX10_putNumber (d + 1) [.ref 0, .int x1] iv rv lv Q := Cv.of (by decide +kernel) (by simp [Value.category]) (Nat.le_of_ble_eq_true rfl) rfl h
set_option maxRecDepth 4000 in
theorem bX10_putNumber_0 {d : Nat} (x1 : Int32) {iv : zI} {rv : zR} {lv : zJ} {Q : zI → zR → zJ → Prop} (hT : zTop rv) 
    (h : Zv mX10_putNumber (d + 1) 4 [some (.ref 0), some (.int x1), some (.int (1000 : Int32))] [] iv rv lv Q) :
    Zv mX10_putNumber (d + 1) 0 [some (.ref 0), some (.int x1), none] [] iv rv lv Q := by
  unfold Zv
  refine Z_sipush (a := 1000) (v := 1000) (q := 3) (by decide +kernel) (by decide +kernel) rfl ?_
  refine Z_istore_n (a := 2) (loc2 := [_, _, _]) (q := 4) (by decide +kernel) (by decide +kernel) rfl rfl rfl ?_
  exact h
set_option maxRecDepth 4000 in
theorem bX10_putNumber_4 {d : Nat} (x1 : Int32) (x2 : Int32) {iv : zI} {rv : zR} {lv : zJ} {Q : zI → zR → zJ → Prop} (hT : zTop rv) 
    (h : (x2 ≤ 0 → Q iv rv lv) ∧ (¬ x2 ≤ 0 → (x1 < x2 → Zv mX10_putNumber (d + 1) 4 [some (.ref 0), some (.int x1), some (.int (x2 / (10 : Int32)))] [] iv rv lv Q) ∧ (¬ x1 < x2 → ¬ x2 = 0 ∧ (∃ Q1 : zI → zR → zJ → Prop, Cv mX10_putByte d [.ref 0, .int ((48 : Int32) + ((x1 / x2) - (x1 / x2) / (10 : Int32) * (10 : Int32)))] iv rv lv Q1 ∧ ∀ (iv2 : zI) (rv3 : zR) (lv4 : zJ), Q1 iv2 rv3 lv4 → zTop rv3 ∧ (Zv mX10_putNumber (d + 1) 4 [some (.ref 0), some (.int x1), some (.int (x2 / (10 : Int32)))] [] iv2 rv3 lv4 Q))))) :
    Zv mX10_putNumber (d + 1) 4 [some (.ref 0), some (.int x1), some (.int x2)] [] iv rv lv Q := by
  unfold Zv
  refine Z_iload_n (a := 2) (q := 5) (by decide +kernel) rfl rfl ?_
  refine Z_if_le (t := 34) (off := 29) (q := 8) (by decide +kernel) (by decide) rfl (fun hc => ?_) (fun hc => ?_)
  · replace h := h.1 hc
    exact Z_vret (by decide +kernel) rfl rfl ⟨rfl, h⟩
  · replace h := h.2 hc
    refine Z_iload_n (a := 1) (q := 9) (by decide +kernel) rfl rfl ?_
    refine Z_iload_n (a := 2) (q := 10) (by decide +kernel) rfl rfl ?_
    refine Z_icmp_lt (t := 26) (off := 16) (q := 13) (by decide +kernel) (by decide) rfl (fun hc => ?_) (fun hc => ?_)
    · replace h := h.1 hc
      refine Z_iload_n (a := 2) (q := 27) (by decide +kernel) rfl rfl ?_
      refine Z_bipush (a := 10) (v := 10) (q := 29) (by decide +kernel) (by decide +kernel) rfl ?_
      refine Z_idiv (q := 30) (by decide +kernel) (by decide) rfl ?_
      refine Z_istore_n (a := 2) (loc2 := [_, _, _]) (q := 31) (by decide +kernel) (by decide +kernel) rfl rfl rfl ?_
      refine Z_goto (q := 4) (off := -27) (by decide +kernel) (by decide) ?_
      exact h
    · replace h := h.2 hc
      refine Z_aload_n (a := 0) (q := 14) (by decide +kernel) rfl rfl ?_
      refine Z_bipush (a := 48) (v := 48) (q := 16) (by decide +kernel) (by decide +kernel) rfl ?_
      refine Z_iload_n (a := 1) (q := 17) (by decide +kernel) rfl rfl ?_
      refine Z_iload_n (a := 2) (q := 18) (by decide +kernel) rfl rfl ?_
      obtain ⟨hne, h⟩ := h
      refine Z_idiv (q := 19) (by decide +kernel) hne rfl ?_
      refine Z_bipush (a := 10) (v := 10) (q := 21) (by decide +kernel) (by decide +kernel) rfl ?_
      refine Z_irem (q := 22) (by decide +kernel) (by decide) rfl ?_
      refine Z_iadd (q := 23) (by decide +kernel) rfl ?_
      obtain ⟨Q1, hm, h⟩ := h
      refine Z_callVv (M2 := mX10_putByte) (idx := 337) (d2 := d) (ci := 10) (As := [.int _]) (q := 26) (by decide +kernel) kX10_putByte lX10_337 rfl rfl (by decide) rfl rfl (by decide +kernel) (Nat.le_of_ble_eq_true rfl) (Nat.le_refl _) hm rfl (fun iv2 rv3 lv4 hq => ?_)
      obtain ⟨hT5, h⟩ := h iv2 rv3 lv4 hq
      refine Z_iload_n (a := 2) (q := 27) (by decide +kernel) rfl rfl ?_
      refine Z_bipush (a := 10) (v := 10) (q := 29) (by decide +kernel) (by decide +kernel) rfl ?_
      refine Z_idiv (q := 30) (by decide +kernel) (by decide) rfl ?_
      refine Z_istore_n (a := 2) (loc2 := [_, _, _]) (q := 31) (by decide +kernel) (by decide +kernel) rfl rfl rfl ?_
      refine Z_goto (q := 4) (off := -27) (by decide +kernel) (by decide) ?_
      exact h
theorem eX10_sideOf {d : Nat} (x0 : Int32) (x1 : Int32) {iv : zI} {rv : zR} {lv : zJ} {Q : Int32 → zI → zR → zJ → Prop} (h : Zi mX10_sideOf d 0 [some (.int x0), some (.int x1)] [] iv rv lv Q) : Ci mX10_sideOf d [.int x0, .int x1] iv rv lv Q := Ci.of (by decide +kernel) (by simp [Value.category]) (Nat.le_of_ble_eq_true rfl) rfl h
set_option maxRecDepth 4000 in
theorem bX10_sideOf_0 {d : Nat} (x0 : Int32) (x1 : Int32) {iv : zI} {rv : zR} {lv : zJ} {Q : Int32 → zI → zR → zJ → Prop} (hT : zTop rv) 
    (h : (¬ ((x1 >>> (x0 &&& 31)) &&& (1 : Int32)) = (x1 &&& (1 : Int32)) → Q (1 : Int32) iv rv lv) ∧ (((x1 >>> (x0 &&& 31)) &&& (1 : Int32)) = (x1 &&& (1 : Int32)) → Q (0 : Int32) iv rv lv)) :
    Zi mX10_sideOf d 0 [some (.int x0), some (.int x1)] [] iv rv lv Q := by
  unfold Zi
  refine Z_iload_n (a := 1) (q := 1) (by decide +kernel) rfl rfl ?_
  refine Z_iload_n (a := 0) (q := 2) (by decide +kernel) rfl rfl ?_
  refine Z_ishr (q := 3) (by decide +kernel) rfl ?_
  refine Z_iconst (a := 1) (v := 1) (q := 4) (by decide +kernel) (by decide +kernel) rfl ?_
  refine Z_iand (q := 5) (by decide +kernel) rfl ?_
  refine Z_iload_n (a := 1) (q := 6) (by decide +kernel) rfl rfl ?_
  refine Z_iconst (a := 1) (v := 1) (q := 7) (by decide +kernel) (by decide +kernel) rfl ?_
  refine Z_iand (q := 8) (by decide +kernel) rfl ?_
  refine Z_icmp_ne (t := 15) (off := 7) (q := 11) (by decide +kernel) (by decide) rfl (fun hc => ?_) (fun hc => ?_)
  · replace h := h.1 hc
    refine Z_iconst (a := 1) (v := 1) (q := 16) (by decide +kernel) (by decide +kernel) rfl ?_
    exact Z_iret (ty := .int) (by decide +kernel) rfl rfl rfl ⟨_, rfl, h⟩
  · replace h := h.2 hc
    refine Z_iconst (a := 0) (v := 0) (q := 12) (by decide +kernel) (by decide +kernel) rfl ?_
    refine Z_goto (q := 16) (off := 4) (by decide +kernel) (by decide) ?_
    exact Z_iret (ty := .int) (by decide +kernel) rfl rfl rfl ⟨_, rfl, h⟩
theorem eX10_leastMember {d : Nat} (x0 : Int32) {iv : zI} {rv : zR} {lv : zJ} {Q : Int32 → zI → zR → zJ → Prop} (h : Zi mX10_leastMember d 0 [some (.int x0)] [] iv rv lv Q) : Ci mX10_leastMember d [.int x0] iv rv lv Q := Ci.of (by decide +kernel) (by simp [Value.category]) (Nat.le_of_ble_eq_true rfl) rfl h
set_option maxRecDepth 4000 in
theorem bX10_leastMember_0 {d : Nat} (x0 : Int32) {iv : zI} {rv : zR} {lv : zJ} {Q : Int32 → zI → zR → zJ → Prop} (hT : zTop rv) 
    (h : (¬ x0 = 0 → Q (x0 &&& (-x0)) iv rv lv) ∧ (x0 = 0 → Q (1024 : Int32) iv rv lv)) :
    Zi mX10_leastMember d 0 [some (.int x0)] [] iv rv lv Q := by
  unfold Zi
  refine Z_iload_n (a := 0) (q := 1) (by decide +kernel) rfl rfl ?_
  refine Z_if_ne (t := 10) (off := 9) (q := 4) (by decide +kernel) (by decide) rfl (fun hc => ?_) (fun hc => ?_)
  · replace h := h.1 hc
    refine Z_iload_n (a := 0) (q := 11) (by decide +kernel) rfl rfl ?_
    refine Z_iload_n (a := 0) (q := 12) (by decide +kernel) rfl rfl ?_
    refine Z_ineg (q := 13) (by decide +kernel) rfl ?_
    refine Z_iand (q := 14) (by decide +kernel) rfl ?_
    exact Z_iret (ty := .int) (by decide +kernel) rfl rfl rfl ⟨_, rfl, h⟩
  · replace h := h.2 hc
    refine Z_sipush (a := 1024) (v := 1024) (q := 7) (by decide +kernel) (by decide +kernel) rfl ?_
    refine Z_goto (q := 14) (off := 7) (by decide +kernel) (by decide) ?_
    exact Z_iret (ty := .int) (by decide +kernel) rfl rfl rfl ⟨_, rfl, h⟩
theorem eX10_greatestAmong {d : Nat} (x0 l_x0 : Nat) (x1 : Int32) {iv : zI} {rv : zR} {lv : zJ} {Q : Int32 → zI → zR → zJ → Prop} (h : Zi mX10_greatestAmong (d + 1) 0 [some (.ref x0), some (.int x1), none, none] [] iv rv lv Q) : Ci mX10_greatestAmong (d + 1) [.ref x0, .int x1] iv rv lv Q := Ci.of (by decide +kernel) (by simp [Value.category]) (Nat.le_of_ble_eq_true rfl) rfl h
set_option maxRecDepth 4000 in
theorem bX10_greatestAmong_0 {d : Nat} (x0 l_x0 : Nat) (x1 : Int32) {iv : zI} {rv : zR} {lv : zJ} {Q : Int32 → zI → zR → zJ → Prop} (hT : zTop rv) (s_x0 : zSH x0 = (0, l_x0)) (a_x0 : x0 < 200)
    (h : vp_in (0 : Int32) l_x0 ∧ (Zi mX10_greatestAmong (d + 1) 6 [some (.ref x0), some (.int x1), some (.int (iv x0 0)), some (.int (1 : Int32))] [] iv rv lv Q)) :
    Zi mX10_greatestAmong (d + 1) 0 [some (.ref x0), some (.int x1), none, none] [] iv rv lv Q := by
  unfold Zi
  refine Z_aload_n (a := 0) (q := 1) (by decide +kernel) rfl rfl ?_
  refine Z_iconst (a := 0) (v := 0) (q := 2) (by decide +kernel) (by decide +kernel) rfl ?_
  obtain ⟨hin1, h⟩ := h
  refine Z_iald (len := l_x0) (q := 3) (by decide +kernel) s_x0 a_x0 hin1 rfl ?_
  refine Z_istore_n (a := 2) (loc2 := [_, _, _, _]) (q := 4) (by decide +kernel) (by decide +kernel) rfl rfl rfl ?_
  refine Z_iconst (a := 1) (v := 1) (q := 5) (by decide +kernel) (by decide +kernel) rfl ?_
  refine Z_istore_n (a := 3) (loc2 := [_, _, _, _]) (q := 6) (by decide +kernel) (by decide +kernel) rfl rfl rfl ?_
  exact h
set_option maxRecDepth 4000 in
theorem bX10_greatestAmong_6 {d : Nat} (x0 l_x0 : Nat) (x1 : Int32) (x2 : Int32) (x3 : Int32) {iv : zI} {rv : zR} {lv : zJ} {Q : Int32 → zI → zR → zJ → Prop} (hT : zTop rv) (s_x0 : zSH x0 = (0, l_x0)) (a_x0 : x0 < 200)
    (h : (x1 ≤ x3 → Q x2 iv rv lv) ∧ (¬ x1 ≤ x3 → vp_in x3 l_x0 ∧ (Zi mX10_greatestAmong (d + 1) 6 [some (.ref x0), some (.int x1), some (.int (zmx x2 (iv x0 x3.toNatClampNeg))), some (.int (x3 + 1))] [] iv rv lv Q))) :
    Zi mX10_greatestAmong (d + 1) 6 [some (.ref x0), some (.int x1), some (.int x2), some (.int x3)] [] iv rv lv Q := by
  unfold Zi
  refine Z_iload_n (a := 3) (q := 7) (by decide +kernel) rfl rfl ?_
  refine Z_iload_n (a := 1) (q := 8) (by decide +kernel) rfl rfl ?_
  refine Z_icmp_ge (t := 25) (off := 17) (q := 11) (by decide +kernel) (by decide) rfl (fun hc => ?_) (fun hc => ?_)
  · replace h := h.1 hc
    refine Z_iload_n (a := 2) (q := 26) (by decide +kernel) rfl rfl ?_
    exact Z_iret (ty := .int) (by decide +kernel) rfl rfl rfl ⟨_, rfl, h⟩
  · replace h := h.2 hc
    refine Z_iload_n (a := 2) (q := 12) (by decide +kernel) rfl rfl ?_
    refine Z_aload_n (a := 0) (q := 13) (by decide +kernel) rfl rfl ?_
    refine Z_iload_n (a := 3) (q := 14) (by decide +kernel) rfl rfl ?_
    obtain ⟨hin1, h⟩ := h
    refine Z_iald (len := l_x0) (q := 15) (by decide +kernel) s_x0 a_x0 hin1 rfl ?_
    refine Z_max (idx := 256) (q := 18) (by decide +kernel) lX10_256 (Nat.le_of_ble_eq_true rfl) (Nat.le_add_left 1 d) rfl ?_
    refine Z_istore_n (a := 2) (loc2 := [_, _, _, _]) (q := 19) (by decide +kernel) (by decide +kernel) rfl rfl rfl ?_
    refine Z_iinc (a := 3) (b := 1) (v := _ + 1) (loc2 := [_, _, _, _]) (q := 22) (by decide +kernel) rfl (zinc _) (by decide +kernel) rfl rfl rfl ?_
    refine Z_goto (q := 6) (off := -16) (by decide +kernel) (by decide) ?_
    exact h
theorem eX10_leastAmong {d : Nat} (x0 l_x0 : Nat) (x1 : Int32) {iv : zI} {rv : zR} {lv : zJ} {Q : Int32 → zI → zR → zJ → Prop} (h : Zi mX10_leastAmong (d + 1) 0 [some (.ref x0), some (.int x1), none, none] [] iv rv lv Q) : Ci mX10_leastAmong (d + 1) [.ref x0, .int x1] iv rv lv Q := Ci.of (by decide +kernel) (by simp [Value.category]) (Nat.le_of_ble_eq_true rfl) rfl h
set_option maxRecDepth 4000 in
theorem bX10_leastAmong_0 {d : Nat} (x0 l_x0 : Nat) (x1 : Int32) {iv : zI} {rv : zR} {lv : zJ} {Q : Int32 → zI → zR → zJ → Prop} (hT : zTop rv) (s_x0 : zSH x0 = (0, l_x0)) (a_x0 : x0 < 200)
    (h : vp_in (0 : Int32) l_x0 ∧ (Zi mX10_leastAmong (d + 1) 6 [some (.ref x0), some (.int x1), some (.int (iv x0 0)), some (.int (1 : Int32))] [] iv rv lv Q)) :
    Zi mX10_leastAmong (d + 1) 0 [some (.ref x0), some (.int x1), none, none] [] iv rv lv Q := by
  unfold Zi
  refine Z_aload_n (a := 0) (q := 1) (by decide +kernel) rfl rfl ?_
  refine Z_iconst (a := 0) (v := 0) (q := 2) (by decide +kernel) (by decide +kernel) rfl ?_
  obtain ⟨hin1, h⟩ := h
  refine Z_iald (len := l_x0) (q := 3) (by decide +kernel) s_x0 a_x0 hin1 rfl ?_
  refine Z_istore_n (a := 2) (loc2 := [_, _, _, _]) (q := 4) (by decide +kernel) (by decide +kernel) rfl rfl rfl ?_
  refine Z_iconst (a := 1) (v := 1) (q := 5) (by decide +kernel) (by decide +kernel) rfl ?_
  refine Z_istore_n (a := 3) (loc2 := [_, _, _, _]) (q := 6) (by decide +kernel) (by decide +kernel) rfl rfl rfl ?_
  exact h
set_option maxRecDepth 4000 in
theorem bX10_leastAmong_6 {d : Nat} (x0 l_x0 : Nat) (x1 : Int32) (x2 : Int32) (x3 : Int32) {iv : zI} {rv : zR} {lv : zJ} {Q : Int32 → zI → zR → zJ → Prop} (hT : zTop rv) (s_x0 : zSH x0 = (0, l_x0)) (a_x0 : x0 < 200)
    (h : (x1 ≤ x3 → Q x2 iv rv lv) ∧ (¬ x1 ≤ x3 → vp_in x3 l_x0 ∧ (Zi mX10_leastAmong (d + 1) 6 [some (.ref x0), some (.int x1), some (.int (zmn x2 (iv x0 x3.toNatClampNeg))), some (.int (x3 + 1))] [] iv rv lv Q))) :
    Zi mX10_leastAmong (d + 1) 6 [some (.ref x0), some (.int x1), some (.int x2), some (.int x3)] [] iv rv lv Q := by
  unfold Zi
  refine Z_iload_n (a := 3) (q := 7) (by decide +kernel) rfl rfl ?_
  refine Z_iload_n (a := 1) (q := 8) (by decide +kernel) rfl rfl ?_
  refine Z_icmp_ge (t := 25) (off := 17) (q := 11) (by decide +kernel) (by decide) rfl (fun hc => ?_) (fun hc => ?_)
  · replace h := h.1 hc
    refine Z_iload_n (a := 2) (q := 26) (by decide +kernel) rfl rfl ?_
    exact Z_iret (ty := .int) (by decide +kernel) rfl rfl rfl ⟨_, rfl, h⟩
  · replace h := h.2 hc
    refine Z_iload_n (a := 2) (q := 12) (by decide +kernel) rfl rfl ?_
    refine Z_aload_n (a := 0) (q := 13) (by decide +kernel) rfl rfl ?_
    refine Z_iload_n (a := 3) (q := 14) (by decide +kernel) rfl rfl ?_
    obtain ⟨hin1, h⟩ := h
    refine Z_iald (len := l_x0) (q := 15) (by decide +kernel) s_x0 a_x0 hin1 rfl ?_
    refine Z_min (idx := 348) (q := 18) (by decide +kernel) lX10_348 (Nat.le_of_ble_eq_true rfl) (Nat.le_add_left 1 d) rfl ?_
    refine Z_istore_n (a := 2) (loc2 := [_, _, _, _]) (q := 19) (by decide +kernel) (by decide +kernel) rfl rfl rfl ?_
    refine Z_iinc (a := 3) (b := 1) (v := _ + 1) (loc2 := [_, _, _, _]) (q := 22) (by decide +kernel) rfl (zinc _) (by decide +kernel) rfl rfl rfl ?_
    refine Z_goto (q := 6) (off := -16) (by decide +kernel) (by decide) ?_
    exact h
