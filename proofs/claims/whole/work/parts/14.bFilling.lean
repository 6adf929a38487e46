/-! BLOCKS of X1, by program. -/
theorem eX1_fillBySize {d : Nat} (x1 : Nat) (x2 : Int32) {iv : zI} {rv : zR} {lv : zJ} {Q : zI → zR → zJ → Prop} (h : Zv mX1_fillBySize (d + 1) 0 [some (.ref 76), some (.ref x1), some (.int x2), none, none, none] [] iv rv lv Q) : Cv mX1_fillBySize (d + 1) [.ref 76, .ref x1, .int x2] iv rv lv Q := Cv.of (by decide +kernel) (by simp [Value.category]) (Nat.le_of_ble_eq_true rfl) rfl h
set_option maxRecDepth 4000 in
theorem bX1_fillBySize_0 {d : Nat} (x1 : Nat) (x2 : Int32) {iv : zI} {rv : zR} {lv : zJ} {Q : zI → zR → zJ → Prop} (hT : zTop rv) (m_x1 : x1 ∈ zSts)
    (h : ∀ iv1 : zI, iv1 = zu iv 76 3 x2 → Zv mX1_fillBySize (d + 1) 7 [some (.ref 76), some (.ref x1), some (.int x2), some (.int (0 : Int32)), none, none] [] iv1 rv lv Q) :
    Zv mX1_fillBySize (d + 1) 0 [some (.ref 76), some (.ref x1), some (.int x2), none, none, none] [] iv rv lv Q := by
  unfold Zv
  refine Z_aload_n (a := 0) (q := 1) (by decide +kernel) rfl rfl ?_
  refine Z_iload_n (a := 2) (q := 2) (by decide +kernel) rfl rfl ?_
  refine p1_3 (idx := 22) (q := 5) (by decide +kernel) fX1_22 rfl (by decide) rfl ?_
  replace h := h _ rfl
  refine Z_iconst (a := 0) (v := 0) (q := 6) (by decide +kernel) (by decide +kernel) rfl ?_
  refine Z_istore_n (a := 3) (loc2 := [_, _, _, _, _, _]) (q := 7) (by decide +kernel) (by decide +kernel) rfl rfl rfl ?_
  exact h
set_option maxRecDepth 4000 in
theorem bX1_fillBySize_7 {d : Nat} (x1 : Nat) (x2 : Int32) (x3 : Int32) {iv : zI} {rv : zR} {lv : zJ} {Q : zI → zR → zJ → Prop} (hT : zTop rv) (m_x1 : x1 ∈ zSts)
    (h : ((4 : Int32) ≤ x3 → Zv mX1_fillBySize (d + 1) 27 [some (.ref 76), some (.ref x1), some (.int x2), some (.int (0 : Int32)), none, none] [] iv rv lv Q) ∧ (¬ (4 : Int32) ≤ x3 → vp_in x3 4 ∧ (∀ iv2 : zI, iv2 = zu iv 78 x3.toNatClampNeg (0 : Int32) → Zv mX1_fillBySize (d + 1) 7 [some (.ref 76), some (.ref x1), some (.int x2), some (.int (x3 + 1)), none, none] [] iv2 rv lv Q))) :
    Zv mX1_fillBySize (d + 1) 7 [some (.ref 76), some (.ref x1), some (.int x2), some (.int x3), none, none] [] iv rv lv Q := by
  unfold Zv
  refine Z_iload_n (a := 3) (q := 8) (by decide +kernel) rfl rfl ?_
  refine Z_iconst (a := 4) (v := 4) (q := 9) (by decide +kernel) (by decide +kernel) rfl ?_
  refine Z_icmp_ge (t := 25) (off := 16) (q := 12) (by decide +kernel) (by decide) rfl (fun hc => ?_) (fun hc => ?_)
  · replace h := h.1 hc
    refine Z_iconst (a := 0) (v := 0) (q := 26) (by decide +kernel) (by decide +kernel) rfl ?_
    refine Z_istore_n (a := 3) (loc2 := [_, _, _, _, _, _]) (q := 27) (by decide +kernel) (by decide +kernel) rfl rfl rfl ?_
    exact h
  · replace h := h.2 hc
    refine Z_aload_n (a := 0) (q := 13) (by decide +kernel) rfl rfl ?_
    refine g1_2 (idx := 19) (q := 16) (by decide +kernel) fX1_19 rfl (by decide) (t1_2 hT) rfl ?_
    refine Z_iload_n (a := 3) (q := 17) (by decide +kernel) rfl rfl ?_
    refine Z_iconst (a := 0) (v := 0) (q := 18) (by decide +kernel) (by decide +kernel) rfl ?_
    obtain ⟨hin1, h⟩ := h
    refine Z_iast (len := 4) (q := 19) (by decide +kernel) rfl (by decide) hin1 rfl ?_
    replace h := h _ rfl
    refine Z_iinc (a := 3) (b := 1) (v := _ + 1) (loc2 := [_, _, _, _, _, _]) (q := 22) (by decide +kernel) rfl (zinc _) (by decide +kernel) rfl rfl rfl ?_
    refine Z_goto (q := 7) (off := -15) (by decide +kernel) (by decide) ?_
    exact h
set_option maxRecDepth 4000 in
theorem bX1_fillBySize_27 {d : Nat} (x1 : Nat) (x2 : Int32) (x3 : Int32) {iv : zI} {rv : zR} {lv : zJ} {Q : zI → zR → zJ → Prop} (hT : zTop rv) (m_x1 : x1 ∈ zSts)
    (h : ((iv x1 0) ≤ x3 → Q iv rv lv) ∧ (¬ (iv x1 0) ≤ x3 → vp_in x3 10 ∧ (∃ Q2 : Int32 → zI → zR → zJ → Prop, Ci mX1_leastHeap d [.ref 76] iv rv lv Q2 ∧ ∀ (v7 : Int32) (iv3 : zI) (rv4 : zR) (lv5 : zJ), Q2 v7 iv3 rv4 lv5 → zTop rv4 ∧ (vp_in (iv (x1 + 4) x3.toNatClampNeg) 10 ∧ (∀ iv9 : zI, iv9 = zu iv3 77 (iv (x1 + 4) x3.toNatClampNeg).toNatClampNeg v7 → vp_in v7 4 ∧ (∀ iv11 : zI, iv11 = zu iv9 78 v7.toNatClampNeg ((iv9 78 v7.toNatClampNeg) + (iv9 (x1 + 1) (iv (x1 + 4) x3.toNatClampNeg).toNatClampNeg)) → Zv mX1_fillBySize (d + 1) 27 [some (.ref 76), some (.ref x1), some (.int x2), some (.int (x3 + 1)), none, none] [] iv11 rv4 lv5 Q)))))) :
    Zv mX1_fillBySize (d + 1) 27 [some (.ref 76), some (.ref x1), some (.int x2), some (.int x3), none, none] [] iv rv lv Q := by
  unfold Zv
  refine Z_iload_n (a := 3) (q := 28) (by decide +kernel) rfl rfl ?_
  refine Z_aload_n (a := 1) (q := 29) (by decide +kernel) rfl rfl ?_
  refine g9_0 (idx := 37) (q := 32) (by decide +kernel) fX1_37 (hS9_0 m_x1) (hL9_0 m_x1) rfl ?_
  refine Z_icmp_ge (t := 81) (off := 49) (q := 35) (by decide +kernel) (by decide) rfl (fun hc => ?_) (fun hc => ?_)
  · replace h := h.1 hc
    exact Z_vret (by decide +kernel) rfl rfl ⟨rfl, h⟩
  · replace h := h.2 hc
    refine Z_aload_n (a := 1) (q := 36) (by decide +kernel) rfl rfl ?_
    refine g9_5 (idx := 42) (q := 39) (by decide +kernel) fX1_42 (hS9_0 m_x1) (hL9_0 m_x1) (t9_5 hT m_x1) rfl ?_
    refine Z_iload_n (a := 3) (q := 40) (by decide +kernel) rfl rfl ?_
    obtain ⟨hin1, h⟩ := h
    refine Z_iald (len := 10) (q := 41) (by decide +kernel) (hS9_4 m_x1) (hL9_4 m_x1) hin1 rfl ?_
    refine Z_istore (a := 4) (loc2 := [_, _, _, _, _, _]) (q := 43) (by decide +kernel) (by decide +kernel) rfl rfl rfl ?_
    refine Z_aload_n (a := 0) (q := 44) (by decide +kernel) rfl rfl ?_
    obtain ⟨Q2, hm, h⟩ := h
    refine Z_callVi (M2 := mX1_leastHeap) (idx := 45) (d2 := d) (ci := 1) (As := []) (q := 47) (by decide +kernel) kX1_leastHeap lX1_45 rfl rfl (by decide) rfl rfl (by decide +kernel) (Nat.le_of_ble_eq_true rfl) (Nat.le_refl _) hm rfl (fun v7 iv3 rv4 lv5 hq => ?_)
    obtain ⟨hT6, h⟩ := h v7 iv3 rv4 lv5 hq
    refine Z_istore (a := 5) (loc2 := [_, _, _, _, _, _]) (q := 49) (by decide +kernel) (by decide +kernel) rfl rfl rfl ?_
    refine Z_aload_n (a := 0) (q := 50) (by decide +kernel) rfl rfl ?_
    refine g1_0 (idx := 9) (q := 53) (by decide +kernel) fX1_9 rfl (by decide) (t1_0 hT6) rfl ?_
    refine Z_iload (a := 4) (q := 55) (by decide +kernel) rfl rfl ?_
    refine Z_iload (a := 5) (q := 57) (by decide +kernel) rfl rfl ?_
    obtain ⟨hin8, h⟩ := h
    refine Z_iast (len := 10) (q := 58) (by decide +kernel) rfl (by decide) hin8 rfl ?_
    replace h := h _ rfl
    refine Z_aload_n (a := 0) (q := 59) (by decide +kernel) rfl rfl ?_
    refine g1_2 (idx := 19) (q := 62) (by decide +kernel) fX1_19 rfl (by decide) (t1_2 hT6) rfl ?_
    refine Z_iload (a := 5) (q := 64) (by decide +kernel) rfl rfl ?_
    refine Z_dup2 (q := 65) (by decide +kernel) rfl rfl rfl ?_
    obtain ⟨hin10, h⟩ := h
    refine Z_iald (len := 4) (q := 66) (by decide +kernel) rfl (by decide) hin10 rfl ?_
    refine Z_aload_n (a := 1) (q := 67) (by decide +kernel) rfl rfl ?_
    refine g9_2 (idx := 49) (q := 70) (by decide +kernel) fX1_49 (hS9_0 m_x1) (hL9_0 m_x1) (t9_2 hT6 m_x1) rfl ?_
    refine Z_iload (a := 4) (q := 72) (by decide +kernel) rfl rfl ?_
    refine Z_iald (len := 10) (q := 73) (by decide +kernel) (hS9_1 m_x1) (hL9_1 m_x1) hin8 rfl ?_
    refine Z_iadd (q := 74) (by decide +kernel) rfl ?_
    refine Z_iast (len := 4) (q := 75) (by decide +kernel) rfl (by decide) hin10 rfl ?_
    replace h := h _ rfl
    refine Z_iinc (a := 3) (b := 1) (v := _ + 1) (loc2 := [_, _, _, _, _, _]) (q := 78) (by decide +kernel) rfl (zinc _) (by decide +kernel) rfl rfl rfl ?_
    refine Z_goto (q := 27) (off := -51) (by decide +kernel) (by decide) ?_
    exact Z_forget h (And.intro rfl (And.intro rfl (And.intro rfl (And.intro rfl trivial))))
theorem eX1_leastHeap {d : Nat}  {iv : zI} {rv : zR} {lv : zJ} {Q : Int32 → zI → zR → zJ → Prop} (h : Zi mX1_leastHeap d 0 [some (.ref 76), none, none] [] iv rv lv Q) : Ci mX1_leastHeap d [.ref 76] iv rv lv Q := Ci.of (by decide +kernel) (by simp [Value.category]) (Nat.le_of_ble_eq_true rfl) rfl h
set_option maxRecDepth 4000 in
theorem bX1_leastHeap_0 {d : Nat}  {iv : zI} {rv : zR} {lv : zJ} {Q : Int32 → zI → zR → zJ → Prop} (hT : zTop rv) 
    (h : Zi mX1_leastHeap d 4 [some (.ref 76), some (.int (0 : Int32)), some (.int (1 : Int32))] [] iv rv lv Q) :
    Zi mX1_leastHeap d 0 [some (.ref 76), none, none] [] iv rv lv Q := by
  unfold Zi
  refine Z_iconst (a := 0) (v := 0) (q := 1) (by decide +kernel) (by decide +kernel) rfl ?_
  refine Z_istore_n (a := 1) (loc2 := [_, _, _]) (q := 2) (by decide +kernel) (by decide +kernel) rfl rfl rfl ?_
  refine Z_iconst (a := 1) (v := 1) (q := 3) (by decide +kernel) (by decide +kernel) rfl ?_
  refine Z_istore_n (a := 2) (loc2 := [_, _, _]) (q := 4) (by decide +kernel) (by decide +kernel) rfl rfl rfl ?_
  exact h
set_option maxRecDepth 4000 in
theorem bX1_leastHeap_4 {d : Nat} (x1 : Int32) (x2 : Int32) {iv : zI} {rv : zR} {lv : zJ} {Q : Int32 → zI → zR → zJ → Prop} (hT : zTop rv) 
    (h : ((iv 76 3) ≤ x2 → Q x1 iv rv lv) ∧ (¬ (iv 76 3) ≤ x2 → vp_in x2 4 ∧ (vp_in x1 4 ∧ (((iv 78 x1.toNatClampNeg) ≤ (iv 78 x2.toNatClampNeg) → Zi mX1_leastHeap d 4 [some (.ref 76), some (.int x1), some (.int (x2 + 1))] [] iv rv lv Q) ∧ (¬ (iv 78 x1.toNatClampNeg) ≤ (iv 78 x2.toNatClampNeg) → Zi mX1_leastHeap d 4 [some (.ref 76), some (.int x2), some (.int (x2 + 1))] [] iv rv lv Q))))) :
    Zi mX1_leastHeap d 4 [some (.ref 76), some (.int x1), some (.int x2)] [] iv rv lv Q := by
  unfold Zi
  refine Z_iload_n (a := 2) (q := 5) (by decide +kernel) rfl rfl ?_
  refine Z_aload_n (a := 0) (q := 6) (by decide +kernel) rfl rfl ?_
  refine g1_3 (idx := 22) (q := 9) (by decide +kernel) fX1_22 rfl (by decide) rfl ?_
  refine Z_icmp_ge (t := 35) (off := 26) (q := 12) (by decide +kernel) (by decide) rfl (fun hc => ?_) (fun hc => ?_)
  · replace h := h.1 hc
    refine Z_iload_n (a := 1) (q := 36) (by decide +kernel) rfl rfl ?_
    exact Z_iret (ty := .int) (by decide +kernel) rfl rfl rfl ⟨_, rfl, h⟩
  · replace h := h.2 hc
    refine Z_aload_n (a := 0) (q := 13) (by decide +kernel) rfl rfl ?_
    refine g1_2 (idx := 19) (q := 16) (by decide +kernel) fX1_19 rfl (by decide) (t1_2 hT) rfl ?_
    refine Z_iload_n (a := 2) (q := 17) (by decide +kernel) rfl rfl ?_
    obtain ⟨hin1, h⟩ := h
    refine Z_iald (len := 4) (q := 18) (by decide +kernel) rfl (by decide) hin1 rfl ?_
    refine Z_aload_n (a := 0) (q := 19) (by decide +kernel) rfl rfl ?_
    refine g1_2 (idx := 19) (q := 22) (by decide +kernel) fX1_19 rfl (by decide) (t1_2 hT) rfl ?_
    refine Z_iload_n (a := 1) (q := 23) (by decide +kernel) rfl rfl ?_
    obtain ⟨hin2, h⟩ := h
    refine Z_iald (len := 4) (q := 24) (by decide +kernel) rfl (by decide) hin2 rfl ?_
    refine Z_icmp_ge (t := 29) (off := 5) (q := 27) (by decide +kernel) (by decide) rfl (fun hc => ?_) (fun hc => ?_)
    · replace h := h.1 hc
      refine Z_iinc (a := 2) (b := 1) (v := _ + 1) (loc2 := [_, _, _]) (q := 32) (by decide +kernel) rfl (zinc _) (by decide +kernel) rfl rfl rfl ?_
      refine Z_goto (q := 4) (off := -28) (by decide +kernel) (by decide) ?_
      exact h
    · replace h := h.2 hc
      refine Z_iload_n (a := 2) (q := 28) (by decide +kernel) rfl rfl ?_
      refine Z_istore_n (a := 1) (loc2 := [_, _, _]) (q := 29) (by decide +kernel) (by decide +kernel) rfl rfl rfl ?_
      refine Z_iinc (a := 2) (b := 1) (v := _ + 1) (loc2 := [_, _, _]) (q := 32) (by decide +kernel) rfl (zinc _) (by decide +kernel) rfl rfl rfl ?_
      refine Z_goto (q := 4) (off := -28) (by decide +kernel) (by decide) ?_
      exact h
theorem eX1_greatest {d : Nat}  {iv : zI} {rv : zR} {lv : zJ} {Q : Int32 → zI → zR → zJ → Prop} (h : Zi mX1_greatest (d + 1) 0 [some (.ref 76)] [] iv rv lv Q) : Ci mX1_greatest (d + 1) [.ref 76] iv rv lv Q := Ci.of (by decide +kernel) (by simp [Value.category]) (Nat.le_of_ble_eq_true rfl) rfl h
set_option maxRecDepth 4000 in
theorem bX1_greatest_0 {d : Nat}  {iv : zI} {rv : zR} {lv : zJ} {Q : Int32 → zI → zR → zJ → Prop} (hT : zTop rv) 
    (h : ∃ Q1 : Int32 → zI → zR → zJ → Prop, Ci mX10_greatestAmong d [.ref 78, .int (iv 76 3)] iv rv lv Q1 ∧ ∀ (v6 : Int32) (iv2 : zI) (rv3 : zR) (lv4 : zJ), Q1 v6 iv2 rv3 lv4 → zTop rv3 ∧ (Q v6 iv2 rv3 lv4)) :
    Zi mX1_greatest (d + 1) 0 [some (.ref 76)] [] iv rv lv Q := by
  unfold Zi
  refine Z_aload_n (a := 0) (q := 1) (by decide +kernel) rfl rfl ?_
  refine g1_2 (idx := 19) (q := 4) (by decide +kernel) fX1_19 rfl (by decide) (t1_2 hT) rfl ?_
  refine Z_aload_n (a := 0) (q := 5) (by decide +kernel) rfl rfl ?_
  refine g1_3 (idx := 22) (q := 8) (by decide +kernel) fX1_22 rfl (by decide) rfl ?_
  obtain ⟨Q1, hm, h⟩ := h
  refine Z_callSNi (M2 := mX10_greatestAmong) (idx := 52) (d2 := d) (As := [.ref _, .int _]) (q := 11) (by decide +kernel) kX10_greatestAmong nX1_52 rfl rfl (by decide +kernel) (Nat.le_of_ble_eq_true rfl) (Nat.le_refl _) hm rfl (fun v6 iv2 rv3 lv4 hq => ?_)
  obtain ⟨hT5, h⟩ := h v6 iv2 rv3 lv4 hq
  exact Z_iret (ty := .int) (by decide +kernel) rfl rfl rfl ⟨_, rfl, h⟩
theorem eX1_spread {d : Nat}  {iv : zI} {rv : zR} {lv : zJ} {Q : Int32 → zI → zR → zJ → Prop} (h : Zi mX1_spread (d + 1) 0 [some (.ref 76)] [] iv rv lv Q) : Ci mX1_spread (d + 1) [.ref 76] iv rv lv Q := Ci.of (by decide +kernel) (by simp [Value.category]) (Nat.le_of_ble_eq_true rfl) rfl h
set_option maxRecDepth 4000 in
theorem bX1_spread_0 {d : Nat}  {iv : zI} {rv : zR} {lv : zJ} {Q : Int32 → zI → zR → zJ → Prop} (hT : zTop rv) 
    (h : ∃ Q1 : Int32 → zI → zR → zJ → Prop, Ci mX10_greatestAmong d [.ref 78, .int (iv 76 3)] iv rv lv Q1 ∧ ∀ (v6 : Int32) (iv2 : zI) (rv3 : zR) (lv4 : zJ), Q1 v6 iv2 rv3 lv4 → zTop rv3 ∧ (∃ Q7 : Int32 → zI → zR → zJ → Prop, Ci mX10_leastAmong d [.ref 78, .int (iv2 76 3)] iv2 rv3 lv4 Q7 ∧ ∀ (v12 : Int32) (iv8 : zI) (rv9 : zR) (lv10 : zJ), Q7 v12 iv8 rv9 lv10 → zTop rv9 ∧ (Q (v6 - v12) iv8 rv9 lv10))) :
    Zi mX1_spread (d + 1) 0 [some (.ref 76)] [] iv rv lv Q := by
  unfold Zi
  refine Z_aload_n (a := 0) (q := 1) (by decide +kernel) rfl rfl ?_
  refine g1_2 (idx := 19) (q := 4) (by decide +kernel) fX1_19 rfl (by decide) (t1_2 hT) rfl ?_
  refine Z_aload_n (a := 0) (q := 5) (by decide +kernel) rfl rfl ?_
  refine g1_3 (idx := 22) (q := 8) (by decide +kernel) fX1_22 rfl (by decide) rfl ?_
  obtain ⟨Q1, hm, h⟩ := h
  refine Z_callSNi (M2 := mX10_greatestAmong) (idx := 52) (d2 := d) (As := [.ref _, .int _]) (q := 11) (by decide +kernel) kX10_greatestAmong nX1_52 rfl rfl (by decide +kernel) (Nat.le_of_ble_eq_true rfl) (Nat.le_refl _) hm rfl (fun v6 iv2 rv3 lv4 hq => ?_)
  obtain ⟨hT5, h⟩ := h v6 iv2 rv3 lv4 hq
  refine Z_aload_n (a := 0) (q := 12) (by decide +kernel) rfl rfl ?_
  refine g1_2 (idx := 19) (q := 15) (by decide +kernel) fX1_19 rfl (by decide) (t1_2 hT5) rfl ?_
  refine Z_aload_n (a := 0) (q := 16) (by decide +kernel) rfl rfl ?_
  refine g1_3 (idx := 22) (q := 19) (by decide +kernel) fX1_22 rfl (by decide) rfl ?_
  obtain ⟨Q7, hm, h⟩ := h
  refine Z_callSNi (M2 := mX10_leastAmong) (idx := 56) (d2 := d) (As := [.ref _, .int _]) (q := 22) (by decide +kernel) kX10_leastAmong nX1_56 rfl rfl (by decide +kernel) (Nat.le_of_ble_eq_true rfl) (Nat.le_refl _) hm rfl (fun v12 iv8 rv9 lv10 hq => ?_)
  obtain ⟨hT11, h⟩ := h v12 iv8 rv9 lv10 hq
  refine Z_isub (q := 23) (by decide +kernel) rfl ?_
  exact Z_iret (ty := .int) (by decide +kernel) rfl rfl rfl ⟨_, rfl, h⟩
theorem eX1_improve {d : Nat} (x1 : Nat) (x2 : Int32) {iv : zI} {rv : zR} {lv : zJ} {Q : zI → zR → zJ → Prop} (h : Zv mX1_improve (d + 1) 0 [some (.ref 76), some (.ref x1), some (.int x2), none] [] iv rv lv Q) : Cv mX1_improve (d + 1) [.ref 76, .ref x1, .int x2] iv rv lv Q := Cv.of (by decide +kernel) (by simp [Value.category]) (Nat.le_of_ble_eq_true rfl) rfl h
set_option maxRecDepth 4000 in
theorem bX1_improve_0 {d : Nat} (x1 : Nat) (x2 : Int32) {iv : zI} {rv : zR} {lv : zJ} {Q : zI → zR → zJ → Prop} (hT : zTop rv) (m_x1 : x1 ∈ zSts)
    (h : ∃ Q1 : zI → zR → zJ → Prop, Cv mX1_fillBySize d [.ref 76, .ref x1, .int x2] iv rv lv Q1 ∧ ∀ (iv2 : zI) (rv3 : zR) (lv4 : zJ), Q1 iv2 rv3 lv4 → zTop rv3 ∧ (∀ iv7 : zI, iv7 = zu iv2 76 1 (0 : Int32) → Zv mX1_improve (d + 1) 13 [some (.ref 76), some (.ref x1), some (.int x2), some (.int (0 : Int32))] [] iv7 rv3 lv4 Q)) :
    Zv mX1_improve (d + 1) 0 [some (.ref 76), some (.ref x1), some (.int x2), none] [] iv rv lv Q := by
  unfold Zv
  refine Z_aload_n (a := 0) (q := 1) (by decide +kernel) rfl rfl ?_
  refine Z_aload_n (a := 1) (q := 2) (by decide +kernel) rfl rfl ?_
  refine Z_iload_n (a := 2) (q := 3) (by decide +kernel) rfl rfl ?_
  obtain ⟨Q1, hm, h⟩ := h
  refine Z_callVv (M2 := mX1_fillBySize) (idx := 59) (d2 := d) (ci := 1) (As := [.ref _, .int _]) (q := 6) (by decide +kernel) kX1_fillBySize lX1_59 rfl rfl (by decide) rfl rfl (by decide +kernel) (Nat.le_of_ble_eq_true rfl) (Nat.le_refl _) hm rfl (fun iv2 rv3 lv4 hq => ?_)
  obtain ⟨hT5, h⟩ := h iv2 rv3 lv4 hq
  refine Z_aload_n (a := 0) (q := 7) (by decide +kernel) rfl rfl ?_
  refine Z_iconst (a := 0) (v := 0) (q := 8) (by decide +kernel) (by decide +kernel) rfl ?_
  refine p1_1 (idx := 15) (q := 11) (by decide +kernel) fX1_15 rfl (by decide) rfl ?_
  replace h := h _ rfl
  refine Z_iconst (a := 0) (v := 0) (q := 12) (by decide +kernel) (by decide +kernel) rfl ?_
  refine Z_istore_n (a := 3) (loc2 := [_, _, _, _]) (q := 13) (by decide +kernel) (by decide +kernel) rfl rfl rfl ?_
  exact h
set_option maxRecDepth 4000 in
theorem bX1_improve_13 {d : Nat} (x1 : Nat) (x2 : Int32) (x3 : Int32) {iv : zI} {rv : zR} {lv : zJ} {Q : zI → zR → zJ → Prop} (hT : zTop rv) (m_x1 : x1 ∈ zSts)
    (h : ((1000000 : Int32) ≤ x3 → Q iv rv lv) ∧ (¬ (1000000 : Int32) ≤ x3 → ∃ Q1 : Int32 → zI → zR → zJ → Prop, Ci mX1_spread d [.ref 76] iv rv lv Q1 ∧ ∀ (v6 : Int32) (iv2 : zI) (rv3 : zR) (lv4 : zJ), Q1 v6 iv2 rv3 lv4 → zTop rv3 ∧ (∀ iv7 : zI, iv7 = zu iv2 76 4 v6 → ∀ iv8 : zI, iv8 = zu iv7 76 5 (-1 : Int32) → ∃ Q9 : zI → zR → zJ → Prop, Cv mX1_tryMoves d [.ref 76, .ref x1] iv8 rv3 lv4 Q9 ∧ ∀ (iv10 : zI) (rv11 : zR) (lv12 : zJ), Q9 iv10 rv11 lv12 → zTop rv11 ∧ (∃ Q15 : zI → zR → zJ → Prop, Cv mX1_tryExchanges d [.ref 76, .ref x1] iv10 rv11 lv12 Q15 ∧ ∀ (iv16 : zI) (rv17 : zR) (lv18 : zJ), Q15 iv16 rv17 lv18 → zTop rv17 ∧ ((¬ (iv16 76 5) = (-1 : Int32) → ∃ Q21 : zI → zR → zJ → Prop, Cv mX1_makeBest d [.ref 76, .ref x1] iv16 rv17 lv18 Q21 ∧ ∀ (iv22 : zI) (rv23 : zR) (lv24 : zJ), Q21 iv22 rv23 lv24 → zTop rv23 ∧ (∀ iv27 : zI, iv27 = zu iv22 76 1 ((iv22 76 1) + (1 : Int32)) → Zv mX1_improve (d + 1) 13 [some (.ref 76), some (.ref x1), some (.int x2), some (.int (x3 + 1))] [] iv27 rv23 lv24 Q)) ∧ ((iv16 76 5) = (-1 : Int32) → Q iv16 rv17 lv18)))))) :
    Zv mX1_improve (d + 1) 13 [some (.ref 76), some (.ref x1), some (.int x2), some (.int x3)] [] iv rv lv Q := by
  unfold Zv
  refine Z_iload_n (a := 3) (q := 14) (by decide +kernel) rfl rfl ?_
  refine Z_ldc (a := 63) (v := 1000000) (q := 16) (by decide +kernel) cX1_63 rfl ?_
  refine Z_icmp_ge (t := 72) (off := 56) (q := 19) (by decide +kernel) (by decide) rfl (fun hc => ?_) (fun hc => ?_)
  · replace h := h.1 hc
    exact Z_vret (by decide +kernel) rfl rfl ⟨rfl, h⟩
  · replace h := h.2 hc
    refine Z_aload_n (a := 0) (q := 20) (by decide +kernel) rfl rfl ?_
    refine Z_aload_n (a := 0) (q := 21) (by decide +kernel) rfl rfl ?_
    obtain ⟨Q1, hm, h⟩ := h
    refine Z_callVi (M2 := mX1_spread) (idx := 64) (d2 := d) (ci := 1) (As := []) (q := 24) (by decide +kernel) kX1_spread lX1_64 rfl rfl (by decide) rfl rfl (by decide +kernel) (Nat.le_of_ble_eq_true rfl) (Nat.le_refl _) hm rfl (fun v6 iv2 rv3 lv4 hq => ?_)
    obtain ⟨hT5, h⟩ := h v6 iv2 rv3 lv4 hq
    refine p1_4 (idx := 25) (q := 27) (by decide +kernel) fX1_25 rfl (by decide) rfl ?_
    replace h := h _ rfl
    refine Z_aload_n (a := 0) (q := 28) (by decide +kernel) rfl rfl ?_
    refine Z_iconst (a := -1) (v := -1) (q := 29) (by decide +kernel) (by decide +kernel) rfl ?_
    refine p1_5 (idx := 28) (q := 32) (by decide +kernel) fX1_28 rfl (by decide) rfl ?_
    replace h := h _ rfl
    refine Z_aload_n (a := 0) (q := 33) (by decide +kernel) rfl rfl ?_
    refine Z_aload_n (a := 1) (q := 34) (by decide +kernel) rfl rfl ?_
    obtain ⟨Q9, hm, h⟩ := h
    refine Z_callVv (M2 := mX1_tryMoves) (idx := 67) (d2 := d) (ci := 1) (As := [.ref _]) (q := 37) (by decide +kernel) kX1_tryMoves lX1_67 rfl rfl (by decide) rfl rfl (by decide +kernel) (Nat.le_of_ble_eq_true rfl) (Nat.le_refl _) hm rfl (fun iv10 rv11 lv12 hq => ?_)
    obtain ⟨hT13, h⟩ := h iv10 rv11 lv12 hq
    refine Z_aload_n (a := 0) (q := 38) (by decide +kernel) rfl rfl ?_
    refine Z_aload_n (a := 1) (q := 39) (by decide +kernel) rfl rfl ?_
    obtain ⟨Q15, hm, h⟩ := h
    refine Z_callVv (M2 := mX1_tryExchanges) (idx := 71) (d2 := d) (ci := 1) (As := [.ref _]) (q := 42) (by decide +kernel) kX1_tryExchanges lX1_71 rfl rfl (by decide) rfl rfl (by decide +kernel) (Nat.le_of_ble_eq_true rfl) (Nat.le_refl _) hm rfl (fun iv16 rv17 lv18 hq => ?_)
    obtain ⟨hT19, h⟩ := h iv16 rv17 lv18 hq
    refine Z_aload_n (a := 0) (q := 43) (by decide +kernel) rfl rfl ?_
    refine g1_5 (idx := 28) (q := 46) (by decide +kernel) fX1_28 rfl (by decide) rfl ?_
    refine Z_iconst (a := -1) (v := -1) (q := 47) (by decide +kernel) (by decide +kernel) rfl ?_
    refine Z_icmp_ne (t := 51) (off := 4) (q := 50) (by decide +kernel) (by decide) rfl (fun hc => ?_) (fun hc => ?_)
    · replace h := h.1 hc
      refine Z_aload_n (a := 0) (q := 52) (by decide +kernel) rfl rfl ?_
      refine Z_aload_n (a := 1) (q := 53) (by decide +kernel) rfl rfl ?_
      obtain ⟨Q21, hm, h⟩ := h
      refine Z_callVv (M2 := mX1_makeBest) (idx := 74) (d2 := d) (ci := 1) (As := [.ref _]) (q := 56) (by decide +kernel) kX1_makeBest lX1_74 rfl rfl (by decide) rfl rfl (by decide +kernel) (Nat.le_of_ble_eq_true rfl) (Nat.le_refl _) hm rfl (fun iv22 rv23 lv24 hq => ?_)
      obtain ⟨hT25, h⟩ := h iv22 rv23 lv24 hq
      refine Z_aload_n (a := 0) (q := 57) (by decide +kernel) rfl rfl ?_
      refine Z_dup (q := 58) (by decide +kernel) rfl rfl ?_
      refine g1_1 (idx := 15) (q := 61) (by decide +kernel) fX1_15 rfl (by decide) rfl ?_
      refine Z_iconst (a := 1) (v := 1) (q := 62) (by decide +kernel) (by decide +kernel) rfl ?_
      refine Z_iadd (q := 63) (by decide +kernel) rfl ?_
      refine p1_1 (idx := 15) (q := 66) (by decide +kernel) fX1_15 rfl (by decide) rfl ?_
      replace h := h _ rfl
      refine Z_iinc (a := 3) (b := 1) (v := _ + 1) (loc2 := [_, _, _, _]) (q := 69) (by decide +kernel) rfl (zinc _) (by decide +kernel) rfl rfl rfl ?_
      refine Z_goto (q := 13) (off := -56) (by decide +kernel) (by decide) ?_
      exact h
    · replace h := h.2 hc
      exact Z_vret (by decide +kernel) rfl rfl ⟨rfl, h⟩
theorem eX1_tryMoves {d : Nat} (x1 : Nat) {iv : zI} {rv : zR} {lv : zJ} {Q : zI → zR → zJ → Prop} (h : Zv mX1_tryMoves (d + 1) 0 [some (.ref 76), some (.ref x1), none, none] [] iv rv lv Q) : Cv mX1_tryMoves (d + 1) [.ref 76, .ref x1] iv rv lv Q := Cv.of (by decide +kernel) (by simp [Value.category]) (Nat.le_of_ble_eq_true rfl) rfl h
set_option maxRecDepth 4000 in
theorem bX1_tryMoves_0 {d : Nat} (x1 : Nat) {iv : zI} {rv : zR} {lv : zJ} {Q : zI → zR → zJ → Prop} (hT : zTop rv) (m_x1 : x1 ∈ zSts)
    (h : Zv mX1_tryMoves (d + 1) 2 [some (.ref 76), some (.ref x1), some (.int (0 : Int32)), none] [] iv rv lv Q) :
    Zv mX1_tryMoves (d + 1) 0 [some (.ref 76), some (.ref x1), none, none] [] iv rv lv Q := by
  unfold Zv
  refine Z_iconst (a := 0) (v := 0) (q := 1) (by decide +kernel) (by decide +kernel) rfl ?_
  refine Z_istore_n (a := 2) (loc2 := [_, _, _, _]) (q := 2) (by decide +kernel) (by decide +kernel) rfl rfl rfl ?_
  exact h
set_option maxRecDepth 4000 in
theorem bX1_tryMoves_2 {d : Nat} (x1 : Nat) (x2 : Int32) {iv : zI} {rv : zR} {lv : zJ} {Q : zI → zR → zJ → Prop} (hT : zTop rv) (m_x1 : x1 ∈ zSts)
    (h : ((iv x1 0) ≤ x2 → Q iv rv lv) ∧ (¬ (iv x1 0) ≤ x2 → Zv mX1_tryMoves (d + 1) 12 [some (.ref 76), some (.ref x1), some (.int x2), some (.int (0 : Int32))] [] iv rv lv Q)) :
    Zv mX1_tryMoves (d + 1) 2 [some (.ref 76), some (.ref x1), some (.int x2), none] [] iv rv lv Q := by
  unfold Zv
  refine Z_iload_n (a := 2) (q := 3) (by decide +kernel) rfl rfl ?_
  refine Z_aload_n (a := 1) (q := 4) (by decide +kernel) rfl rfl ?_
  refine g9_0 (idx := 37) (q := 7) (by decide +kernel) fX1_37 (hS9_0 m_x1) (hL9_0 m_x1) rfl ?_
  refine Z_icmp_ge (t := 45) (off := 38) (q := 10) (by decide +kernel) (by decide) rfl (fun hc => ?_) (fun hc => ?_)
  · replace h := h.1 hc
    exact Z_vret (by decide +kernel) rfl rfl ⟨rfl, h⟩
  · replace h := h.2 hc
    refine Z_iconst (a := 0) (v := 0) (q := 11) (by decide +kernel) (by decide +kernel) rfl ?_
    refine Z_istore_n (a := 3) (loc2 := [_, _, _, _]) (q := 12) (by decide +kernel) (by decide +kernel) rfl rfl rfl ?_
    exact h
set_option maxRecDepth 4000 in
theorem bX1_tryMoves_12 {d : Nat} (x1 : Nat) (x2 : Int32) (x3 : Int32) {iv : zI} {rv : zR} {lv : zJ} {Q : zI → zR → zJ → Prop} (hT : zTop rv) (m_x1 : x1 ∈ zSts)
    (h : ((iv 76 3) ≤ x3 → Zv mX1_tryMoves (d + 1) 2 [some (.ref 76), some (.ref x1), some (.int (x2 + 1)), none] [] iv rv lv Q) ∧ (¬ (iv 76 3) ≤ x3 → vp_in x2 10 ∧ (∃ Q2 : zI → zR → zJ → Prop, Cv mX1_consider d [.ref 76, .int x2, .int x3, .int (-1 : Int32), .int (iv (x1 + 1) x2.toNatClampNeg)] iv rv lv Q2 ∧ ∀ (iv3 : zI) (rv4 : zR) (lv5 : zJ), Q2 iv3 rv4 lv5 → zTop rv4 ∧ (Zv mX1_tryMoves (d + 1) 12 [some (.ref 76), some (.ref x1), some (.int x2), some (.int (x3 + 1))] [] iv3 rv4 lv5 Q)))) :
    Zv mX1_tryMoves (d + 1) 12 [some (.ref 76), some (.ref x1), some (.int x2), some (.int x3)] [] iv rv lv Q := by
  unfold Zv
  refine Z_iload_n (a := 3) (q := 13) (by decide +kernel) rfl rfl ?_
  refine Z_aload_n (a := 0) (q := 14) (by decide +kernel) rfl rfl ?_
  refine g1_3 (idx := 22) (q := 17) (by decide +kernel) fX1_22 rfl (by decide) rfl ?_
  refine Z_icmp_ge (t := 39) (off := 22) (q := 20) (by decide +kernel) (by decide) rfl (fun hc => ?_) (fun hc => ?_)
  · replace h := h.1 hc
    refine Z_iinc (a := 2) (b := 1) (v := _ + 1) (loc2 := [_, _, _, _]) (q := 42) (by decide +kernel) rfl (zinc _) (by decide +kernel) rfl rfl rfl ?_
    refine Z_goto (q := 2) (off := -40) (by decide +kernel) (by decide) ?_
    exact Z_forget h (And.intro rfl (And.intro rfl (And.intro rfl trivial)))
  · replace h := h.2 hc
    refine Z_aload_n (a := 0) (q := 21) (by decide +kernel) rfl rfl ?_
    refine Z_iload_n (a := 2) (q := 22) (by decide +kernel) rfl rfl ?_
    refine Z_iload_n (a := 3) (q := 23) (by decide +kernel) rfl rfl ?_
    refine Z_iconst (a := -1) (v := -1) (q := 24) (by decide +kernel) (by decide +kernel) rfl ?_
    refine Z_aload_n (a := 1) (q := 25) (by decide +kernel) rfl rfl ?_
    refine g9_2 (idx := 49) (q := 28) (by decide +kernel) fX1_49 (hS9_0 m_x1) (hL9_0 m_x1) (t9_2 hT m_x1) rfl ?_
    refine Z_iload_n (a := 2) (q := 29) (by decide +kernel) rfl rfl ?_
    obtain ⟨hin1, h⟩ := h
    refine Z_iald (len := 10) (q := 30) (by decide +kernel) (hS9_1 m_x1) (hL9_1 m_x1) hin1 rfl ?_
    obtain ⟨Q2, hm, h⟩ := h
    refine Z_callVv (M2 := mX1_consider) (idx := 77) (d2 := d) (ci := 1) (As := [.int _, .int _, .int _, .int _]) (q := 33) (by decide +kernel) kX1_consider lX1_77 rfl rfl (by decide) rfl rfl (by decide +kernel) (Nat.le_of_ble_eq_true rfl) (Nat.le_refl _) hm rfl (fun iv3 rv4 lv5 hq => ?_)
    obtain ⟨hT6, h⟩ := h iv3 rv4 lv5 hq
    refine Z_iinc (a := 3) (b := 1) (v := _ + 1) (loc2 := [_, _, _, _]) (q := 36) (by decide +kernel) rfl (zinc _) (by decide +kernel) rfl rfl rfl ?_
    refine Z_goto (q := 12) (off := -24) (by decide +kernel) (by decide) ?_
    exact h
theorem eX1_tryExchanges {d : Nat} (x1 : Nat) {iv : zI} {rv : zR} {lv : zJ} {Q : zI → zR → zJ → Prop} (h : Zv mX1_tryExchanges (d + 1) 0 [some (.ref 76), some (.ref x1), none, none] [] iv rv lv Q) : Cv mX1_tryExchanges (d + 1) [.ref 76, .ref x1] iv rv lv Q := Cv.of (by decide +kernel) (by simp [Value.category]) (Nat.le_of_ble_eq_true rfl) rfl h
set_option maxRecDepth 4000 in
theorem bX1_tryExchanges_0 {d : Nat} (x1 : Nat) {iv : zI} {rv : zR} {lv : zJ} {Q : zI → zR → zJ → Prop} (hT : zTop rv) (m_x1 : x1 ∈ zSts)
    (h : Zv mX1_tryExchanges (d + 1) 2 [some (.ref 76), some (.ref x1), some (.int (0 : Int32)), none] [] iv rv lv Q) :
    Zv mX1_tryExchanges (d + 1) 0 [some (.ref 76), some (.ref x1), none, none] [] iv rv lv Q := by
  unfold Zv
  refine Z_iconst (a := 0) (v := 0) (q := 1) (by decide +kernel) (by decide +kernel) rfl ?_
  refine Z_istore_n (a := 2) (loc2 := [_, _, _, _]) (q := 2) (by decide +kernel) (by decide +kernel) rfl rfl rfl ?_
  exact h
set_option maxRecDepth 4000 in
theorem bX1_tryExchanges_2 {d : Nat} (x1 : Nat) (x2 : Int32) {iv : zI} {rv : zR} {lv : zJ} {Q : zI → zR → zJ → Prop} (hT : zTop rv) (m_x1 : x1 ∈ zSts)
    (h : ((iv x1 0) ≤ x2 → Q iv rv lv) ∧ (¬ (iv x1 0) ≤ x2 → Zv mX1_tryExchanges (d + 1) 14 [some (.ref 76), some (.ref x1), some (.int x2), some (.int (x2 + (1 : Int32)))] [] iv rv lv Q)) :
    Zv mX1_tryExchanges (d + 1) 2 [some (.ref 76), some (.ref x1), some (.int x2), none] [] iv rv lv Q := by
  unfold Zv
  refine Z_iload_n (a := 2) (q := 3) (by decide +kernel) rfl rfl ?_
  refine Z_aload_n (a := 1) (q := 4) (by decide +kernel) rfl rfl ?_
  refine g9_0 (idx := 37) (q := 7) (by decide +kernel) fX1_37 (hS9_0 m_x1) (hL9_0 m_x1) rfl ?_
  refine Z_icmp_ge (t := 59) (off := 52) (q := 10) (by decide +kernel) (by decide) rfl (fun hc => ?_) (fun hc => ?_)
  · replace h := h.1 hc
    exact Z_vret (by decide +kernel) rfl rfl ⟨rfl, h⟩
  · replace h := h.2 hc
    refine Z_iload_n (a := 2) (q := 11) (by decide +kernel) rfl rfl ?_
    refine Z_iconst (a := 1) (v := 1) (q := 12) (by decide +kernel) (by decide +kernel) rfl ?_
    refine Z_iadd (q := 13) (by decide +kernel) rfl ?_
    refine Z_istore_n (a := 3) (loc2 := [_, _, _, _]) (q := 14) (by decide +kernel) (by decide +kernel) rfl rfl rfl ?_
    exact h
set_option maxRecDepth 4000 in
theorem bX1_tryExchanges_14 {d : Nat} (x1 : Nat) (x2 : Int32) (x3 : Int32) {iv : zI} {rv : zR} {lv : zJ} {Q : zI → zR → zJ → Prop} (hT : zTop rv) (m_x1 : x1 ∈ zSts)
    (h : ((iv x1 0) ≤ x3 → Zv mX1_tryExchanges (d + 1) 2 [some (.ref 76), some (.ref x1), some (.int (x2 + 1)), none] [] iv rv lv Q) ∧ (¬ (iv x1 0) ≤ x3 → vp_in x3 10 ∧ (vp_in x2 10 ∧ (∃ Q3 : zI → zR → zJ → Prop, Cv mX1_consider d [.ref 76, .int x2, .int (iv 77 x3.toNatClampNeg), .int x3, .int ((iv (x1 + 1) x2.toNatClampNeg) - (iv (x1 + 1) x3.toNatClampNeg))] iv rv lv Q3 ∧ ∀ (iv4 : zI) (rv5 : zR) (lv6 : zJ), Q3 iv4 rv5 lv6 → zTop rv5 ∧ (Zv mX1_tryExchanges (d + 1) 14 [some (.ref 76), some (.ref x1), some (.int x2), some (.int (x3 + 1))] [] iv4 rv5 lv6 Q))))) :
    Zv mX1_tryExchanges (d + 1) 14 [some (.ref 76), some (.ref x1), some (.int x2), some (.int x3)] [] iv rv lv Q := by
  unfold Zv
  refine Z_iload_n (a := 3) (q := 15) (by decide +kernel) rfl rfl ?_
  refine Z_aload_n (a := 1) (q := 16) (by decide +kernel) rfl rfl ?_
  refine g9_0 (idx := 37) (q := 19) (by decide +kernel) fX1_37 (hS9_0 m_x1) (hL9_0 m_x1) rfl ?_
  refine Z_icmp_ge (t := 53) (off := 34) (q := 22) (by decide +kernel) (by decide) rfl (fun hc => ?_) (fun hc => ?_)
  · replace h := h.1 hc
    refine Z_iinc (a := 2) (b := 1) (v := _ + 1) (loc2 := [_, _, _, _]) (q := 56) (by decide +kernel) rfl (zinc _) (by decide +kernel) rfl rfl rfl ?_
    refine Z_goto (q := 2) (off := -54) (by decide +kernel) (by decide) ?_
    exact Z_forget h (And.intro rfl (And.intro rfl (And.intro rfl trivial)))
  · replace h := h.2 hc
    refine Z_aload_n (a := 0) (q := 23) (by decide +kernel) rfl rfl ?_
    refine Z_iload_n (a := 2) (q := 24) (by decide +kernel) rfl rfl ?_
    refine Z_aload_n (a := 0) (q := 25) (by decide +kernel) rfl rfl ?_
    refine g1_0 (idx := 9) (q := 28) (by decide +kernel) fX1_9 rfl (by decide) (t1_0 hT) rfl ?_
    refine Z_iload_n (a := 3) (q := 29) (by decide +kernel) rfl rfl ?_
    obtain ⟨hin1, h⟩ := h
    refine Z_iald (len := 10) (q := 30) (by decide +kernel) rfl (by decide) hin1 rfl ?_
    refine Z_iload_n (a := 3) (q := 31) (by decide +kernel) rfl rfl ?_
    refine Z_aload_n (a := 1) (q := 32) (by decide +kernel) rfl rfl ?_
    refine g9_2 (idx := 49) (q := 35) (by decide +kernel) fX1_49 (hS9_0 m_x1) (hL9_0 m_x1) (t9_2 hT m_x1) rfl ?_
    refine Z_iload_n (a := 2) (q := 36) (by decide +kernel) rfl rfl ?_
    obtain ⟨hin2, h⟩ := h
    refine Z_iald (len := 10) (q := 37) (by decide +kernel) (hS9_1 m_x1) (hL9_1 m_x1) hin2 rfl ?_
    refine Z_aload_n (a := 1) (q := 38) (by decide +kernel) rfl rfl ?_
    refine g9_2 (idx := 49) (q := 41) (by decide +kernel) fX1_49 (hS9_0 m_x1) (hL9_0 m_x1) (t9_2 hT m_x1) rfl ?_
    refine Z_iload_n (a := 3) (q := 42) (by decide +kernel) rfl rfl ?_
    refine Z_iald (len := 10) (q := 43) (by decide +kernel) (hS9_1 m_x1) (hL9_1 m_x1) hin1 rfl ?_
    refine Z_isub (q := 44) (by decide +kernel) rfl ?_
    obtain ⟨Q3, hm, h⟩ := h
    refine Z_callVv (M2 := mX1_consider) (idx := 77) (d2 := d) (ci := 1) (As := [.int _, .int _, .int _, .int _]) (q := 47) (by decide +kernel) kX1_consider lX1_77 rfl rfl (by decide) rfl rfl (by decide +kernel) (Nat.le_of_ble_eq_true rfl) (Nat.le_refl _) hm rfl (fun iv4 rv5 lv6 hq => ?_)
    obtain ⟨hT7, h⟩ := h iv4 rv5 lv6 hq
    refine Z_iinc (a := 3) (b := 1) (v := _ + 1) (loc2 := [_, _, _, _]) (q := 50) (by decide +kernel) rfl (zinc _) (by decide +kernel) rfl rfl rfl ?_
    refine Z_goto (q := 14) (off := -36) (by decide +kernel) (by decide) ?_
    exact h
theorem eX1_consider {d : Nat} (x1 : Int32) (x2 : Int32) (x3 : Int32) (x4 : Int32) {iv : zI} {rv : zR} {lv : zJ} {Q : zI → zR → zJ → Prop} (h : Zv mX1_consider (d + 1) 0 [some (.ref 76), some (.int x1), some (.int x2), some (.int x3), some (.int x4), none] [] iv rv lv Q) : Cv mX1_consider (d + 1) [.ref 76, .int x1, .int x2, .int x3, .int x4] iv rv lv Q := Cv.of (by decide +kernel) (by simp [Value.category]) (Nat.le_of_ble_eq_true rfl) rfl h
set_option maxRecDepth 4000 in
theorem bX1_consider_0 {d : Nat} (x1 : Int32) (x2 : Int32) (x3 : Int32) (x4 : Int32) {iv : zI} {rv : zR} {lv : zJ} {Q : zI → zR → zJ → Prop} (hT : zTop rv) 
    (h : vp_in x1 10 ∧ ((¬ x2 = (iv 77 x1.toNatClampNeg) → ∃ Q2 : zI → zR → zJ → Prop, Cv mX1_shift d [.ref 76, .int (iv 77 x1.toNatClampNeg), .int x2, .int x4] iv rv lv Q2 ∧ ∀ (iv3 : zI) (rv4 : zR) (lv5 : zJ), Q2 iv3 rv4 lv5 → zTop rv4 ∧ (∃ Q8 : Int32 → zI → zR → zJ → Prop, Ci mX1_spread d [.ref 76] iv3 rv4 lv5 Q8 ∧ ∀ (v13 : Int32) (iv9 : zI) (rv10 : zR) (lv11 : zJ), Q8 v13 iv9 rv10 lv11 → zTop rv10 ∧ (∃ Q14 : zI → zR → zJ → Prop, Cv mX1_shift d [.ref 76, .int x2, .int (iv9 77 x1.toNatClampNeg), .int x4] iv9 rv10 lv11 Q14 ∧ ∀ (iv15 : zI) (rv16 : zR) (lv17 : zJ), Q14 iv15 rv16 lv17 → zTop rv16 ∧ (((iv15 76 4) ≤ v13 → Q iv15 rv16 lv17) ∧ (¬ (iv15 76 4) ≤ v13 → ∀ iv20 : zI, iv20 = zu iv15 76 4 v13 → ∀ iv21 : zI, iv21 = zu iv20 76 5 x1 → ∀ iv22 : zI, iv22 = zu iv21 76 6 x2 → ∀ iv23 : zI, iv23 = zu iv22 76 7 x3 → Q iv23 rv16 lv17))))) ∧ (x2 = (iv 77 x1.toNatClampNeg) → Q iv rv lv))) :
    Zv mX1_consider (d + 1) 0 [some (.ref 76), some (.int x1), some (.int x2), some (.int x3), some (.int x4), none] [] iv rv lv Q := by
  unfold Zv
  refine Z_iload_n (a := 2) (q := 1) (by decide +kernel) rfl rfl ?_
  refine Z_aload_n (a := 0) (q := 2) (by decide +kernel) rfl rfl ?_
  refine g1_0 (idx := 9) (q := 5) (by decide +kernel) fX1_9 rfl (by decide) (t1_0 hT) rfl ?_
  refine Z_iload_n (a := 1) (q := 6) (by decide +kernel) rfl rfl ?_
  obtain ⟨hin1, h⟩ := h
  refine Z_iald (len := 10) (q := 7) (by decide +kernel) rfl (by decide) hin1 rfl ?_
  refine Z_icmp_ne (t := 11) (off := 4) (q := 10) (by decide +kernel) (by decide) rfl (fun hc => ?_) (fun hc => ?_)
  · replace h := h.1 hc
    refine Z_aload_n (a := 0) (q := 12) (by decide +kernel) rfl rfl ?_
    refine Z_aload_n (a := 0) (q := 13) (by decide +kernel) rfl rfl ?_
    refine g1_0 (idx := 9) (q := 16) (by decide +kernel) fX1_9 rfl (by decide) (t1_0 hT) rfl ?_
    refine Z_iload_n (a := 1) (q := 17) (by decide +kernel) rfl rfl ?_
    refine Z_iald (len := 10) (q := 18) (by decide +kernel) rfl (by decide) hin1 rfl ?_
    refine Z_iload_n (a := 2) (q := 19) (by decide +kernel) rfl rfl ?_
    refine Z_iload (a := 4) (q := 21) (by decide +kernel) rfl rfl ?_
    obtain ⟨Q2, hm, h⟩ := h
    refine Z_callVv (M2 := mX1_shift) (idx := 81) (d2 := d) (ci := 1) (As := [.int _, .int _, .int _]) (q := 24) (by decide +kernel) kX1_shift lX1_81 rfl rfl (by decide) rfl rfl (by decide +kernel) (Nat.le_of_ble_eq_true rfl) (Nat.le_refl _) hm rfl (fun iv3 rv4 lv5 hq => ?_)
    obtain ⟨hT6, h⟩ := h iv3 rv4 lv5 hq
    refine Z_aload_n (a := 0) (q := 25) (by decide +kernel) rfl rfl ?_
    obtain ⟨Q8, hm, h⟩ := h
    refine Z_callVi (M2 := mX1_spread) (idx := 64) (d2 := d) (ci := 1) (As := []) (q := 28) (by decide +kernel) kX1_spread lX1_64 rfl rfl (by decide) rfl rfl (by decide +kernel) (Nat.le_of_ble_eq_true rfl) (Nat.le_refl _) hm rfl (fun v13 iv9 rv10 lv11 hq => ?_)
    obtain ⟨hT12, h⟩ := h v13 iv9 rv10 lv11 hq
    refine Z_istore (a := 5) (loc2 := [_, _, _, _, _, _]) (q := 30) (by decide +kernel) (by decide +kernel) rfl rfl rfl ?_
    refine Z_aload_n (a := 0) (q := 31) (by decide +kernel) rfl rfl ?_
    refine Z_iload_n (a := 2) (q := 32) (by decide +kernel) rfl rfl ?_
    refine Z_aload_n (a := 0) (q := 33) (by decide +kernel) rfl rfl ?_
    refine g1_0 (idx := 9) (q := 36) (by decide +kernel) fX1_9 rfl (by decide) (t1_0 hT12) rfl ?_
    refine Z_iload_n (a := 1) (q := 37) (by decide +kernel) rfl rfl ?_
    refine Z_iald (len := 10) (q := 38) (by decide +kernel) rfl (by decide) hin1 rfl ?_
    refine Z_iload (a := 4) (q := 40) (by decide +kernel) rfl rfl ?_
    obtain ⟨Q14, hm, h⟩ := h
    refine Z_callVv (M2 := mX1_shift) (idx := 81) (d2 := d) (ci := 1) (As := [.int _, .int _, .int _]) (q := 43) (by decide +kernel) kX1_shift lX1_81 rfl rfl (by decide) rfl rfl (by decide +kernel) (Nat.le_of_ble_eq_true rfl) (Nat.le_refl _) hm rfl (fun iv15 rv16 lv17 hq => ?_)
    obtain ⟨hT18, h⟩ := h iv15 rv16 lv17 hq
    refine Z_iload (a := 5) (q := 45) (by decide +kernel) rfl rfl ?_
    refine Z_aload_n (a := 0) (q := 46) (by decide +kernel) rfl rfl ?_
    refine g1_4 (idx := 25) (q := 49) (by decide +kernel) fX1_25 rfl (by decide) rfl ?_
    refine Z_icmp_ge (t := 73) (off := 24) (q := 52) (by decide +kernel) (by decide) rfl (fun hc => ?_) (fun hc => ?_)
    · replace h := h.1 hc
      exact Z_vret (by decide +kernel) rfl rfl ⟨rfl, h⟩
    · replace h := h.2 hc
      refine Z_aload_n (a := 0) (q := 53) (by decide +kernel) rfl rfl ?_
      refine Z_iload (a := 5) (q := 55) (by decide +kernel) rfl rfl ?_
      refine p1_4 (idx := 25) (q := 58) (by decide +kernel) fX1_25 rfl (by decide) rfl ?_
      replace h := h _ rfl
      refine Z_aload_n (a := 0) (q := 59) (by decide +kernel) rfl rfl ?_
      refine Z_iload_n (a := 1) (q := 60) (by decide +kernel) rfl rfl ?_
      refine p1_5 (idx := 28) (q := 63) (by decide +kernel) fX1_28 rfl (by decide) rfl ?_
      replace h := h _ rfl
      refine Z_aload_n (a := 0) (q := 64) (by decide +kernel) rfl rfl ?_
      refine Z_iload_n (a := 2) (q := 65) (by decide +kernel) rfl rfl ?_
      refine p1_6 (idx := 31) (q := 68) (by decide +kernel) fX1_31 rfl (by decide) rfl ?_
      replace h := h _ rfl
      refine Z_aload_n (a := 0) (q := 69) (by decide +kernel) rfl rfl ?_
      refine Z_iload_n (a := 3) (q := 70) (by decide +kernel) rfl rfl ?_
      refine p1_7 (idx := 34) (q := 73) (by decide +kernel) fX1_34 rfl (by decide) rfl ?_
      replace h := h _ rfl
      exact Z_vret (by decide +kernel) rfl rfl ⟨rfl, h⟩
  · replace h := h.2 hc
    exact Z_vret (by decide +kernel) rfl rfl ⟨rfl, h⟩
theorem eX1_shift {d : Nat} (x1 : Int32) (x2 : Int32) (x3 : Int32) {iv : zI} {rv : zR} {lv : zJ} {Q : zI → zR → zJ → Prop} (h : Zv mX1_shift d 0 [some (.ref 76), some (.int x1), some (.int x2), some (.int x3)] [] iv rv lv Q) : Cv mX1_shift d [.ref 76, .int x1, .int x2, .int x3] iv rv lv Q := Cv.of (by decide +kernel) (by simp [Value.category]) (Nat.le_of_ble_eq_true rfl) rfl h
set_option maxRecDepth 4000 in
theorem bX1_shift_0 {d : Nat} (x1 : Int32) (x2 : Int32) (x3 : Int32) {iv : zI} {rv : zR} {lv : zJ} {Q : zI → zR → zJ → Prop} (hT : zTop rv) 
    (h : vp_in x1 4 ∧ (∀ iv2 : zI, iv2 = zu iv 78 x1.toNatClampNeg ((iv 78 x1.toNatClampNeg) - x3) → vp_in x2 4 ∧ (∀ iv4 : zI, iv4 = zu iv2 78 x2.toNatClampNeg ((iv2 78 x2.toNatClampNeg) + x3) → Q iv4 rv lv))) :
    Zv mX1_shift d 0 [some (.ref 76), some (.int x1), some (.int x2), some (.int x3)] [] iv rv lv Q := by
  unfold Zv
  refine Z_aload_n (a := 0) (q := 1) (by decide +kernel) rfl rfl ?_
  refine g1_2 (idx := 19) (q := 4) (by decide +kernel) fX1_19 rfl (by decide) (t1_2 hT) rfl ?_
  refine Z_iload_n (a := 1) (q := 5) (by decide +kernel) rfl rfl ?_
  refine Z_dup2 (q := 6) (by decide +kernel) rfl rfl rfl ?_
  obtain ⟨hin1, h⟩ := h
  refine Z_iald (len := 4) (q := 7) (by decide +kernel) rfl (by decide) hin1 rfl ?_
  refine Z_iload_n (a := 3) (q := 8) (by decide +kernel) rfl rfl ?_
  refine Z_isub (q := 9) (by decide +kernel) rfl ?_
  refine Z_iast (len := 4) (q := 10) (by decide +kernel) rfl (by decide) hin1 rfl ?_
  replace h := h _ rfl
  refine Z_aload_n (a := 0) (q := 11) (by decide +kernel) rfl rfl ?_
  refine g1_2 (idx := 19) (q := 14) (by decide +kernel) fX1_19 rfl (by decide) (t1_2 hT) rfl ?_
  refine Z_iload_n (a := 2) (q := 15) (by decide +kernel) rfl rfl ?_
  refine Z_dup2 (q := 16) (by decide +kernel) rfl rfl rfl ?_
  obtain ⟨hin3, h⟩ := h
  refine Z_iald (len := 4) (q := 17) (by decide +kernel) rfl (by decide) hin3 rfl ?_
  refine Z_iload_n (a := 3) (q := 18) (by decide +kernel) rfl rfl ?_
  refine Z_iadd (q := 19) (by decide +kernel) rfl ?_
  refine Z_iast (len := 4) (q := 20) (by decide +kernel) rfl (by decide) hin3 rfl ?_
  replace h := h _ rfl
  exact Z_vret (by decide +kernel) rfl rfl ⟨rfl, h⟩
theorem eX1_makeBest {d : Nat} (x1 : Nat) {iv : zI} {rv : zR} {lv : zJ} {Q : zI → zR → zJ → Prop} (h : Zv mX1_makeBest (d + 1) 0 [some (.ref 76), some (.ref x1), none] [] iv rv lv Q) : Cv mX1_makeBest (d + 1) [.ref 76, .ref x1] iv rv lv Q := Cv.of (by decide +kernel) (by simp [Value.category]) (Nat.le_of_ble_eq_true rfl) rfl h
set_option maxRecDepth 4000 in
theorem bX1_makeBest_0 {d : Nat} (x1 : Nat) {iv : zI} {rv : zR} {lv : zJ} {Q : zI → zR → zJ → Prop} (hT : zTop rv) (m_x1 : x1 ∈ zSts)
    (h : vp_in (iv 76 5) 10 ∧ (∃ Q2 : zI → zR → zJ → Prop, Cv mX1_shift d [.ref 76, .int (iv 77 (iv 76 5).toNatClampNeg), .int (iv 76 6), .int (iv (x1 + 1) (iv 76 5).toNatClampNeg)] iv rv lv Q2 ∧ ∀ (iv3 : zI) (rv4 : zR) (lv5 : zJ), Q2 iv3 rv4 lv5 → zTop rv4 ∧ (vp_in (iv3 76 5) 10 ∧ (∀ iv9 : zI, iv9 = zu iv3 77 (iv3 76 5).toNatClampNeg (iv3 76 6) → ((iv9 76 7) = (-1 : Int32) → Q iv9 rv4 lv5) ∧ (¬ (iv9 76 7) = (-1 : Int32) → vp_in (iv9 76 7) 10 ∧ (∃ Q11 : zI → zR → zJ → Prop, Cv mX1_shift d [.ref 76, .int (iv9 76 6), .int (iv 77 (iv 76 5).toNatClampNeg), .int (iv9 (x1 + 1) (iv9 76 7).toNatClampNeg)] iv9 rv4 lv5 Q11 ∧ ∀ (iv12 : zI) (rv13 : zR) (lv14 : zJ), Q11 iv12 rv13 lv14 → zTop rv13 ∧ (vp_in (iv12 76 7) 10 ∧ (∀ iv18 : zI, iv18 = zu iv12 77 (iv12 76 7).toNatClampNeg (iv 77 (iv 76 5).toNatClampNeg) → Q iv18 rv13 lv14)))))))) :
    Zv mX1_makeBest (d + 1) 0 [some (.ref 76), some (.ref x1), none] [] iv rv lv Q := by
  unfold Zv
  refine Z_aload_n (a := 0) (q := 1) (by decide +kernel) rfl rfl ?_
  refine g1_0 (idx := 9) (q := 4) (by decide +kernel) fX1_9 rfl (by decide) (t1_0 hT) rfl ?_
  refine Z_aload_n (a := 0) (q := 5) (by decide +kernel) rfl rfl ?_
  refine g1_5 (idx := 28) (q := 8) (by decide +kernel) fX1_28 rfl (by decide) rfl ?_
  obtain ⟨hin1, h⟩ := h
  refine Z_iald (len := 10) (q := 9) (by decide +kernel) rfl (by decide) hin1 rfl ?_
  refine Z_istore_n (a := 2) (loc2 := [_, _, _]) (q := 10) (by decide +kernel) (by decide +kernel) rfl rfl rfl ?_
  refine Z_aload_n (a := 0) (q := 11) (by decide +kernel) rfl rfl ?_
  refine Z_iload_n (a := 2) (q := 12) (by decide +kernel) rfl rfl ?_
  refine Z_aload_n (a := 0) (q := 13) (by decide +kernel) rfl rfl ?_
  refine g1_6 (idx := 31) (q := 16) (by decide +kernel) fX1_31 rfl (by decide) rfl ?_
  refine Z_aload_n (a := 1) (q := 17) (by decide +kernel) rfl rfl ?_
  refine g9_2 (idx := 49) (q := 20) (by decide +kernel) fX1_49 (hS9_0 m_x1) (hL9_0 m_x1) (t9_2 hT m_x1) rfl ?_
  refine Z_aload_n (a := 0) (q := 21) (by decide +kernel) rfl rfl ?_
  refine g1_5 (idx := 28) (q := 24) (by decide +kernel) fX1_28 rfl (by decide) rfl ?_
  refine Z_iald (len := 10) (q := 25) (by decide +kernel) (hS9_1 m_x1) (hL9_1 m_x1) hin1 rfl ?_
  obtain ⟨Q2, hm, h⟩ := h
  refine Z_callVv (M2 := mX1_shift) (idx := 81) (d2 := d) (ci := 1) (As := [.int _, .int _, .int _]) (q := 28) (by decide +kernel) kX1_shift lX1_81 rfl rfl (by decide) rfl rfl (by decide +kernel) (Nat.le_of_ble_eq_true rfl) (Nat.le_refl _) hm rfl (fun iv3 rv4 lv5 hq => ?_)
  obtain ⟨hT6, h⟩ := h iv3 rv4 lv5 hq
  refine Z_aload_n (a := 0) (q := 29) (by decide +kernel) rfl rfl ?_
  refine g1_0 (idx := 9) (q := 32) (by decide +kernel) fX1_9 rfl (by decide) (t1_0 hT6) rfl ?_
  refine Z_aload_n (a := 0) (q := 33) (by decide +kernel) rfl rfl ?_
  refine g1_5 (idx := 28) (q := 36) (by decide +kernel) fX1_28 rfl (by decide) rfl ?_
  refine Z_aload_n (a := 0) (q := 37) (by decide +kernel) rfl rfl ?_
  refine g1_6 (idx := 31) (q := 40) (by decide +kernel) fX1_31 rfl (by decide) rfl ?_
  obtain ⟨hin8, h⟩ := h
  refine Z_iast (len := 10) (q := 41) (by decide +kernel) rfl (by decide) hin8 rfl ?_
  replace h := h _ rfl
  refine Z_aload_n (a := 0) (q := 42) (by decide +kernel) rfl rfl ?_
  refine g1_7 (idx := 34) (q := 45) (by decide +kernel) fX1_34 rfl (by decide) rfl ?_
  refine Z_iconst (a := -1) (v := -1) (q := 46) (by decide +kernel) (by decide +kernel) rfl ?_
  refine Z_icmp_eq (t := 77) (off := 31) (q := 49) (by decide +kernel) (by decide) rfl (fun hc => ?_) (fun hc => ?_)
  · replace h := h.1 hc
    exact Z_vret (by decide +kernel) rfl rfl ⟨rfl, h⟩
  · replace h := h.2 hc
    refine Z_aload_n (a := 0) (q := 50) (by decide +kernel) rfl rfl ?_
    refine Z_aload_n (a := 0) (q := 51) (by decide +kernel) rfl rfl ?_
    refine g1_6 (idx := 31) (q := 54) (by decide +kernel) fX1_31 rfl (by decide) rfl ?_
    refine Z_iload_n (a := 2) (q := 55) (by decide +kernel) rfl rfl ?_
    refine Z_aload_n (a := 1) (q := 56) (by decide +kernel) rfl rfl ?_
    refine g9_2 (idx := 49) (q := 59) (by decide +kernel) fX1_49 (hS9_0 m_x1) (hL9_0 m_x1) (t9_2 hT6 m_x1) rfl ?_
    refine Z_aload_n (a := 0) (q := 60) (by decide +kernel) rfl rfl ?_
    refine g1_7 (idx := 34) (q := 63) (by decide +kernel) fX1_34 rfl (by decide) rfl ?_
    obtain ⟨hin10, h⟩ := h
    refine Z_iald (len := 10) (q := 64) (by decide +kernel) (hS9_1 m_x1) (hL9_1 m_x1) hin10 rfl ?_
    obtain ⟨Q11, hm, h⟩ := h
    refine Z_callVv (M2 := mX1_shift) (idx := 81) (d2 := d) (ci := 1) (As := [.int _, .int _, .int _]) (q := 67) (by decide +kernel) kX1_shift lX1_81 rfl rfl (by decide) rfl rfl (by decide +kernel) (Nat.le_of_ble_eq_true rfl) (Nat.le_refl _) hm rfl (fun iv12 rv13 lv14 hq => ?_)
    obtain ⟨hT15, h⟩ := h iv12 rv13 lv14 hq
    refine Z_aload_n (a := 0) (q := 68) (by decide +kernel) rfl rfl ?_
    refine g1_0 (idx := 9) (q := 71) (by decide +kernel) fX1_9 rfl (by decide) (t1_0 hT15) rfl ?_
    refine Z_aload_n (a := 0) (q := 72) (by decide +kernel) rfl rfl ?_
    refine g1_7 (idx := 34) (q := 75) (by decide +kernel) fX1_34 rfl (by decide) rfl ?_
    refine Z_iload_n (a := 2) (q := 76) (by decide +kernel) rfl rfl ?_
    obtain ⟨hin17, h⟩ := h
    refine Z_iast (len := 10) (q := 77) (by decide +kernel) rfl (by decide) hin17 rfl ?_
    replace h := h _ rfl
    exact Z_vret (by decide +kernel) rfl rfl ⟨rfl, h⟩
