/-! BLOCKS of X11, by program. -/
theorem eX11_thrown {d : Nat}  {iv : zI} {rv : zR} {lv : zJ} {Q : Int32 → zI → zR → zJ → Prop} (h : Zi mX11_thrown d 0 [some (.ref 174)] [] iv rv lv Q) : Ci mX11_thrown d [.ref 174] iv rv lv Q := Ci.of (by decide +kernel) (by simp [Value.category]) (Nat.le_of_ble_eq_true rfl) rfl h
set_option maxRecDepth 4000 in
theorem bX11_thrown_0 {d : Nat}  {iv : zI} {rv : zR} {lv : zJ} {Q : Int32 → zI → zR → zJ → Prop} (hT : zTop rv) 
    (h : Q (iv 174 0) iv rv lv) :
    Zi mX11_thrown d 0 [some (.ref 174)] [] iv rv lv Q := by
  unfold Zi
  refine Z_aload_n (a := 0) (q := 1) (by decide +kernel) rfl rfl ?_
  refine g11_0 (idx := 87) (q := 4) (by decide +kernel) fX11_87 rfl (by decide) rfl ?_
  exact Z_iret (ty := .int) (by decide +kernel) rfl rfl rfl ⟨_, rfl, h⟩
theorem eX11_refused {d : Nat} (x1 : Int32) {iv : zI} {rv : zR} {lv : zJ} {Q : Int32 → zI → zR → zJ → Prop} (h : Zi mX11_refused d 0 [some (.ref 174), some (.int x1)] [] iv rv lv Q) : Ci mX11_refused d [.ref 174, .int x1] iv rv lv Q := Ci.of (by decide +kernel) (by simp [Value.category]) (Nat.le_of_ble_eq_true rfl) rfl h
set_option maxRecDepth 4000 in
theorem bX11_refused_0 {d : Nat} (x1 : Int32) {iv : zI} {rv : zR} {lv : zJ} {Q : Int32 → zI → zR → zJ → Prop} (hT : zTop rv) 
    (h : ∀ iv1 : zI, iv1 = zu iv 174 1 x1 → ∀ iv2 : zI, iv2 = zu iv1 174 2 (-1 : Int32) → Q (-1 : Int32) iv2 rv lv) :
    Zi mX11_refused d 0 [some (.ref 174), some (.int x1)] [] iv rv lv Q := by
  unfold Zi
  refine Z_aload_n (a := 0) (q := 1) (by decide +kernel) rfl rfl ?_
  refine Z_iload_n (a := 1) (q := 2) (by decide +kernel) rfl rfl ?_
  refine p11_1 (idx := 90) (q := 5) (by decide +kernel) fX11_90 rfl (by decide) rfl ?_
  replace h := h _ rfl
  refine Z_aload_n (a := 0) (q := 6) (by decide +kernel) rfl rfl ?_
  refine Z_iconst (a := -1) (v := -1) (q := 7) (by decide +kernel) (by decide +kernel) rfl ?_
  refine p11_2 (idx := 9) (q := 10) (by decide +kernel) fX11_9 rfl (by decide) rfl ?_
  replace h := h _ rfl
  refine Z_iconst (a := -1) (v := -1) (q := 11) (by decide +kernel) (by decide +kernel) rfl ?_
  exact Z_iret (ty := .int) (by decide +kernel) rfl rfl rfl ⟨_, rfl, h⟩
theorem eX11_good {d : Nat} (x1 : Int32) {iv : zI} {rv : zR} {lv : zJ} {Q : Int32 → zI → zR → zJ → Prop} (h : Zi mX11_good d 0 [some (.ref 174), some (.int x1)] [] iv rv lv Q) : Ci mX11_good d [.ref 174, .int x1] iv rv lv Q := Ci.of (by decide +kernel) (by simp [Value.category]) (Nat.le_of_ble_eq_true rfl) rfl h
set_option maxRecDepth 4000 in
theorem bX11_good_0 {d : Nat} (x1 : Int32) {iv : zI} {rv : zR} {lv : zJ} {Q : Int32 → zI → zR → zJ → Prop} (hT : zTop rv) 
    (h : ∀ iv1 : zI, iv1 = zu iv 174 1 (0 : Int32) → ∀ iv2 : zI, iv2 = zu iv1 174 2 (-1 : Int32) → Q x1 iv2 rv lv) :
    Zi mX11_good d 0 [some (.ref 174), some (.int x1)] [] iv rv lv Q := by
  unfold Zi
  refine Z_aload_n (a := 0) (q := 1) (by decide +kernel) rfl rfl ?_
  refine Z_iconst (a := 0) (v := 0) (q := 2) (by decide +kernel) (by decide +kernel) rfl ?_
  refine p11_1 (idx := 90) (q := 5) (by decide +kernel) fX11_90 rfl (by decide) rfl ?_
  replace h := h _ rfl
  refine Z_aload_n (a := 0) (q := 6) (by decide +kernel) rfl rfl ?_
  refine Z_iconst (a := -1) (v := -1) (q := 7) (by decide +kernel) (by decide +kernel) rfl ?_
  refine p11_2 (idx := 9) (q := 10) (by decide +kernel) fX11_9 rfl (by decide) rfl ?_
  replace h := h _ rfl
  refine Z_iload_n (a := 1) (q := 11) (by decide +kernel) rfl rfl ?_
  exact Z_iret (ty := .int) (by decide +kernel) rfl rfl rfl ⟨_, rfl, h⟩
theorem eX11_granted {d : Nat} (x1 : Int32) {iv : zI} {rv : zR} {lv : zJ} {Q : Int32 → zI → zR → zJ → Prop} (h : Zi mX11_granted d 0 [some (.ref 174), some (.int x1)] [] iv rv lv Q) : Ci mX11_granted d [.ref 174, .int x1] iv rv lv Q := Ci.of (by decide +kernel) (by simp [Value.category]) (Nat.le_of_ble_eq_true rfl) rfl h
set_option maxRecDepth 4000 in
theorem bX11_granted_0 {d : Nat} (x1 : Int32) {iv : zI} {rv : zR} {lv : zJ} {Q : Int32 → zI → zR → zJ → Prop} (hT : zTop rv) 
    (h : ∀ iv1 : zI, iv1 = zu iv 174 1 x1 → ∀ iv2 : zI, iv2 = zu iv1 174 2 (-1 : Int32) → (¬ x1 = 0 → Q (0 : Int32) iv2 rv lv) ∧ (x1 = 0 → Q (1 : Int32) iv2 rv lv)) :
    Zi mX11_granted d 0 [some (.ref 174), some (.int x1)] [] iv rv lv Q := by
  unfold Zi
  refine Z_aload_n (a := 0) (q := 1) (by decide +kernel) rfl rfl ?_
  refine Z_iload_n (a := 1) (q := 2) (by decide +kernel) rfl rfl ?_
  refine p11_1 (idx := 90) (q := 5) (by decide +kernel) fX11_90 rfl (by decide) rfl ?_
  replace h := h _ rfl
  refine Z_aload_n (a := 0) (q := 6) (by decide +kernel) rfl rfl ?_
  refine Z_iconst (a := -1) (v := -1) (q := 7) (by decide +kernel) (by decide +kernel) rfl ?_
  refine p11_2 (idx := 9) (q := 10) (by decide +kernel) fX11_9 rfl (by decide) rfl ?_
  replace h := h _ rfl
  refine Z_iload_n (a := 1) (q := 11) (by decide +kernel) rfl rfl ?_
  refine Z_if_ne (t := 18) (off := 7) (q := 14) (by decide +kernel) (by decide) rfl (fun hc => ?_) (fun hc => ?_)
  · replace h := h.1 hc
    refine Z_iconst (a := 0) (v := 0) (q := 19) (by decide +kernel) (by decide +kernel) rfl ?_
    exact Z_iret (ty := .boolean) (by decide +kernel) rfl rfl rfl ⟨_, rfl, h⟩
  · replace h := h.2 hc
    refine Z_iconst (a := 1) (v := 1) (q := 15) (by decide +kernel) (by decide +kernel) rfl ?_
    refine Z_goto (q := 19) (off := 4) (by decide +kernel) (by decide) ?_
    exact Z_iret (ty := .boolean) (by decide +kernel) rfl rfl rfl ⟨_, rfl, h⟩
theorem eX11_in {d : Nat} (x0 : Int32) (x1 : Int32) (x2 : Int32) {iv : zI} {rv : zR} {lv : zJ} {Q : Int32 → zI → zR → zJ → Prop} (h : Zi mX11_in d 0 [some (.int x0), some (.int x1), some (.int x2)] [] iv rv lv Q) : Ci mX11_in d [.int x0, .int x1, .int x2] iv rv lv Q := Ci.of (by decide +kernel) (by simp [Value.category]) (Nat.le_of_ble_eq_true rfl) rfl h
set_option maxRecDepth 4000 in
theorem bX11_in_0 {d : Nat} (x0 : Int32) (x1 : Int32) (x2 : Int32) {iv : zI} {rv : zR} {lv : zJ} {Q : Int32 → zI → zR → zJ → Prop} (hT : zTop rv) 
    (h : (x0 < x1 → Q (0 : Int32) iv rv lv) ∧ (¬ x0 < x1 → (x2 < x0 → Q (0 : Int32) iv rv lv) ∧ (¬ x2 < x0 → Q (1 : Int32) iv rv lv))) :
    Zi mX11_in d 0 [some (.int x0), some (.int x1), some (.int x2)] [] iv rv lv Q := by
  unfold Zi
  refine Z_iload_n (a := 0) (q := 1) (by decide +kernel) rfl rfl ?_
  refine Z_iload_n (a := 1) (q := 2) (by decide +kernel) rfl rfl ?_
  refine Z_icmp_lt (t := 14) (off := 12) (q := 5) (by decide +kernel) (by decide) rfl (fun hc => ?_) (fun hc => ?_)
  · replace h := h.1 hc
    refine Z_iconst (a := 0) (v := 0) (q := 15) (by decide +kernel) (by decide +kernel) rfl ?_
    exact Z_iret (ty := .boolean) (by decide +kernel) rfl rfl rfl ⟨_, rfl, h⟩
  · replace h := h.2 hc
    refine Z_iload_n (a := 0) (q := 6) (by decide +kernel) rfl rfl ?_
    refine Z_iload_n (a := 2) (q := 7) (by decide +kernel) rfl rfl ?_
    refine Z_icmp_gt (t := 14) (off := 7) (q := 10) (by decide +kernel) (by decide) rfl (fun hc => ?_) (fun hc => ?_)
    · replace h := h.1 hc
      refine Z_iconst (a := 0) (v := 0) (q := 15) (by decide +kernel) (by decide +kernel) rfl ?_
      exact Z_iret (ty := .boolean) (by decide +kernel) rfl rfl rfl ⟨_, rfl, h⟩
    · replace h := h.2 hc
      refine Z_iconst (a := 1) (v := 1) (q := 11) (by decide +kernel) (by decide +kernel) rfl ?_
      refine Z_goto (q := 15) (off := 4) (by decide +kernel) (by decide) ?_
      exact Z_iret (ty := .boolean) (by decide +kernel) rfl rfl rfl ⟨_, rfl, h⟩
theorem eX11_has {d : Nat} (x0 : Int32) (x1 : Int32) {iv : zI} {rv : zR} {lv : zJ} {Q : Int32 → zI → zR → zJ → Prop} (h : Zi mX11_has d 0 [some (.int x0), some (.int x1)] [] iv rv lv Q) : Ci mX11_has d [.int x0, .int x1] iv rv lv Q := Ci.of (by decide +kernel) (by simp [Value.category]) (Nat.le_of_ble_eq_true rfl) rfl h
set_option maxRecDepth 4000 in
theorem bX11_has_0 {d : Nat} (x0 : Int32) (x1 : Int32) {iv : zI} {rv : zR} {lv : zJ} {Q : Int32 → zI → zR → zJ → Prop} (hT : zTop rv) 
    (h : (¬ ((x0 >>> (x1 &&& 31)) &&& (1 : Int32)) = (1 : Int32) → Q (0 : Int32) iv rv lv) ∧ (((x0 >>> (x1 &&& 31)) &&& (1 : Int32)) = (1 : Int32) → Q (1 : Int32) iv rv lv)) :
    Zi mX11_has d 0 [some (.int x0), some (.int x1)] [] iv rv lv Q := by
  unfold Zi
  refine Z_iload_n (a := 0) (q := 1) (by decide +kernel) rfl rfl ?_
  refine Z_iload_n (a := 1) (q := 2) (by decide +kernel) rfl rfl ?_
  refine Z_ishr (q := 3) (by decide +kernel) rfl ?_
  refine Z_iconst (a := 1) (v := 1) (q := 4) (by decide +kernel) (by decide +kernel) rfl ?_
  refine Z_iand (q := 5) (by decide +kernel) rfl ?_
  refine Z_iconst (a := 1) (v := 1) (q := 6) (by decide +kernel) (by decide +kernel) rfl ?_
  refine Z_icmp_ne (t := 13) (off := 7) (q := 9) (by decide +kernel) (by decide) rfl (fun hc => ?_) (fun hc => ?_)
  · replace h := h.1 hc
    refine Z_iconst (a := 0) (v := 0) (q := 14) (by decide +kernel) (by decide +kernel) rfl ?_
    exact Z_iret (ty := .boolean) (by decide +kernel) rfl rfl rfl ⟨_, rfl, h⟩
  · replace h := h.2 hc
    refine Z_iconst (a := 1) (v := 1) (q := 10) (by decide +kernel) (by decide +kernel) rfl ?_
    refine Z_goto (q := 14) (off := 4) (by decide +kernel) (by decide) ?_
    exact Z_iret (ty := .boolean) (by decide +kernel) rfl rfl rfl ⟨_, rfl, h⟩
theorem eX11_bits {d : Nat} (x0 : Int32) {iv : zI} {rv : zR} {lv : zJ} {Q : Int32 → zI → zR → zJ → Prop} (h : Zi mX11_bits d 0 [some (.int x0), none, none] [] iv rv lv Q) : Ci mX11_bits d [.int x0] iv rv lv Q := Ci.of (by decide +kernel) (by simp [Value.category]) (Nat.le_of_ble_eq_true rfl) rfl h
set_option maxRecDepth 4000 in
theorem bX11_bits_0 {d : Nat} (x0 : Int32) {iv : zI} {rv : zR} {lv : zJ} {Q : Int32 → zI → zR → zJ → Prop} (hT : zTop rv) 
    (h : Zi mX11_bits d 4 [some (.int x0), some (.int (0 : Int32)), some (.int (0 : Int32))] [] iv rv lv Q) :
    Zi mX11_bits d 0 [some (.int x0), none, none] [] iv rv lv Q := by
  unfold Zi
  refine Z_iconst (a := 0) (v := 0) (q := 1) (by decide +kernel) (by decide +kernel) rfl ?_
  refine Z_istore_n (a := 1) (loc2 := [_, _, _]) (q := 2) (by decide +kernel) (by decide +kernel) rfl rfl rfl ?_
  refine Z_iconst (a := 0) (v := 0) (q := 3) (by decide +kernel) (by decide +kernel) rfl ?_
  refine Z_istore_n (a := 2) (loc2 := [_, _, _]) (q := 4) (by decide +kernel) (by decide +kernel) rfl rfl rfl ?_
  exact h
set_option maxRecDepth 4000 in
theorem bX11_bits_4 {d : Nat} (x0 : Int32) (x1 : Int32) (x2 : Int32) {iv : zI} {rv : zR} {lv : zJ} {Q : Int32 → zI → zR → zJ → Prop} (hT : zTop rv) 
    (h : ((16 : Int32) ≤ x2 → Q x1 iv rv lv) ∧ (¬ (16 : Int32) ≤ x2 → Zi mX11_bits d 4 [some (.int x0), some (.int (x1 + ((x0 >>> (x2 &&& 31)) &&& (1 : Int32)))), some (.int (x2 + 1))] [] iv rv lv Q)) :
    Zi mX11_bits d 4 [some (.int x0), some (.int x1), some (.int x2)] [] iv rv lv Q := by
  unfold Zi
  refine Z_iload_n (a := 2) (q := 5) (by decide +kernel) rfl rfl ?_
  refine Z_bipush (a := 16) (v := 16) (q := 7) (by decide +kernel) (by decide +kernel) rfl ?_
  refine Z_icmp_ge (t := 24) (off := 17) (q := 10) (by decide +kernel) (by decide) rfl (fun hc => ?_) (fun hc => ?_)
  · replace h := h.1 hc
    refine Z_iload_n (a := 1) (q := 25) (by decide +kernel) rfl rfl ?_
    exact Z_iret (ty := .int) (by decide +kernel) rfl rfl rfl ⟨_, rfl, h⟩
  · replace h := h.2 hc
    refine Z_iload_n (a := 1) (q := 11) (by decide +kernel) rfl rfl ?_
    refine Z_iload_n (a := 0) (q := 12) (by decide +kernel) rfl rfl ?_
    refine Z_iload_n (a := 2) (q := 13) (by decide +kernel) rfl rfl ?_
    refine Z_ishr (q := 14) (by decide +kernel) rfl ?_
    refine Z_iconst (a := 1) (v := 1) (q := 15) (by decide +kernel) (by decide +kernel) rfl ?_
    refine Z_iand (q := 16) (by decide +kernel) rfl ?_
    refine Z_iadd (q := 17) (by decide +kernel) rfl ?_
    refine Z_istore_n (a := 1) (loc2 := [_, _, _]) (q := 18) (by decide +kernel) (by decide +kernel) rfl rfl rfl ?_
    refine Z_iinc (a := 2) (b := 1) (v := _ + 1) (loc2 := [_, _, _]) (q := 21) (by decide +kernel) rfl (zinc _) (by decide +kernel) rfl rfl rfl ?_
    refine Z_goto (q := 4) (off := -17) (by decide +kernel) (by decide) ?_
    exact h
theorem eX11_lowest {d : Nat} (x0 : Int32) {iv : zI} {rv : zR} {lv : zJ} {Q : Int32 → zI → zR → zJ → Prop} (h : Zi mX11_lowest (d + 1) 0 [some (.int x0), none] [] iv rv lv Q) : Ci mX11_lowest (d + 1) [.int x0] iv rv lv Q := Ci.of (by decide +kernel) (by simp [Value.category]) (Nat.le_of_ble_eq_true rfl) rfl h
set_option maxRecDepth 4000 in
theorem bX11_lowest_0 {d : Nat} (x0 : Int32) {iv : zI} {rv : zR} {lv : zJ} {Q : Int32 → zI → zR → zJ → Prop} (hT : zTop rv) 
    (h : Zi mX11_lowest (d + 1) 2 [some (.int x0), some (.int (0 : Int32))] [] iv rv lv Q) :
    Zi mX11_lowest (d + 1) 0 [some (.int x0), none] [] iv rv lv Q := by
  unfold Zi
  refine Z_iconst (a := 0) (v := 0) (q := 1) (by decide +kernel) (by decide +kernel) rfl ?_
  refine Z_istore_n (a := 1) (loc2 := [_, _]) (q := 2) (by decide +kernel) (by decide +kernel) rfl rfl rfl ?_
  exact h
set_option maxRecDepth 4000 in
theorem bX11_lowest_2 {d : Nat} (x0 : Int32) (x1 : Int32) {iv : zI} {rv : zR} {lv : zJ} {Q : Int32 → zI → zR → zJ → Prop} (hT : zTop rv) 
    (h : ((16 : Int32) ≤ x1 → Q x1 iv rv lv) ∧ (¬ (16 : Int32) ≤ x1 → ∃ Q1 : Int32 → zI → zR → zJ → Prop, Ci mX11_has d [.int x0, .int x1] iv rv lv Q1 ∧ ∀ (v6 : Int32) (iv2 : zI) (rv3 : zR) (lv4 : zJ), Q1 v6 iv2 rv3 lv4 → zTop rv3 ∧ ((¬ v6 = 0 → Q x1 iv2 rv3 lv4) ∧ (v6 = 0 → Zi mX11_lowest (d + 1) 2 [some (.int x0), some (.int (x1 + 1))] [] iv2 rv3 lv4 Q)))) :
    Zi mX11_lowest (d + 1) 2 [some (.int x0), some (.int x1)] [] iv rv lv Q := by
  unfold Zi
  refine Z_iload_n (a := 1) (q := 3) (by decide +kernel) rfl rfl ?_
  refine Z_bipush (a := 16) (v := 16) (q := 5) (by decide +kernel) (by decide +kernel) rfl ?_
  refine Z_icmp_ge (t := 22) (off := 17) (q := 8) (by decide +kernel) (by decide) rfl (fun hc => ?_) (fun hc => ?_)
  · replace h := h.1 hc
    refine Z_iload_n (a := 1) (q := 23) (by decide +kernel) rfl rfl ?_
    exact Z_iret (ty := .int) (by decide +kernel) rfl rfl rfl ⟨_, rfl, h⟩
  · replace h := h.2 hc
    refine Z_iload_n (a := 0) (q := 9) (by decide +kernel) rfl rfl ?_
    refine Z_iload_n (a := 1) (q := 10) (by decide +kernel) rfl rfl ?_
    obtain ⟨Q1, hm, h⟩ := h
    refine Z_callSi (M2 := mX11_has) (idx := 93) (d2 := d) (As := [.int _, .int _]) (q := 13) (by decide +kernel) kX11_has lX11_93 rfl rfl (by decide +kernel) (Nat.le_of_ble_eq_true rfl) (Nat.le_refl _) hm rfl (fun v6 iv2 rv3 lv4 hq => ?_)
    obtain ⟨hT5, h⟩ := h v6 iv2 rv3 lv4 hq
    refine Z_if_ne (t := 22) (off := 9) (q := 16) (by decide +kernel) (by decide) rfl (fun hc => ?_) (fun hc => ?_)
    · replace h := h.1 hc
      refine Z_iload_n (a := 1) (q := 23) (by decide +kernel) rfl rfl ?_
      exact Z_iret (ty := .int) (by decide +kernel) rfl rfl rfl ⟨_, rfl, h⟩
    · replace h := h.2 hc
      refine Z_iinc (a := 1) (b := 1) (v := _ + 1) (loc2 := [_, _]) (q := 19) (by decide +kernel) rfl (zinc _) (by decide +kernel) rfl rfl rfl ?_
      refine Z_goto (q := 2) (off := -17) (by decide +kernel) (by decide) ?_
      exact h
theorem eX11_feed {d : Nat} (x1 : Int32) (x2 : Int32) (x3 : Int32) (x4 : Int32) (x5 : Int32) {iv : zI} {rv : zR} {lv : zJ} {Q : Int32 → zI → zR → zJ → Prop} (h : Zi mX11_feed d 0 [some (.ref 174), some (.int x1), some (.int x2), some (.int x3), some (.int x4), some (.int x5), none, none] [] iv rv lv Q) : Ci mX11_feed d [.ref 174, .int x1, .int x2, .int x3, .int x4, .int x5] iv rv lv Q := Ci.of (by decide +kernel) (by simp [Value.category]) (Nat.le_of_ble_eq_true rfl) rfl h
set_option maxRecDepth 4000 in
theorem bX11_feed_0 {d : Nat} (x1 : Int32) (x2 : Int32) (x3 : Int32) (x4 : Int32) (x5 : Int32) {iv : zI} {rv : zR} {lv : zJ} {Q : Int32 → zI → zR → zJ → Prop} (hT : zTop rv) 
    (h : ∀ iv1 : zI, iv1 = zu iv 174 0 (0 : Int32) → (((iv1 174 4) + (20 : Int32)) ≤ (300 : Int32) → Zi mX11_feed d 23 [some (.ref 174), some (.int x1), some (.int x2), some (.int x3), some (.int x4), some (.int x5), some (.int (0 : Int32)), none] [] iv1 rv lv Q) ∧ (¬ ((iv1 174 4) + (20 : Int32)) ≤ (300 : Int32) → Q (-1 : Int32) iv1 rv lv)) :
    Zi mX11_feed d 0 [some (.ref 174), some (.int x1), some (.int x2), some (.int x3), some (.int x4), some (.int x5), none, none] [] iv rv lv Q := by
  unfold Zi
  refine Z_aload_n (a := 0) (q := 1) (by decide +kernel) rfl rfl ?_
  refine Z_iconst (a := 0) (v := 0) (q := 2) (by decide +kernel) (by decide +kernel) rfl ?_
  refine p11_0 (idx := 87) (q := 5) (by decide +kernel) fX11_87 rfl (by decide) rfl ?_
  replace h := h _ rfl
  refine Z_aload_n (a := 0) (q := 6) (by decide +kernel) rfl rfl ?_
  refine g11_4 (idx := 97) (q := 9) (by decide +kernel) fX11_97 rfl (by decide) rfl ?_
  refine Z_bipush (a := 20) (v := 20) (q := 11) (by decide +kernel) (by decide +kernel) rfl ?_
  refine Z_iadd (q := 12) (by decide +kernel) rfl ?_
  refine Z_sipush (a := 300) (v := 300) (q := 15) (by decide +kernel) (by decide +kernel) rfl ?_
  refine Z_icmp_le (t := 20) (off := 5) (q := 18) (by decide +kernel) (by decide) rfl (fun hc => ?_) (fun hc => ?_)
  · replace h := h.1 hc
    refine Z_iconst (a := 0) (v := 0) (q := 21) (by decide +kernel) (by decide +kernel) rfl ?_
    refine Z_istore (a := 6) (loc2 := [_, _, _, _, _, _, _, _]) (q := 23) (by decide +kernel) (by decide +kernel) rfl rfl rfl ?_
    exact h
  · replace h := h.2 hc
    refine Z_iconst (a := -1) (v := -1) (q := 19) (by decide +kernel) (by decide +kernel) rfl ?_
    exact Z_iret (ty := .int) (by decide +kernel) rfl rfl rfl ⟨_, rfl, h⟩
set_option maxRecDepth 4000 in
theorem bX11_feed_23 {d : Nat} (x1 : Int32) (x2 : Int32) (x3 : Int32) (x4 : Int32) (x5 : Int32) (x6 : Int32) {iv : zI} {rv : zR} {lv : zJ} {Q : Int32 → zI → zR → zJ → Prop} (hT : zTop rv) 
    (h : ((20 : Int32) ≤ x6 → ∀ iv1 : zI, iv1 = zu iv 174 4 ((iv 174 4) + (20 : Int32)) → Q (iv1 174 4) iv1 rv lv) ∧ (¬ (20 : Int32) ≤ x6 → ((4 : Int32) ≤ x6 → ((8 : Int32) ≤ x6 → ((12 : Int32) ≤ x6 → ((16 : Int32) ≤ x6 → Zi mX11_feed d 76 [some (.ref 174), some (.int x1), some (.int x2), some (.int x3), some (.int x4), some (.int x5), some (.int x6), none] [.int x5] iv rv lv Q) ∧ (¬ (16 : Int32) ≤ x6 → Zi mX11_feed d 76 [some (.ref 174), some (.int x1), some (.int x2), some (.int x3), some (.int x4), some (.int x5), some (.int x6), none] [.int x4] iv rv lv Q)) ∧ (¬ (12 : Int32) ≤ x6 → Zi mX11_feed d 76 [some (.ref 174), some (.int x1), some (.int x2), some (.int x3), some (.int x4), some (.int x5), some (.int x6), none] [.int x3] iv rv lv Q)) ∧ (¬ (8 : Int32) ≤ x6 → Zi mX11_feed d 76 [some (.ref 174), some (.int x1), some (.int x2), some (.int x3), some (.int x4), some (.int x5), some (.int x6), none] [.int x2] iv rv lv Q)) ∧ (¬ (4 : Int32) ≤ x6 → Zi mX11_feed d 76 [some (.ref 174), some (.int x1), some (.int x2), some (.int x3), some (.int x4), some (.int x5), some (.int x6), none] [.int x1] iv rv lv Q))) :
    Zi mX11_feed d 23 [some (.ref 174), some (.int x1), some (.int x2), some (.int x3), some (.int x4), some (.int x5), some (.int x6), none] [] iv rv lv Q := by
  unfold Zi
  refine Z_iload (a := 6) (q := 25) (by decide +kernel) rfl rfl ?_
  refine Z_bipush (a := 20) (v := 20) (q := 27) (by decide +kernel) (by decide +kernel) rfl ?_
  refine Z_icmp_ge (t := 113) (off := 86) (q := 30) (by decide +kernel) (by decide) rfl (fun hc => ?_) (fun hc => ?_)
  · replace h := h.1 hc
    refine Z_aload_n (a := 0) (q := 114) (by decide +kernel) rfl rfl ?_
    refine Z_dup (q := 115) (by decide +kernel) rfl rfl ?_
    refine g11_4 (idx := 97) (q := 118) (by decide +kernel) fX11_97 rfl (by decide) rfl ?_
    refine Z_bipush (a := 20) (v := 20) (q := 120) (by decide +kernel) (by decide +kernel) rfl ?_
    refine Z_iadd (q := 121) (by decide +kernel) rfl ?_
    refine p11_4 (idx := 97) (q := 124) (by decide +kernel) fX11_97 rfl (by decide) rfl ?_
    replace h := h _ rfl
    refine Z_aload_n (a := 0) (q := 125) (by decide +kernel) rfl rfl ?_
    refine g11_4 (idx := 97) (q := 128) (by decide +kernel) fX11_97 rfl (by decide) rfl ?_
    exact Z_iret (ty := .int) (by decide +kernel) rfl rfl rfl ⟨_, rfl, h⟩
  · replace h := h.2 hc
    refine Z_iload (a := 6) (q := 32) (by decide +kernel) rfl rfl ?_
    refine Z_iconst (a := 4) (v := 4) (q := 33) (by decide +kernel) (by decide +kernel) rfl ?_
    refine Z_icmp_ge (t := 40) (off := 7) (q := 36) (by decide +kernel) (by decide) rfl (fun hc => ?_) (fun hc => ?_)
    · replace h := h.1 hc
      refine Z_iload (a := 6) (q := 42) (by decide +kernel) rfl rfl ?_
      refine Z_bipush (a := 8) (v := 8) (q := 44) (by decide +kernel) (by decide +kernel) rfl ?_
      refine Z_icmp_ge (t := 51) (off := 7) (q := 47) (by decide +kernel) (by decide) rfl (fun hc => ?_) (fun hc => ?_)
      · replace h := h.1 hc
        refine Z_iload (a := 6) (q := 53) (by decide +kernel) rfl rfl ?_
        refine Z_bipush (a := 12) (v := 12) (q := 55) (by decide +kernel) (by decide +kernel) rfl ?_
        refine Z_icmp_ge (t := 62) (off := 7) (q := 58) (by decide +kernel) (by decide) rfl (fun hc => ?_) (fun hc => ?_)
        · replace h := h.1 hc
          refine Z_iload (a := 6) (q := 64) (by decide +kernel) rfl rfl ?_
          refine Z_bipush (a := 16) (v := 16) (q := 66) (by decide +kernel) (by decide +kernel) rfl ?_
          refine Z_icmp_ge (t := 74) (off := 8) (q := 69) (by decide +kernel) (by decide) rfl (fun hc => ?_) (fun hc => ?_)
          · replace h := h.1 hc
            refine Z_iload (a := 5) (q := 76) (by decide +kernel) rfl rfl ?_
            exact h
          · replace h := h.2 hc
            refine Z_iload (a := 4) (q := 71) (by decide +kernel) rfl rfl ?_
            refine Z_goto (q := 76) (off := 5) (by decide +kernel) (by decide) ?_
            exact h
        · replace h := h.2 hc
          refine Z_iload_n (a := 3) (q := 59) (by decide +kernel) rfl rfl ?_
          refine Z_goto (q := 76) (off := 17) (by decide +kernel) (by decide) ?_
          exact h
      · replace h := h.2 hc
        refine Z_iload_n (a := 2) (q := 48) (by decide +kernel) rfl rfl ?_
        refine Z_goto (q := 76) (off := 28) (by decide +kernel) (by decide) ?_
        exact h
    · replace h := h.2 hc
      refine Z_iload_n (a := 1) (q := 37) (by decide +kernel) rfl rfl ?_
      refine Z_goto (q := 76) (off := 39) (by decide +kernel) (by decide) ?_
      exact h
set_option maxRecDepth 4000 in
theorem bX11_feed_76 {d : Nat} (x1 : Int32) (x2 : Int32) (x3 : Int32) (x4 : Int32) (x5 : Int32) (x6 : Int32) (y0 : Int32) {iv : zI} {rv : zR} {lv : zJ} {Q : Int32 → zI → zR → zJ → Prop} (hT : zTop rv) 
    (h : vp_in ((iv 174 4) + x6) 300 ∧ (∀ iv2 : zI, iv2 = zu iv 175 ((iv 174 4) + x6).toNatClampNeg ((y0 >>> (((24 : Int32) - ((8 : Int32) * (x6 - x6 / (4 : Int32) * (4 : Int32)))) &&& 31)) &&& (255 : Int32)) → Zi mX11_feed d 23 [some (.ref 174), some (.int x1), some (.int x2), some (.int x3), some (.int x4), some (.int x5), some (.int (x6 + 1)), none] [] iv2 rv lv Q)) :
    Zi mX11_feed d 76 [some (.ref 174), some (.int x1), some (.int x2), some (.int x3), some (.int x4), some (.int x5), some (.int x6), none] [.int y0] iv rv lv Q := by
  unfold Zi
  refine Z_istore (a := 7) (loc2 := [_, _, _, _, _, _, _, _]) (q := 78) (by decide +kernel) (by decide +kernel) rfl rfl rfl ?_
  refine Z_aload_n (a := 0) (q := 79) (by decide +kernel) rfl rfl ?_
  refine g11_3 (idx := 13) (q := 82) (by decide +kernel) fX11_13 rfl (by decide) (t11_3 hT) rfl ?_
  refine Z_aload_n (a := 0) (q := 83) (by decide +kernel) rfl rfl ?_
  refine g11_4 (idx := 97) (q := 86) (by decide +kernel) fX11_97 rfl (by decide) rfl ?_
  refine Z_iload (a := 6) (q := 88) (by decide +kernel) rfl rfl ?_
  refine Z_iadd (q := 89) (by decide +kernel) rfl ?_
  refine Z_iload (a := 7) (q := 91) (by decide +kernel) rfl rfl ?_
  refine Z_bipush (a := 24) (v := 24) (q := 93) (by decide +kernel) (by decide +kernel) rfl ?_
  refine Z_bipush (a := 8) (v := 8) (q := 95) (by decide +kernel) (by decide +kernel) rfl ?_
  refine Z_iload (a := 6) (q := 97) (by decide +kernel) rfl rfl ?_
  refine Z_iconst (a := 4) (v := 4) (q := 98) (by decide +kernel) (by decide +kernel) rfl ?_
  refine Z_irem (q := 99) (by decide +kernel) (by decide) rfl ?_
  refine Z_imul (q := 100) (by decide +kernel) rfl ?_
  refine Z_isub (q := 101) (by decide +kernel) rfl ?_
  refine Z_ishr (q := 102) (by decide +kernel) rfl ?_
  refine Z_sipush (a := 255) (v := 255) (q := 105) (by decide +kernel) (by decide +kernel) rfl ?_
  refine Z_iand (q := 106) (by decide +kernel) rfl ?_
  obtain ⟨hin1, h⟩ := h
  refine Z_iast (len := 300) (q := 107) (by decide +kernel) rfl (by decide) hin1 rfl ?_
  replace h := h _ rfl
  refine Z_iinc (a := 6) (b := 1) (v := _ + 1) (loc2 := [_, _, _, _, _, _, _, _]) (q := 110) (by decide +kernel) rfl (zinc _) (by decide +kernel) rfl rfl rfl ?_
  refine Z_goto (q := 23) (off := -87) (by decide +kernel) (by decide) ?_
  exact Z_forget h (And.intro rfl (And.intro rfl (And.intro rfl (And.intro rfl (And.intro rfl (And.intro rfl (And.intro rfl trivial)))))))
theorem eX11_flaw {d : Nat} (x1 : Int32) {iv : zI} {rv : zR} {lv : zJ} {Q : zI → zR → zJ → Prop} (h : Zv mX11_flaw d 0 [some (.ref 174), some (.int x1)] [] iv rv lv Q) : Cv mX11_flaw d [.ref 174, .int x1] iv rv lv Q := Cv.of (by decide +kernel) (by simp [Value.category]) (Nat.le_of_ble_eq_true rfl) rfl h
set_option maxRecDepth 4000 in
theorem bX11_flaw_0 {d : Nat} (x1 : Int32) {iv : zI} {rv : zR} {lv : zJ} {Q : zI → zR → zJ → Prop} (hT : zTop rv) 
    (h : ((iv 174 7) ≤ 0 → ∀ iv1 : zI, iv1 = zu iv 174 7 x1 → ∀ iv2 : zI, iv2 = zu iv1 174 8 (iv1 174 10) → Q iv2 rv lv) ∧ (¬ (iv 174 7) ≤ 0 → Q iv rv lv)) :
    Zv mX11_flaw d 0 [some (.ref 174), some (.int x1)] [] iv rv lv Q := by
  unfold Zv
  refine Z_aload_n (a := 0) (q := 1) (by decide +kernel) rfl rfl ?_
  refine g11_7 (idx := 100) (q := 4) (by decide +kernel) fX11_100 rfl (by decide) rfl ?_
  refine Z_if_le (t := 8) (off := 4) (q := 7) (by decide +kernel) (by decide) rfl (fun hc => ?_) (fun hc => ?_)
  · replace h := h.1 hc
    refine Z_aload_n (a := 0) (q := 9) (by decide +kernel) rfl rfl ?_
    refine Z_iload_n (a := 1) (q := 10) (by decide +kernel) rfl rfl ?_
    refine p11_7 (idx := 100) (q := 13) (by decide +kernel) fX11_100 rfl (by decide) rfl ?_
    replace h := h _ rfl
    refine Z_aload_n (a := 0) (q := 14) (by decide +kernel) rfl rfl ?_
    refine Z_aload_n (a := 0) (q := 15) (by decide +kernel) rfl rfl ?_
    refine g11_10 (idx := 103) (q := 18) (by decide +kernel) fX11_103 rfl (by decide) rfl ?_
    refine p11_8 (idx := 106) (q := 21) (by decide +kernel) fX11_106 rfl (by decide) rfl ?_
    replace h := h _ rfl
    exact Z_vret (by decide +kernel) rfl rfl ⟨rfl, h⟩
  · replace h := h.2 hc
    exact Z_vret (by decide +kernel) rfl rfl ⟨rfl, h⟩
theorem eX11_isLetterAt {d : Nat} (x1 : Int32) {iv : zI} {rv : zR} {lv : zJ} {Q : Int32 → zI → zR → zJ → Prop} (h : Zi mX11_isLetterAt (d + 1) 0 [some (.ref 174), some (.int x1)] [] iv rv lv Q) : Ci mX11_isLetterAt (d + 1) [.ref 174, .int x1] iv rv lv Q := Ci.of (by decide +kernel) (by simp [Value.category]) (Nat.le_of_ble_eq_true rfl) rfl h
set_option maxRecDepth 4000 in
theorem bX11_isLetterAt_0 {d : Nat} (x1 : Int32) {iv : zI} {rv : zR} {lv : zJ} {Q : Int32 → zI → zR → zJ → Prop} (hT : zTop rv) 
    (h : ((iv 174 5) ≤ x1 → Q (0 : Int32) iv rv lv) ∧ (¬ (iv 174 5) ≤ x1 → vp_in x1 300 ∧ (∃ Q2 : Int32 → zI → zR → zJ → Prop, Ci mX11_in d [.int (iv 175 x1.toNatClampNeg), .int (97 : Int32), .int (122 : Int32)] iv rv lv Q2 ∧ ∀ (v7 : Int32) (iv3 : zI) (rv4 : zR) (lv5 : zJ), Q2 v7 iv3 rv4 lv5 → zTop rv4 ∧ ((v7 = 0 → Q (0 : Int32) iv3 rv4 lv5) ∧ (¬ v7 = 0 → Q (1 : Int32) iv3 rv4 lv5))))) :
    Zi mX11_isLetterAt (d + 1) 0 [some (.ref 174), some (.int x1)] [] iv rv lv Q := by
  unfold Zi
  refine Z_iload_n (a := 1) (q := 1) (by decide +kernel) rfl rfl ?_
  refine Z_aload_n (a := 0) (q := 2) (by decide +kernel) rfl rfl ?_
  refine g11_5 (idx := 109) (q := 5) (by decide +kernel) fX11_109 rfl (by decide) rfl ?_
  refine Z_icmp_ge (t := 28) (off := 23) (q := 8) (by decide +kernel) (by decide) rfl (fun hc => ?_) (fun hc => ?_)
  · replace h := h.1 hc
    refine Z_iconst (a := 0) (v := 0) (q := 29) (by decide +kernel) (by decide +kernel) rfl ?_
    exact Z_iret (ty := .boolean) (by decide +kernel) rfl rfl rfl ⟨_, rfl, h⟩
  · replace h := h.2 hc
    refine Z_aload_n (a := 0) (q := 9) (by decide +kernel) rfl rfl ?_
    refine g11_3 (idx := 13) (q := 12) (by decide +kernel) fX11_13 rfl (by decide) (t11_3 hT) rfl ?_
    refine Z_iload_n (a := 1) (q := 13) (by decide +kernel) rfl rfl ?_
    obtain ⟨hin1, h⟩ := h
    refine Z_iald (len := 300) (q := 14) (by decide +kernel) rfl (by decide) hin1 rfl ?_
    refine Z_bipush (a := 97) (v := 97) (q := 16) (by decide +kernel) (by decide +kernel) rfl ?_
    refine Z_bipush (a := 122) (v := 122) (q := 18) (by decide +kernel) (by decide +kernel) rfl ?_
    obtain ⟨Q2, hm, h⟩ := h
    refine Z_callSi (M2 := mX11_in) (idx := 112) (d2 := d) (As := [.int _, .int _, .int _]) (q := 21) (by decide +kernel) kX11_in lX11_112 rfl rfl (by decide +kernel) (Nat.le_of_ble_eq_true rfl) (Nat.le_refl _) hm rfl (fun v7 iv3 rv4 lv5 hq => ?_)
    obtain ⟨hT6, h⟩ := h v7 iv3 rv4 lv5 hq
    refine Z_if_eq (t := 28) (off := 7) (q := 24) (by decide +kernel) (by decide) rfl (fun hc => ?_) (fun hc => ?_)
    · replace h := h.1 hc
      refine Z_iconst (a := 0) (v := 0) (q := 29) (by decide +kernel) (by decide +kernel) rfl ?_
      exact Z_iret (ty := .boolean) (by decide +kernel) rfl rfl rfl ⟨_, rfl, h⟩
    · replace h := h.2 hc
      refine Z_iconst (a := 1) (v := 1) (q := 25) (by decide +kernel) (by decide +kernel) rfl ?_
      refine Z_goto (q := 29) (off := 4) (by decide +kernel) (by decide) ?_
      exact Z_iret (ty := .boolean) (by decide +kernel) rfl rfl rfl ⟨_, rfl, h⟩
theorem eX11_isDigitAt {d : Nat} (x1 : Int32) {iv : zI} {rv : zR} {lv : zJ} {Q : Int32 → zI → zR → zJ → Prop} (h : Zi mX11_isDigitAt (d + 1) 0 [some (.ref 174), some (.int x1)] [] iv rv lv Q) : Ci mX11_isDigitAt (d + 1) [.ref 174, .int x1] iv rv lv Q := Ci.of (by decide +kernel) (by simp [Value.category]) (Nat.le_of_ble_eq_true rfl) rfl h
set_option maxRecDepth 4000 in
theorem bX11_isDigitAt_0 {d : Nat} (x1 : Int32) {iv : zI} {rv : zR} {lv : zJ} {Q : Int32 → zI → zR → zJ → Prop} (hT : zTop rv) 
    (h : ((iv 174 5) ≤ x1 → Q (0 : Int32) iv rv lv) ∧ (¬ (iv 174 5) ≤ x1 → vp_in x1 300 ∧ (∃ Q2 : Int32 → zI → zR → zJ → Prop, Ci mX11_in d [.int (iv 175 x1.toNatClampNeg), .int (48 : Int32), .int (57 : Int32)] iv rv lv Q2 ∧ ∀ (v7 : Int32) (iv3 : zI) (rv4 : zR) (lv5 : zJ), Q2 v7 iv3 rv4 lv5 → zTop rv4 ∧ ((v7 = 0 → Q (0 : Int32) iv3 rv4 lv5) ∧ (¬ v7 = 0 → Q (1 : Int32) iv3 rv4 lv5))))) :
    Zi mX11_isDigitAt (d + 1) 0 [some (.ref 174), some (.int x1)] [] iv rv lv Q := by
  unfold Zi
  refine Z_iload_n (a := 1) (q := 1) (by decide +kernel) rfl rfl ?_
  refine Z_aload_n (a := 0) (q := 2) (by decide +kernel) rfl rfl ?_
  refine g11_5 (idx := 109) (q := 5) (by decide +kernel) fX11_109 rfl (by decide) rfl ?_
  refine Z_icmp_ge (t := 28) (off := 23) (q := 8) (by decide +kernel) (by decide) rfl (fun hc => ?_) (fun hc => ?_)
  · replace h := h.1 hc
    refine Z_iconst (a := 0) (v := 0) (q := 29) (by decide +kernel) (by decide +kernel) rfl ?_
    exact Z_iret (ty := .boolean) (by decide +kernel) rfl rfl rfl ⟨_, rfl, h⟩
  · replace h := h.2 hc
    refine Z_aload_n (a := 0) (q := 9) (by decide +kernel) rfl rfl ?_
    refine g11_3 (idx := 13) (q := 12) (by decide +kernel) fX11_13 rfl (by decide) (t11_3 hT) rfl ?_
    refine Z_iload_n (a := 1) (q := 13) (by decide +kernel) rfl rfl ?_
    obtain ⟨hin1, h⟩ := h
    refine Z_iald (len := 300) (q := 14) (by decide +kernel) rfl (by decide) hin1 rfl ?_
    refine Z_bipush (a := 48) (v := 48) (q := 16) (by decide +kernel) (by decide +kernel) rfl ?_
    refine Z_bipush (a := 57) (v := 57) (q := 18) (by decide +kernel) (by decide +kernel) rfl ?_
    obtain ⟨Q2, hm, h⟩ := h
    refine Z_callSi (M2 := mX11_in) (idx := 112) (d2 := d) (As := [.int _, .int _, .int _]) (q := 21) (by decide +kernel) kX11_in lX11_112 rfl rfl (by decide +kernel) (Nat.le_of_ble_eq_true rfl) (Nat.le_refl _) hm rfl (fun v7 iv3 rv4 lv5 hq => ?_)
    obtain ⟨hT6, h⟩ := h v7 iv3 rv4 lv5 hq
    refine Z_if_eq (t := 28) (off := 7) (q := 24) (by decide +kernel) (by decide) rfl (fun hc => ?_) (fun hc => ?_)
    · replace h := h.1 hc
      refine Z_iconst (a := 0) (v := 0) (q := 29) (by decide +kernel) (by decide +kernel) rfl ?_
      exact Z_iret (ty := .boolean) (by decide +kernel) rfl rfl rfl ⟨_, rfl, h⟩
    · replace h := h.2 hc
      refine Z_iconst (a := 1) (v := 1) (q := 25) (by decide +kernel) (by decide +kernel) rfl ?_
      refine Z_goto (q := 29) (off := 4) (by decide +kernel) (by decide) ?_
      exact Z_iret (ty := .boolean) (by decide +kernel) rfl rfl rfl ⟨_, rfl, h⟩
theorem eX11_goOn {d : Nat}  {iv : zI} {rv : zR} {lv : zJ} {Q : zI → zR → zJ → Prop} (h : Zv mX11_goOn (d + 1) 0 [some (.ref 174)] [] iv rv lv Q) : Cv mX11_goOn (d + 1) [.ref 174] iv rv lv Q := Cv.of (by decide +kernel) (by simp [Value.category]) (Nat.le_of_ble_eq_true rfl) rfl h
set_option maxRecDepth 4000 in
theorem bX11_goOn_0 {d : Nat}  {iv : zI} {rv : zR} {lv : zJ} {Q : zI → zR → zJ → Prop} (hT : zTop rv) 
    (h : ((iv 174 7) ≤ 0 → Zv mX11_goOn (d + 1) 8 [some (.ref 174)] [] iv rv lv Q) ∧ (¬ (iv 174 7) ≤ 0 → Q iv rv lv)) :
    Zv mX11_goOn (d + 1) 0 [some (.ref 174)] [] iv rv lv Q := by
  unfold Zv
  refine Z_aload_n (a := 0) (q := 1) (by decide +kernel) rfl rfl ?_
  refine g11_7 (idx := 100) (q := 4) (by decide +kernel) fX11_100 rfl (by decide) rfl ?_
  refine Z_if_le (t := 8) (off := 4) (q := 7) (by decide +kernel) (by decide) rfl (fun hc => ?_) (fun hc => ?_)
  · replace h := h.1 hc
    exact h
  · replace h := h.2 hc
    exact Z_vret (by decide +kernel) rfl rfl ⟨rfl, h⟩
set_option maxRecDepth 4000 in
theorem bX11_goOn_8 {d : Nat}  {iv : zI} {rv : zR} {lv : zJ} {Q : zI → zR → zJ → Prop} (hT : zTop rv) 
    (h : ((iv 174 5) ≤ (iv 174 6) → Zv mX11_goOn (d + 1) 46 [some (.ref 174)] [] iv rv lv Q) ∧ (¬ (iv 174 5) ≤ (iv 174 6) → vp_in (iv 174 6) 300 ∧ ((¬ (iv 175 (iv 174 6).toNatClampNeg) = (32 : Int32) → Zv mX11_goOn (d + 1) 46 [some (.ref 174)] [] iv rv lv Q) ∧ ((iv 175 (iv 174 6).toNatClampNeg) = (32 : Int32) → ∀ iv2 : zI, iv2 = zu iv 174 6 ((iv 174 6) + (1 : Int32)) → Zv mX11_goOn (d + 1) 8 [some (.ref 174)] [] iv2 rv lv Q)))) :
    Zv mX11_goOn (d + 1) 8 [some (.ref 174)] [] iv rv lv Q := by
  unfold Zv
  refine Z_aload_n (a := 0) (q := 9) (by decide +kernel) rfl rfl ?_
  refine g11_6 (idx := 116) (q := 12) (by decide +kernel) fX11_116 rfl (by decide) rfl ?_
  refine Z_aload_n (a := 0) (q := 13) (by decide +kernel) rfl rfl ?_
  refine g11_5 (idx := 109) (q := 16) (by decide +kernel) fX11_109 rfl (by decide) rfl ?_
  refine Z_icmp_ge (t := 46) (off := 30) (q := 19) (by decide +kernel) (by decide) rfl (fun hc => ?_) (fun hc => ?_)
  · replace h := h.1 hc
    exact h
  · replace h := h.2 hc
    refine Z_aload_n (a := 0) (q := 20) (by decide +kernel) rfl rfl ?_
    refine g11_3 (idx := 13) (q := 23) (by decide +kernel) fX11_13 rfl (by decide) (t11_3 hT) rfl ?_
    refine Z_aload_n (a := 0) (q := 24) (by decide +kernel) rfl rfl ?_
    refine g11_6 (idx := 116) (q := 27) (by decide +kernel) fX11_116 rfl (by decide) rfl ?_
    obtain ⟨hin1, h⟩ := h
    refine Z_iald (len := 300) (q := 28) (by decide +kernel) rfl (by decide) hin1 rfl ?_
    refine Z_bipush (a := 32) (v := 32) (q := 30) (by decide +kernel) (by decide +kernel) rfl ?_
    refine Z_icmp_ne (t := 46) (off := 16) (q := 33) (by decide +kernel) (by decide) rfl (fun hc => ?_) (fun hc => ?_)
    · replace h := h.1 hc
      exact h
    · replace h := h.2 hc
      refine Z_aload_n (a := 0) (q := 34) (by decide +kernel) rfl rfl ?_
      refine Z_dup (q := 35) (by decide +kernel) rfl rfl ?_
      refine g11_6 (idx := 116) (q := 38) (by decide +kernel) fX11_116 rfl (by decide) rfl ?_
      refine Z_iconst (a := 1) (v := 1) (q := 39) (by decide +kernel) (by decide +kernel) rfl ?_
      refine Z_iadd (q := 40) (by decide +kernel) rfl ?_
      refine p11_6 (idx := 116) (q := 43) (by decide +kernel) fX11_116 rfl (by decide) rfl ?_
      replace h := h _ rfl
      refine Z_goto (q := 8) (off := -35) (by decide +kernel) (by decide) ?_
      exact h
set_option maxRecDepth 4000 in
theorem bX11_goOn_46 {d : Nat}  {iv : zI} {rv : zR} {lv : zJ} {Q : zI → zR → zJ → Prop} (hT : zTop rv) 
    (h : ∀ iv1 : zI, iv1 = zu iv 174 10 (iv 174 6) → (¬ (iv1 174 6) = (iv1 174 5) → ∃ Q2 : Int32 → zI → zR → zJ → Prop, Ci mX11_isLetterAt d [.ref 174, .int (iv1 174 6)] iv1 rv lv Q2 ∧ ∀ (v7 : Int32) (iv3 : zI) (rv4 : zR) (lv5 : zJ), Q2 v7 iv3 rv4 lv5 → zTop rv4 ∧ ((v7 = 0 → ∃ Q8 : Int32 → zI → zR → zJ → Prop, Ci mX11_isDigitAt d [.ref 174, .int (iv3 174 6)] iv3 rv4 lv5 Q8 ∧ ∀ (v13 : Int32) (iv9 : zI) (rv10 : zR) (lv11 : zJ), Q8 v13 iv9 rv10 lv11 → zTop rv10 ∧ ((v13 = 0 → vp_in (iv9 174 6) 300 ∧ (∀ iv15 : zI, iv15 = zu iv9 174 11 (iv9 175 (iv9 174 6).toNatClampNeg) → ((iv15 174 11) = (59 : Int32) → ∀ iv16 : zI, iv16 = zu iv15 174 9 (4 : Int32) → ∀ iv17 : zI, iv17 = zu iv16 174 6 ((iv16 174 6) + (1 : Int32)) → Q iv17 rv10 lv11) ∧ (¬ (iv15 174 11) = (59 : Int32) → (¬ (iv15 174 11) = (44 : Int32) → ∀ iv18 : zI, iv18 = zu iv15 174 9 (0 : Int32) → ∀ iv19 : zI, iv19 = zu iv18 174 6 ((iv18 174 6) + (1 : Int32)) → Q iv19 rv10 lv11) ∧ ((iv15 174 11) = (44 : Int32) → ∀ iv20 : zI, iv20 = zu iv15 174 9 (4 : Int32) → ∀ iv21 : zI, iv21 = zu iv20 174 6 ((iv20 174 6) + (1 : Int32)) → Q iv21 rv10 lv11)))) ∧ (¬ v13 = 0 → ∀ iv22 : zI, iv22 = zu iv9 174 12 (0 : Int32) → Zv mX11_goOn (d + 1) 198 [some (.ref 174)] [] iv22 rv10 lv11 Q))) ∧ (¬ v7 = 0 → ∀ lv23 : zJ, lv23 = zu lv5 174 13 (0 : Int64) → Zv mX11_goOn (d + 1) 89 [some (.ref 174)] [] iv3 rv4 lv23 Q))) ∧ ((iv1 174 6) = (iv1 174 5) → ∀ iv24 : zI, iv24 = zu iv1 174 9 (1 : Int32) → Q iv24 rv lv)) :
    Zv mX11_goOn (d + 1) 46 [some (.ref 174)] [] iv rv lv Q := by
  unfold Zv
  refine Z_aload_n (a := 0) (q := 47) (by decide +kernel) rfl rfl ?_
  refine Z_aload_n (a := 0) (q := 48) (by decide +kernel) rfl rfl ?_
  refine g11_6 (idx := 116) (q := 51) (by decide +kernel) fX11_116 rfl (by decide) rfl ?_
  refine p11_10 (idx := 103) (q := 54) (by decide +kernel) fX11_103 rfl (by decide) rfl ?_
  replace h := h _ rfl
  refine Z_aload_n (a := 0) (q := 55) (by decide +kernel) rfl rfl ?_
  refine g11_6 (idx := 116) (q := 58) (by decide +kernel) fX11_116 rfl (by decide) rfl ?_
  refine Z_aload_n (a := 0) (q := 59) (by decide +kernel) rfl rfl ?_
  refine g11_5 (idx := 109) (q := 62) (by decide +kernel) fX11_109 rfl (by decide) rfl ?_
  refine Z_icmp_ne (t := 73) (off := 11) (q := 65) (by decide +kernel) (by decide) rfl (fun hc => ?_) (fun hc => ?_)
  · replace h := h.1 hc
    refine Z_aload_n (a := 0) (q := 74) (by decide +kernel) rfl rfl ?_
    refine Z_aload_n (a := 0) (q := 75) (by decide +kernel) rfl rfl ?_
    refine g11_6 (idx := 116) (q := 78) (by decide +kernel) fX11_116 rfl (by decide) rfl ?_
    obtain ⟨Q2, hm, h⟩ := h
    refine Z_callVi (M2 := mX11_isLetterAt) (idx := 122) (d2 := d) (ci := 11) (As := [.int _]) (q := 81) (by decide +kernel) kX11_isLetterAt lX11_122 rfl rfl (by decide) rfl rfl (by decide +kernel) (Nat.le_of_ble_eq_true rfl) (Nat.le_refl _) hm rfl (fun v7 iv3 rv4 lv5 hq => ?_)
    obtain ⟨hT6, h⟩ := h v7 iv3 rv4 lv5 hq
    refine Z_if_eq (t := 182) (off := 101) (q := 84) (by decide +kernel) (by decide) rfl (fun hc => ?_) (fun hc => ?_)
    · replace h := h.1 hc
      refine Z_aload_n (a := 0) (q := 183) (by decide +kernel) rfl rfl ?_
      refine Z_aload_n (a := 0) (q := 184) (by decide +kernel) rfl rfl ?_
      refine g11_6 (idx := 116) (q := 187) (by decide +kernel) fX11_116 rfl (by decide) rfl ?_
      obtain ⟨Q8, hm, h⟩ := h
      refine Z_callVi (M2 := mX11_isDigitAt) (idx := 134) (d2 := d) (ci := 11) (As := [.int _]) (q := 190) (by decide +kernel) kX11_isDigitAt lX11_134 rfl rfl (by decide) rfl rfl (by decide +kernel) (Nat.le_of_ble_eq_true rfl) (Nat.le_refl _) hm rfl (fun v13 iv9 rv10 lv11 hq => ?_)
      obtain ⟨hT12, h⟩ := h v13 iv9 rv10 lv11 hq
      refine Z_if_eq (t := 284) (off := 94) (q := 193) (by decide +kernel) (by decide) rfl (fun hc => ?_) (fun hc => ?_)
      · replace h := h.1 hc
        refine Z_aload_n (a := 0) (q := 285) (by decide +kernel) rfl rfl ?_
        refine Z_aload_n (a := 0) (q := 286) (by decide +kernel) rfl rfl ?_
        refine g11_3 (idx := 13) (q := 289) (by decide +kernel) fX11_13 rfl (by decide) (t11_3 hT12) rfl ?_
        refine Z_aload_n (a := 0) (q := 290) (by decide +kernel) rfl rfl ?_
        refine g11_6 (idx := 116) (q := 293) (by decide +kernel) fX11_116 rfl (by decide) rfl ?_
        obtain ⟨hin14, h⟩ := h
        refine Z_iald (len := 300) (q := 294) (by decide +kernel) rfl (by decide) hin14 rfl ?_
        refine p11_11 (idx := 140) (q := 297) (by decide +kernel) fX11_140 rfl (by decide) rfl ?_
        replace h := h _ rfl
        refine Z_aload_n (a := 0) (q := 298) (by decide +kernel) rfl rfl ?_
        refine Z_aload_n (a := 0) (q := 299) (by decide +kernel) rfl rfl ?_
        refine g11_11 (idx := 140) (q := 302) (by decide +kernel) fX11_140 rfl (by decide) rfl ?_
        refine Z_bipush (a := 59) (v := 59) (q := 304) (by decide +kernel) (by decide +kernel) rfl ?_
        refine Z_icmp_eq (t := 316) (off := 12) (q := 307) (by decide +kernel) (by decide) rfl (fun hc => ?_) (fun hc => ?_)
        · replace h := h.1 hc
          refine Z_iconst (a := 4) (v := 4) (q := 317) (by decide +kernel) (by decide +kernel) rfl ?_
          refine Z_goto (q := 321) (off := 4) (by decide +kernel) (by decide) ?_
          refine p11_9 (idx := 119) (q := 324) (by decide +kernel) fX11_119 rfl (by decide) rfl ?_
          replace h := h _ rfl
          refine Z_aload_n (a := 0) (q := 325) (by decide +kernel) rfl rfl ?_
          refine Z_dup (q := 326) (by decide +kernel) rfl rfl ?_
          refine g11_6 (idx := 116) (q := 329) (by decide +kernel) fX11_116 rfl (by decide) rfl ?_
          refine Z_iconst (a := 1) (v := 1) (q := 330) (by decide +kernel) (by decide +kernel) rfl ?_
          refine Z_iadd (q := 331) (by decide +kernel) rfl ?_
          refine p11_6 (idx := 116) (q := 334) (by decide +kernel) fX11_116 rfl (by decide) rfl ?_
          replace h := h _ rfl
          exact Z_vret (by decide +kernel) rfl rfl ⟨rfl, h⟩
        · replace h := h.2 hc
          refine Z_aload_n (a := 0) (q := 308) (by decide +kernel) rfl rfl ?_
          refine g11_11 (idx := 140) (q := 311) (by decide +kernel) fX11_140 rfl (by decide) rfl ?_
          refine Z_bipush (a := 44) (v := 44) (q := 313) (by decide +kernel) (by decide +kernel) rfl ?_
          refine Z_icmp_ne (t := 320) (off := 7) (q := 316) (by decide +kernel) (by decide) rfl (fun hc => ?_) (fun hc => ?_)
          · replace h := h.1 hc
            refine Z_iconst (a := 0) (v := 0) (q := 321) (by decide +kernel) (by decide +kernel) rfl ?_
            refine p11_9 (idx := 119) (q := 324) (by decide +kernel) fX11_119 rfl (by decide) rfl ?_
            replace h := h _ rfl
            refine Z_aload_n (a := 0) (q := 325) (by decide +kernel) rfl rfl ?_
            refine Z_dup (q := 326) (by decide +kernel) rfl rfl ?_
            refine g11_6 (idx := 116) (q := 329) (by decide +kernel) fX11_116 rfl (by decide) rfl ?_
            refine Z_iconst (a := 1) (v := 1) (q := 330) (by decide +kernel) (by decide +kernel) rfl ?_
            refine Z_iadd (q := 331) (by decide +kernel) rfl ?_
            refine p11_6 (idx := 116) (q := 334) (by decide +kernel) fX11_116 rfl (by decide) rfl ?_
            replace h := h _ rfl
            exact Z_vret (by decide +kernel) rfl rfl ⟨rfl, h⟩
          · replace h := h.2 hc
            refine Z_iconst (a := 4) (v := 4) (q := 317) (by decide +kernel) (by decide +kernel) rfl ?_
            refine Z_goto (q := 321) (off := 4) (by decide +kernel) (by decide) ?_
            refine p11_9 (idx := 119) (q := 324) (by decide +kernel) fX11_119 rfl (by decide) rfl ?_
            replace h := h _ rfl
            refine Z_aload_n (a := 0) (q := 325) (by decide +kernel) rfl rfl ?_
            refine Z_dup (q := 326) (by decide +kernel) rfl rfl ?_
            refine g11_6 (idx := 116) (q := 329) (by decide +kernel) fX11_116 rfl (by decide) rfl ?_
            refine Z_iconst (a := 1) (v := 1) (q := 330) (by decide +kernel) (by decide +kernel) rfl ?_
            refine Z_iadd (q := 331) (by decide +kernel) rfl ?_
            refine p11_6 (idx := 116) (q := 334) (by decide +kernel) fX11_116 rfl (by decide) rfl ?_
            replace h := h _ rfl
            exact Z_vret (by decide +kernel) rfl rfl ⟨rfl, h⟩
      · replace h := h.2 hc
        refine Z_aload_n (a := 0) (q := 194) (by decide +kernel) rfl rfl ?_
        refine Z_iconst (a := 0) (v := 0) (q := 195) (by decide +kernel) (by decide +kernel) rfl ?_
        refine p11_12 (idx := 137) (q := 198) (by decide +kernel) fX11_137 rfl (by decide) rfl ?_
        replace h := h _ rfl
        exact h
    · replace h := h.2 hc
      refine Z_aload_n (a := 0) (q := 85) (by decide +kernel) rfl rfl ?_
      refine Z_lconst (a := 0) (v := 0) (q := 86) (by decide +kernel) (by decide +kernel) rfl ?_
      refine p11_13 (idx := 126) (q := 89) (by decide +kernel) fX11_126 rfl (by decide) rfl ?_
      replace h := h _ rfl
      exact h
  · replace h := h.2 hc
    refine Z_aload_n (a := 0) (q := 66) (by decide +kernel) rfl rfl ?_
    refine Z_iconst (a := 1) (v := 1) (q := 67) (by decide +kernel) (by decide +kernel) rfl ?_
    refine p11_9 (idx := 119) (q := 70) (by decide +kernel) fX11_119 rfl (by decide) rfl ?_
    replace h := h _ rfl
    refine Z_goto (q := 334) (off := 264) (by decide +kernel) (by decide) ?_
    exact Z_vret (by decide +kernel) rfl rfl ⟨rfl, h⟩
set_option maxRecDepth 4000 in
theorem bX11_goOn_89 {d : Nat}  {iv : zI} {rv : zR} {lv : zJ} {Q : zI → zR → zJ → Prop} (hT : zTop rv) 
    (h : ∃ Q1 : Int32 → zI → zR → zJ → Prop, Ci mX11_isLetterAt d [.ref 174, .int (iv 174 6)] iv rv lv Q1 ∧ ∀ (v6 : Int32) (iv2 : zI) (rv3 : zR) (lv4 : zJ), Q1 v6 iv2 rv3 lv4 → zTop rv3 ∧ ((v6 = 0 → (((iv2 174 6) - (iv2 174 10)) ≤ (6 : Int32) → ∀ iv7 : zI, iv7 = zu iv2 174 9 (2 : Int32) → Q iv7 rv3 lv4) ∧ (¬ ((iv2 174 6) - (iv2 174 10)) ≤ (6 : Int32) → ∀ iv8 : zI, iv8 = zu iv2 174 9 (0 : Int32) → Q iv8 rv3 lv4)) ∧ (¬ v6 = 0 → ((6 : Int32) ≤ ((iv2 174 6) - (iv2 174 10)) → ∀ iv9 : zI, iv9 = zu iv2 174 6 ((iv2 174 6) + (1 : Int32)) → Zv mX11_goOn (d + 1) 89 [some (.ref 174)] [] iv9 rv3 lv4 Q) ∧ (¬ (6 : Int32) ≤ ((iv2 174 6) - (iv2 174 10)) → vp_in (iv2 174 6) 300 ∧ (∀ lv11 : zJ, lv11 = zu lv4 174 13 (((((lv4 174 13) * (32 : Int64)) + ((iv2 175 (iv2 174 6).toNatClampNeg).toInt64)) - (97 : Int64)) + (1 : Int64)) → ∀ iv12 : zI, iv12 = zu iv2 174 6 ((iv2 174 6) + (1 : Int32)) → Zv mX11_goOn (d + 1) 89 [some (.ref 174)] [] iv12 rv3 lv11 Q))))) :
    Zv mX11_goOn (d + 1) 89 [some (.ref 174)] [] iv rv lv Q := by
  unfold Zv
  refine Z_aload_n (a := 0) (q := 90) (by decide +kernel) rfl rfl ?_
  refine Z_aload_n (a := 0) (q := 91) (by decide +kernel) rfl rfl ?_
  refine g11_6 (idx := 116) (q := 94) (by decide +kernel) fX11_116 rfl (by decide) rfl ?_
  obtain ⟨Q1, hm, h⟩ := h
  refine Z_callVi (M2 := mX11_isLetterAt) (idx := 122) (d2 := d) (ci := 11) (As := [.int _]) (q := 97) (by decide +kernel) kX11_isLetterAt lX11_122 rfl rfl (by decide) rfl rfl (by decide +kernel) (Nat.le_of_ble_eq_true rfl) (Nat.le_refl _) hm rfl (fun v6 iv2 rv3 lv4 hq => ?_)
  obtain ⟨hT5, h⟩ := h v6 iv2 rv3 lv4 hq
  refine Z_if_eq (t := 156) (off := 59) (q := 100) (by decide +kernel) (by decide) rfl (fun hc => ?_) (fun hc => ?_)
  · replace h := h.1 hc
    refine Z_aload_n (a := 0) (q := 157) (by decide +kernel) rfl rfl ?_
    refine Z_aload_n (a := 0) (q := 158) (by decide +kernel) rfl rfl ?_
    refine g11_6 (idx := 116) (q := 161) (by decide +kernel) fX11_116 rfl (by decide) rfl ?_
    refine Z_aload_n (a := 0) (q := 162) (by decide +kernel) rfl rfl ?_
    refine g11_10 (idx := 103) (q := 165) (by decide +kernel) fX11_103 rfl (by decide) rfl ?_
    refine Z_isub (q := 166) (by decide +kernel) rfl ?_
    refine Z_bipush (a := 6) (v := 6) (q := 168) (by decide +kernel) (by decide +kernel) rfl ?_
    refine Z_icmp_le (t := 175) (off := 7) (q := 171) (by decide +kernel) (by decide) rfl (fun hc => ?_) (fun hc => ?_)
    · replace h := h.1 hc
      refine Z_iconst (a := 2) (v := 2) (q := 176) (by decide +kernel) (by decide +kernel) rfl ?_
      refine p11_9 (idx := 119) (q := 179) (by decide +kernel) fX11_119 rfl (by decide) rfl ?_
      replace h := h _ rfl
      refine Z_goto (q := 334) (off := 155) (by decide +kernel) (by decide) ?_
      exact Z_vret (by decide +kernel) rfl rfl ⟨rfl, h⟩
    · replace h := h.2 hc
      refine Z_iconst (a := 0) (v := 0) (q := 172) (by decide +kernel) (by decide +kernel) rfl ?_
      refine Z_goto (q := 176) (off := 4) (by decide +kernel) (by decide) ?_
      refine p11_9 (idx := 119) (q := 179) (by decide +kernel) fX11_119 rfl (by decide) rfl ?_
      replace h := h _ rfl
      refine Z_goto (q := 334) (off := 155) (by decide +kernel) (by decide) ?_
      exact Z_vret (by decide +kernel) rfl rfl ⟨rfl, h⟩
  · replace h := h.2 hc
    refine Z_aload_n (a := 0) (q := 101) (by decide +kernel) rfl rfl ?_
    refine g11_6 (idx := 116) (q := 104) (by decide +kernel) fX11_116 rfl (by decide) rfl ?_
    refine Z_aload_n (a := 0) (q := 105) (by decide +kernel) rfl rfl ?_
    refine g11_10 (idx := 103) (q := 108) (by decide +kernel) fX11_103 rfl (by decide) rfl ?_
    refine Z_isub (q := 109) (by decide +kernel) rfl ?_
    refine Z_bipush (a := 6) (v := 6) (q := 111) (by decide +kernel) (by decide +kernel) rfl ?_
    refine Z_icmp_ge (t := 143) (off := 32) (q := 114) (by decide +kernel) (by decide) rfl (fun hc => ?_) (fun hc => ?_)
    · replace h := h.1 hc
      refine Z_aload_n (a := 0) (q := 144) (by decide +kernel) rfl rfl ?_
      refine Z_dup (q := 145) (by decide +kernel) rfl rfl ?_
      refine g11_6 (idx := 116) (q := 148) (by decide +kernel) fX11_116 rfl (by decide) rfl ?_
      refine Z_iconst (a := 1) (v := 1) (q := 149) (by decide +kernel) (by decide +kernel) rfl ?_
      refine Z_iadd (q := 150) (by decide +kernel) rfl ?_
      refine p11_6 (idx := 116) (q := 153) (by decide +kernel) fX11_116 rfl (by decide) rfl ?_
      replace h := h _ rfl
      refine Z_goto (q := 89) (off := -64) (by decide +kernel) (by decide) ?_
      exact h
    · replace h := h.2 hc
      refine Z_aload_n (a := 0) (q := 115) (by decide +kernel) rfl rfl ?_
      refine Z_aload_n (a := 0) (q := 116) (by decide +kernel) rfl rfl ?_
      refine g11_13 (idx := 126) (q := 119) (by decide +kernel) fX11_126 rfl (by decide) rfl ?_
      refine Z_ldc2 (a := 130) (v := 32) (q := 122) (by decide +kernel) cX11_130 rfl ?_
      refine Z_lmul (q := 123) (by decide +kernel) rfl ?_
      refine Z_aload_n (a := 0) (q := 124) (by decide +kernel) rfl rfl ?_
      refine g11_3 (idx := 13) (q := 127) (by decide +kernel) fX11_13 rfl (by decide) (t11_3 hT5) rfl ?_
      refine Z_aload_n (a := 0) (q := 128) (by decide +kernel) rfl rfl ?_
      refine g11_6 (idx := 116) (q := 131) (by decide +kernel) fX11_116 rfl (by decide) rfl ?_
      obtain ⟨hin10, h⟩ := h
      refine Z_iald (len := 300) (q := 132) (by decide +kernel) rfl (by decide) hin10 rfl ?_
      refine Z_i2l (q := 133) (by decide +kernel) rfl ?_
      refine Z_ladd (q := 134) (by decide +kernel) rfl ?_
      refine Z_ldc2 (a := 132) (v := 97) (q := 137) (by decide +kernel) cX11_132 rfl ?_
      refine Z_lsub (q := 138) (by decide +kernel) rfl ?_
      refine Z_lconst (a := 1) (v := 1) (q := 139) (by decide +kernel) (by decide +kernel) rfl ?_
      refine Z_ladd (q := 140) (by decide +kernel) rfl ?_
      refine p11_13 (idx := 126) (q := 143) (by decide +kernel) fX11_126 rfl (by decide) rfl ?_
      replace h := h _ rfl
      refine Z_aload_n (a := 0) (q := 144) (by decide +kernel) rfl rfl ?_
      refine Z_dup (q := 145) (by decide +kernel) rfl rfl ?_
      refine g11_6 (idx := 116) (q := 148) (by decide +kernel) fX11_116 rfl (by decide) rfl ?_
      refine Z_iconst (a := 1) (v := 1) (q := 149) (by decide +kernel) (by decide +kernel) rfl ?_
      refine Z_iadd (q := 150) (by decide +kernel) rfl ?_
      refine p11_6 (idx := 116) (q := 153) (by decide +kernel) fX11_116 rfl (by decide) rfl ?_
      replace h := h _ rfl
      refine Z_goto (q := 89) (off := -64) (by decide +kernel) (by decide) ?_
      exact h
set_option maxRecDepth 4000 in
theorem bX11_goOn_198 {d : Nat}  {iv : zI} {rv : zR} {lv : zJ} {Q : zI → zR → zJ → Prop} (hT : zTop rv) 
    (h : ∃ Q1 : Int32 → zI → zR → zJ → Prop, Ci mX11_isDigitAt d [.ref 174, .int (iv 174 6)] iv rv lv Q1 ∧ ∀ (v6 : Int32) (iv2 : zI) (rv3 : zR) (lv4 : zJ), Q1 v6 iv2 rv3 lv4 → zTop rv3 ∧ ((v6 = 0 → (((iv2 174 6) - (iv2 174 10)) ≤ (4 : Int32) → ∀ iv7 : zI, iv7 = zu iv2 174 9 (3 : Int32) → Q iv7 rv3 lv4) ∧ (¬ ((iv2 174 6) - (iv2 174 10)) ≤ (4 : Int32) → ∀ iv8 : zI, iv8 = zu iv2 174 9 (0 : Int32) → Q iv8 rv3 lv4)) ∧ (¬ v6 = 0 → ((4 : Int32) ≤ ((iv2 174 6) - (iv2 174 10)) → ∀ iv9 : zI, iv9 = zu iv2 174 6 ((iv2 174 6) + (1 : Int32)) → Zv mX11_goOn (d + 1) 198 [some (.ref 174)] [] iv9 rv3 lv4 Q) ∧ (¬ (4 : Int32) ≤ ((iv2 174 6) - (iv2 174 10)) → vp_in (iv2 174 6) 300 ∧ (∀ iv11 : zI, iv11 = zu iv2 174 12 ((((10 : Int32) * (iv2 174 12)) + (iv2 175 (iv2 174 6).toNatClampNeg)) - (48 : Int32)) → ∀ iv12 : zI, iv12 = zu iv11 174 6 ((iv11 174 6) + (1 : Int32)) → Zv mX11_goOn (d + 1) 198 [some (.ref 174)] [] iv12 rv3 lv4 Q))))) :
    Zv mX11_goOn (d + 1) 198 [some (.ref 174)] [] iv rv lv Q := by
  unfold Zv
  refine Z_aload_n (a := 0) (q := 199) (by decide +kernel) rfl rfl ?_
  refine Z_aload_n (a := 0) (q := 200) (by decide +kernel) rfl rfl ?_
  refine g11_6 (idx := 116) (q := 203) (by decide +kernel) fX11_116 rfl (by decide) rfl ?_
  obtain ⟨Q1, hm, h⟩ := h
  refine Z_callVi (M2 := mX11_isDigitAt) (idx := 134) (d2 := d) (ci := 11) (As := [.int _]) (q := 206) (by decide +kernel) kX11_isDigitAt lX11_134 rfl rfl (by decide) rfl rfl (by decide +kernel) (Nat.le_of_ble_eq_true rfl) (Nat.le_refl _) hm rfl (fun v6 iv2 rv3 lv4 hq => ?_)
  obtain ⟨hT5, h⟩ := h v6 iv2 rv3 lv4 hq
  refine Z_if_eq (t := 259) (off := 53) (q := 209) (by decide +kernel) (by decide) rfl (fun hc => ?_) (fun hc => ?_)
  · replace h := h.1 hc
    refine Z_aload_n (a := 0) (q := 260) (by decide +kernel) rfl rfl ?_
    refine Z_aload_n (a := 0) (q := 261) (by decide +kernel) rfl rfl ?_
    refine g11_6 (idx := 116) (q := 264) (by decide +kernel) fX11_116 rfl (by decide) rfl ?_
    refine Z_aload_n (a := 0) (q := 265) (by decide +kernel) rfl rfl ?_
    refine g11_10 (idx := 103) (q := 268) (by decide +kernel) fX11_103 rfl (by decide) rfl ?_
    refine Z_isub (q := 269) (by decide +kernel) rfl ?_
    refine Z_iconst (a := 4) (v := 4) (q := 270) (by decide +kernel) (by decide +kernel) rfl ?_
    refine Z_icmp_le (t := 277) (off := 7) (q := 273) (by decide +kernel) (by decide) rfl (fun hc => ?_) (fun hc => ?_)
    · replace h := h.1 hc
      refine Z_iconst (a := 3) (v := 3) (q := 278) (by decide +kernel) (by decide +kernel) rfl ?_
      refine p11_9 (idx := 119) (q := 281) (by decide +kernel) fX11_119 rfl (by decide) rfl ?_
      replace h := h _ rfl
      refine Z_goto (q := 334) (off := 53) (by decide +kernel) (by decide) ?_
      exact Z_vret (by decide +kernel) rfl rfl ⟨rfl, h⟩
    · replace h := h.2 hc
      refine Z_iconst (a := 0) (v := 0) (q := 274) (by decide +kernel) (by decide +kernel) rfl ?_
      refine Z_goto (q := 278) (off := 4) (by decide +kernel) (by decide) ?_
      refine p11_9 (idx := 119) (q := 281) (by decide +kernel) fX11_119 rfl (by decide) rfl ?_
      replace h := h _ rfl
      refine Z_goto (q := 334) (off := 53) (by decide +kernel) (by decide) ?_
      exact Z_vret (by decide +kernel) rfl rfl ⟨rfl, h⟩
  · replace h := h.2 hc
    refine Z_aload_n (a := 0) (q := 210) (by decide +kernel) rfl rfl ?_
    refine g11_6 (idx := 116) (q := 213) (by decide +kernel) fX11_116 rfl (by decide) rfl ?_
    refine Z_aload_n (a := 0) (q := 214) (by decide +kernel) rfl rfl ?_
    refine g11_10 (idx := 103) (q := 217) (by decide +kernel) fX11_103 rfl (by decide) rfl ?_
    refine Z_isub (q := 218) (by decide +kernel) rfl ?_
    refine Z_iconst (a := 4) (v := 4) (q := 219) (by decide +kernel) (by decide +kernel) rfl ?_
    refine Z_icmp_ge (t := 246) (off := 27) (q := 222) (by decide +kernel) (by decide) rfl (fun hc => ?_) (fun hc => ?_)
    · replace h := h.1 hc
      refine Z_aload_n (a := 0) (q := 247) (by decide +kernel) rfl rfl ?_
      refine Z_dup (q := 248) (by decide +kernel) rfl rfl ?_
      refine g11_6 (idx := 116) (q := 251) (by decide +kernel) fX11_116 rfl (by decide) rfl ?_
      refine Z_iconst (a := 1) (v := 1) (q := 252) (by decide +kernel) (by decide +kernel) rfl ?_
      refine Z_iadd (q := 253) (by decide +kernel) rfl ?_
      refine p11_6 (idx := 116) (q := 256) (by decide +kernel) fX11_116 rfl (by decide) rfl ?_
      replace h := h _ rfl
      refine Z_goto (q := 198) (off := -58) (by decide +kernel) (by decide) ?_
      exact h
    · replace h := h.2 hc
      refine Z_aload_n (a := 0) (q := 223) (by decide +kernel) rfl rfl ?_
      refine Z_bipush (a := 10) (v := 10) (q := 225) (by decide +kernel) (by decide +kernel) rfl ?_
      refine Z_aload_n (a := 0) (q := 226) (by decide +kernel) rfl rfl ?_
      refine g11_12 (idx := 137) (q := 229) (by decide +kernel) fX11_137 rfl (by decide) rfl ?_
      refine Z_imul (q := 230) (by decide +kernel) rfl ?_
      refine Z_aload_n (a := 0) (q := 231) (by decide +kernel) rfl rfl ?_
      refine g11_3 (idx := 13) (q := 234) (by decide +kernel) fX11_13 rfl (by decide) (t11_3 hT5) rfl ?_
      refine Z_aload_n (a := 0) (q := 235) (by decide +kernel) rfl rfl ?_
      refine g11_6 (idx := 116) (q := 238) (by decide +kernel) fX11_116 rfl (by decide) rfl ?_
      obtain ⟨hin10, h⟩ := h
      refine Z_iald (len := 300) (q := 239) (by decide +kernel) rfl (by decide) hin10 rfl ?_
      refine Z_iadd (q := 240) (by decide +kernel) rfl ?_
      refine Z_bipush (a := 48) (v := 48) (q := 242) (by decide +kernel) (by decide +kernel) rfl ?_
      refine Z_isub (q := 243) (by decide +kernel) rfl ?_
      refine p11_12 (idx := 137) (q := 246) (by decide +kernel) fX11_137 rfl (by decide) rfl ?_
      replace h := h _ rfl
      refine Z_aload_n (a := 0) (q := 247) (by decide +kernel) rfl rfl ?_
      refine Z_dup (q := 248) (by decide +kernel) rfl rfl ?_
      refine g11_6 (idx := 116) (q := 251) (by decide +kernel) fX11_116 rfl (by decide) rfl ?_
      refine Z_iconst (a := 1) (v := 1) (q := 252) (by decide +kernel) (by decide +kernel) rfl ?_
      refine Z_iadd (q := 253) (by decide +kernel) rfl ?_
      refine p11_6 (idx := 116) (q := 256) (by decide +kernel) fX11_116 rfl (by decide) rfl ?_
      replace h := h _ rfl
      refine Z_goto (q := 198) (off := -58) (by decide +kernel) (by decide) ?_
      exact h
theorem eX11_isWord {d : Nat} (x1 : Nat) {iv : zI} {rv : zR} {lv : zJ} {Q : Int32 → zI → zR → zJ → Prop} (h : Zi mX11_isWord (d + 1) 0 [some (.ref 174), some (.ref x1)] [] iv rv lv Q) : Ci mX11_isWord (d + 1) [.ref 174, .ref x1] iv rv lv Q := Ci.of (by decide +kernel) (by simp [Value.category]) (Nat.le_of_ble_eq_true rfl) rfl h
set_option maxRecDepth 4000 in
theorem bX11_isWord_0 {d : Nat} (x1 : Nat) {iv : zI} {rv : zR} {lv : zJ} {Q : Int32 → zI → zR → zJ → Prop} (hT : zTop rv) 
    (h : (¬ (iv 174 7) = 0 → Q (0 : Int32) iv rv lv) ∧ ((iv 174 7) = 0 → (¬ (iv 174 9) = (2 : Int32) → Q (0 : Int32) iv rv lv) ∧ ((iv 174 9) = (2 : Int32) → ∃ Q1 : Int64 → zI → zR → zJ → Prop, Cl mX11_wordOf d [.ref x1] iv rv lv Q1 ∧ ∀ (v6 : Int64) (iv2 : zI) (rv3 : zR) (lv4 : zJ), Q1 v6 iv2 rv3 lv4 → zTop rv3 ∧ ((¬ (lg_cmp (lv 174 13) v6) = 0 → Q (0 : Int32) iv2 rv3 lv4) ∧ ((lg_cmp (lv 174 13) v6) = 0 → Q (1 : Int32) iv2 rv3 lv4))))) :
    Zi mX11_isWord (d + 1) 0 [some (.ref 174), some (.ref x1)] [] iv rv lv Q := by
  unfold Zi
  refine Z_aload_n (a := 0) (q := 1) (by decide +kernel) rfl rfl ?_
  refine g11_7 (idx := 100) (q := 4) (by decide +kernel) fX11_100 rfl (by decide) rfl ?_
  refine Z_if_ne (t := 31) (off := 27) (q := 7) (by decide +kernel) (by decide) rfl (fun hc => ?_) (fun hc => ?_)
  · replace h := h.1 hc
    refine Z_iconst (a := 0) (v := 0) (q := 32) (by decide +kernel) (by decide +kernel) rfl ?_
    exact Z_iret (ty := .boolean) (by decide +kernel) rfl rfl rfl ⟨_, rfl, h⟩
  · replace h := h.2 hc
    refine Z_aload_n (a := 0) (q := 8) (by decide +kernel) rfl rfl ?_
    refine g11_9 (idx := 119) (q := 11) (by decide +kernel) fX11_119 rfl (by decide) rfl ?_
    refine Z_iconst (a := 2) (v := 2) (q := 12) (by decide +kernel) (by decide +kernel) rfl ?_
    refine Z_icmp_ne (t := 31) (off := 19) (q := 15) (by decide +kernel) (by decide) rfl (fun hc => ?_) (fun hc => ?_)
    · replace h := h.1 hc
      refine Z_iconst (a := 0) (v := 0) (q := 32) (by decide +kernel) (by decide +kernel) rfl ?_
      exact Z_iret (ty := .boolean) (by decide +kernel) rfl rfl rfl ⟨_, rfl, h⟩
    · replace h := h.2 hc
      refine Z_aload_n (a := 0) (q := 16) (by decide +kernel) rfl rfl ?_
      refine g11_13 (idx := 126) (q := 19) (by decide +kernel) fX11_126 rfl (by decide) rfl ?_
      refine Z_aload_n (a := 1) (q := 20) (by decide +kernel) rfl rfl ?_
      obtain ⟨Q1, hm, h⟩ := h
      refine Z_callSl (M2 := mX11_wordOf) (idx := 153) (d2 := d) (As := [.ref _]) (q := 23) (by decide +kernel) kX11_wordOf lX11_153 rfl rfl (by decide +kernel) (Nat.le_of_ble_eq_true rfl) (Nat.le_refl _) hm rfl (fun v6 iv2 rv3 lv4 hq => ?_)
      obtain ⟨hT5, h⟩ := h v6 iv2 rv3 lv4 hq
      refine Z_lcmp (q := 24) (by decide +kernel) rfl ?_
      refine Z_if_ne (t := 31) (off := 7) (q := 27) (by decide +kernel) (by decide) rfl (fun hc => ?_) (fun hc => ?_)
      · replace h := h.1 hc
        refine Z_iconst (a := 0) (v := 0) (q := 32) (by decide +kernel) (by decide +kernel) rfl ?_
        exact Z_iret (ty := .boolean) (by decide +kernel) rfl rfl rfl ⟨_, rfl, h⟩
      · replace h := h.2 hc
        refine Z_iconst (a := 1) (v := 1) (q := 28) (by decide +kernel) (by decide +kernel) rfl ?_
        refine Z_goto (q := 32) (off := 4) (by decide +kernel) (by decide) ?_
        exact Z_iret (ty := .boolean) (by decide +kernel) rfl rfl rfl ⟨_, rfl, h⟩
theorem eX11_isSign {d : Nat} (x1 : Int32) {iv : zI} {rv : zR} {lv : zJ} {Q : Int32 → zI → zR → zJ → Prop} (h : Zi mX11_isSign d 0 [some (.ref 174), some (.int x1)] [] iv rv lv Q) : Ci mX11_isSign d [.ref 174, .int x1] iv rv lv Q := Ci.of (by decide +kernel) (by simp [Value.category]) (Nat.le_of_ble_eq_true rfl) rfl h
set_option maxRecDepth 4000 in
theorem bX11_isSign_0 {d : Nat} (x1 : Int32) {iv : zI} {rv : zR} {lv : zJ} {Q : Int32 → zI → zR → zJ → Prop} (hT : zTop rv) 
    (h : (¬ (iv 174 7) = 0 → Q (0 : Int32) iv rv lv) ∧ ((iv 174 7) = 0 → (¬ (iv 174 9) = (4 : Int32) → Q (0 : Int32) iv rv lv) ∧ ((iv 174 9) = (4 : Int32) → (¬ (iv 174 11) = x1 → Q (0 : Int32) iv rv lv) ∧ ((iv 174 11) = x1 → Q (1 : Int32) iv rv lv)))) :
    Zi mX11_isSign d 0 [some (.ref 174), some (.int x1)] [] iv rv lv Q := by
  unfold Zi
  refine Z_aload_n (a := 0) (q := 1) (by decide +kernel) rfl rfl ?_
  refine g11_7 (idx := 100) (q := 4) (by decide +kernel) fX11_100 rfl (by decide) rfl ?_
  refine Z_if_ne (t := 27) (off := 23) (q := 7) (by decide +kernel) (by decide) rfl (fun hc => ?_) (fun hc => ?_)
  · replace h := h.1 hc
    refine Z_iconst (a := 0) (v := 0) (q := 28) (by decide +kernel) (by decide +kernel) rfl ?_
    exact Z_iret (ty := .boolean) (by decide +kernel) rfl rfl rfl ⟨_, rfl, h⟩
  · replace h := h.2 hc
    refine Z_aload_n (a := 0) (q := 8) (by decide +kernel) rfl rfl ?_
    refine g11_9 (idx := 119) (q := 11) (by decide +kernel) fX11_119 rfl (by decide) rfl ?_
    refine Z_iconst (a := 4) (v := 4) (q := 12) (by decide +kernel) (by decide +kernel) rfl ?_
    refine Z_icmp_ne (t := 27) (off := 15) (q := 15) (by decide +kernel) (by decide) rfl (fun hc => ?_) (fun hc => ?_)
    · replace h := h.1 hc
      refine Z_iconst (a := 0) (v := 0) (q := 28) (by decide +kernel) (by decide +kernel) rfl ?_
      exact Z_iret (ty := .boolean) (by decide +kernel) rfl rfl rfl ⟨_, rfl, h⟩
    · replace h := h.2 hc
      refine Z_aload_n (a := 0) (q := 16) (by decide +kernel) rfl rfl ?_
      refine g11_11 (idx := 140) (q := 19) (by decide +kernel) fX11_140 rfl (by decide) rfl ?_
      refine Z_iload_n (a := 1) (q := 20) (by decide +kernel) rfl rfl ?_
      refine Z_icmp_ne (t := 27) (off := 7) (q := 23) (by decide +kernel) (by decide) rfl (fun hc => ?_) (fun hc => ?_)
      · replace h := h.1 hc
        refine Z_iconst (a := 0) (v := 0) (q := 28) (by decide +kernel) (by decide +kernel) rfl ?_
        exact Z_iret (ty := .boolean) (by decide +kernel) rfl rfl rfl ⟨_, rfl, h⟩
      · replace h := h.2 hc
        refine Z_iconst (a := 1) (v := 1) (q := 24) (by decide +kernel) (by decide +kernel) rfl ?_
        refine Z_goto (q := 28) (off := 4) (by decide +kernel) (by decide) ?_
        exact Z_iret (ty := .boolean) (by decide +kernel) rfl rfl rfl ⟨_, rfl, h⟩
theorem eX11_fault {d : Nat}  {iv : zI} {rv : zR} {lv : zJ} {Q : Int32 → zI → zR → zJ → Prop} (h : Zi mX11_fault d 0 [some (.ref 174)] [] iv rv lv Q) : Ci mX11_fault d [.ref 174] iv rv lv Q := Ci.of (by decide +kernel) (by simp [Value.category]) (Nat.le_of_ble_eq_true rfl) rfl h
set_option maxRecDepth 4000 in
theorem bX11_fault_0 {d : Nat}  {iv : zI} {rv : zR} {lv : zJ} {Q : Int32 → zI → zR → zJ → Prop} (hT : zTop rv) 
    (h : ∀ iv1 : zI, iv1 = zu iv 174 0 (0 : Int32) → Q (iv1 174 7) iv1 rv lv) :
    Zi mX11_fault d 0 [some (.ref 174)] [] iv rv lv Q := by
  unfold Zi
  refine Z_aload_n (a := 0) (q := 1) (by decide +kernel) rfl rfl ?_
  refine Z_iconst (a := 0) (v := 0) (q := 2) (by decide +kernel) (by decide +kernel) rfl ?_
  refine p11_0 (idx := 87) (q := 5) (by decide +kernel) fX11_87 rfl (by decide) rfl ?_
  replace h := h _ rfl
  refine Z_aload_n (a := 0) (q := 6) (by decide +kernel) rfl rfl ?_
  refine g11_7 (idx := 100) (q := 9) (by decide +kernel) fX11_100 rfl (by decide) rfl ?_
  exact Z_iret (ty := .int) (by decide +kernel) rfl rfl rfl ⟨_, rfl, h⟩
theorem eX11_where {d : Nat}  {iv : zI} {rv : zR} {lv : zJ} {Q : Int32 → zI → zR → zJ → Prop} (h : Zi mX11_where d 0 [some (.ref 174)] [] iv rv lv Q) : Ci mX11_where d [.ref 174] iv rv lv Q := Ci.of (by decide +kernel) (by simp [Value.category]) (Nat.le_of_ble_eq_true rfl) rfl h
set_option maxRecDepth 4000 in
theorem bX11_where_0 {d : Nat}  {iv : zI} {rv : zR} {lv : zJ} {Q : Int32 → zI → zR → zJ → Prop} (hT : zTop rv) 
    (h : ∀ iv1 : zI, iv1 = zu iv 174 0 (0 : Int32) → Q (iv1 174 2) iv1 rv lv) :
    Zi mX11_where d 0 [some (.ref 174)] [] iv rv lv Q := by
  unfold Zi
  refine Z_aload_n (a := 0) (q := 1) (by decide +kernel) rfl rfl ?_
  refine Z_iconst (a := 0) (v := 0) (q := 2) (by decide +kernel) (by decide +kernel) rfl ?_
  refine p11_0 (idx := 87) (q := 5) (by decide +kernel) fX11_87 rfl (by decide) rfl ?_
  replace h := h _ rfl
  refine Z_aload_n (a := 0) (q := 6) (by decide +kernel) rfl rfl ?_
  refine g11_2 (idx := 9) (q := 9) (by decide +kernel) fX11_9 rfl (by decide) rfl ?_
  exact Z_iret (ty := .int) (by decide +kernel) rfl rfl rfl ⟨_, rfl, h⟩
theorem eX11_whole {d : Nat} (x1 : Int32) (x2 : Int32) {iv : zI} {rv : zR} {lv : zJ} {Q : Int32 → zI → zR → zJ → Prop} (h : Zi mX11_whole (d + 1) 0 [some (.ref 174), some (.int x1), some (.int x2), none] [] iv rv lv Q) : Ci mX11_whole (d + 1) [.ref 174, .int x1, .int x2] iv rv lv Q := Ci.of (by decide +kernel) (by simp [Value.category]) (Nat.le_of_ble_eq_true rfl) rfl h
set_option maxRecDepth 4000 in
theorem bX11_whole_0 {d : Nat} (x1 : Int32) (x2 : Int32) {iv : zI} {rv : zR} {lv : zJ} {Q : Int32 → zI → zR → zJ → Prop} (hT : zTop rv) 
    (h : ((iv 174 9) = (3 : Int32) → ∃ Q1 : Int32 → zI → zR → zJ → Prop, Ci mX11_in d [.int (iv 174 12), .int x1, .int x2] iv rv lv Q1 ∧ ∀ (v6 : Int32) (iv2 : zI) (rv3 : zR) (lv4 : zJ), Q1 v6 iv2 rv3 lv4 → zTop rv3 ∧ ((¬ v6 = 0 → ∃ Q7 : zI → zR → zJ → Prop, Cv mX11_goOn d [.ref 174] iv2 rv3 lv4 Q7 ∧ ∀ (iv8 : zI) (rv9 : zR) (lv10 : zJ), Q7 iv8 rv9 lv10 → zTop rv9 ∧ (Q (iv2 174 12) iv8 rv9 lv10)) ∧ (v6 = 0 → ∃ Q13 : zI → zR → zJ → Prop, Cv mX11_flaw d [.ref 174, .int (2 : Int32)] iv2 rv3 lv4 Q13 ∧ ∀ (iv14 : zI) (rv15 : zR) (lv16 : zJ), Q13 iv14 rv15 lv16 → zTop rv15 ∧ (∃ Q19 : zI → zR → zJ → Prop, Cv mX11_goOn d [.ref 174] iv14 rv15 lv16 Q19 ∧ ∀ (iv20 : zI) (rv21 : zR) (lv22 : zJ), Q19 iv20 rv21 lv22 → zTop rv21 ∧ (Q (iv14 174 12) iv20 rv21 lv22))))) ∧ (¬ (iv 174 9) = (3 : Int32) → ∃ Q25 : zI → zR → zJ → Prop, Cv mX11_flaw d [.ref 174, .int (1 : Int32)] iv rv lv Q25 ∧ ∀ (iv26 : zI) (rv27 : zR) (lv28 : zJ), Q25 iv26 rv27 lv28 → zTop rv27 ∧ (∃ Q31 : zI → zR → zJ → Prop, Cv mX11_goOn d [.ref 174] iv26 rv27 lv28 Q31 ∧ ∀ (iv32 : zI) (rv33 : zR) (lv34 : zJ), Q31 iv32 rv33 lv34 → zTop rv33 ∧ (Q (iv26 174 12) iv32 rv33 lv34)))) :
    Zi mX11_whole (d + 1) 0 [some (.ref 174), some (.int x1), some (.int x2), none] [] iv rv lv Q := by
  unfold Zi
  refine Z_aload_n (a := 0) (q := 1) (by decide +kernel) rfl rfl ?_
  refine g11_9 (idx := 119) (q := 4) (by decide +kernel) fX11_119 rfl (by decide) rfl ?_
  refine Z_iconst (a := 3) (v := 3) (q := 5) (by decide +kernel) (by decide +kernel) rfl ?_
  refine Z_icmp_eq (t := 16) (off := 11) (q := 8) (by decide +kernel) (by decide) rfl (fun hc => ?_) (fun hc => ?_)
  · replace h := h.1 hc
    refine Z_aload_n (a := 0) (q := 17) (by decide +kernel) rfl rfl ?_
    refine g11_12 (idx := 137) (q := 20) (by decide +kernel) fX11_137 rfl (by decide) rfl ?_
    refine Z_iload_n (a := 1) (q := 21) (by decide +kernel) rfl rfl ?_
    refine Z_iload_n (a := 2) (q := 22) (by decide +kernel) rfl rfl ?_
    obtain ⟨Q1, hm, h⟩ := h
    refine Z_callSi (M2 := mX11_in) (idx := 112) (d2 := d) (As := [.int _, .int _, .int _]) (q := 25) (by decide +kernel) kX11_in lX11_112 rfl rfl (by decide +kernel) (Nat.le_of_ble_eq_true rfl) (Nat.le_refl _) hm rfl (fun v6 iv2 rv3 lv4 hq => ?_)
    obtain ⟨hT5, h⟩ := h v6 iv2 rv3 lv4 hq
    refine Z_if_ne (t := 33) (off := 8) (q := 28) (by decide +kernel) (by decide) rfl (fun hc => ?_) (fun hc => ?_)
    · replace h := h.1 hc
      refine Z_aload_n (a := 0) (q := 34) (by decide +kernel) rfl rfl ?_
      refine g11_12 (idx := 137) (q := 37) (by decide +kernel) fX11_137 rfl (by decide) rfl ?_
      refine Z_istore_n (a := 3) (loc2 := [_, _, _, _]) (q := 38) (by decide +kernel) (by decide +kernel) rfl rfl rfl ?_
      refine Z_aload_n (a := 0) (q := 39) (by decide +kernel) rfl rfl ?_
      obtain ⟨Q7, hm, h⟩ := h
      refine Z_callVv (M2 := mX11_goOn) (idx := 161) (d2 := d) (ci := 11) (As := []) (q := 42) (by decide +kernel) kX11_goOn lX11_161 rfl rfl (by decide) rfl rfl (by decide +kernel) (Nat.le_of_ble_eq_true rfl) (Nat.le_refl _) hm rfl (fun iv8 rv9 lv10 hq => ?_)
      obtain ⟨hT11, h⟩ := h iv8 rv9 lv10 hq
      refine Z_iload_n (a := 3) (q := 43) (by decide +kernel) rfl rfl ?_
      exact Z_iret (ty := .int) (by decide +kernel) rfl rfl rfl ⟨_, rfl, h⟩
    · replace h := h.2 hc
      refine Z_aload_n (a := 0) (q := 29) (by decide +kernel) rfl rfl ?_
      refine Z_iconst (a := 2) (v := 2) (q := 30) (by decide +kernel) (by decide +kernel) rfl ?_
      obtain ⟨Q13, hm, h⟩ := h
      refine Z_callVv (M2 := mX11_flaw) (idx := 157) (d2 := d) (ci := 11) (As := [.int _]) (q := 33) (by decide +kernel) kX11_flaw lX11_157 rfl rfl (by decide) rfl rfl (by decide +kernel) (Nat.le_of_ble_eq_true rfl) (Nat.le_refl _) hm rfl (fun iv14 rv15 lv16 hq => ?_)
      obtain ⟨hT17, h⟩ := h iv14 rv15 lv16 hq
      refine Z_aload_n (a := 0) (q := 34) (by decide +kernel) rfl rfl ?_
      refine g11_12 (idx := 137) (q := 37) (by decide +kernel) fX11_137 rfl (by decide) rfl ?_
      refine Z_istore_n (a := 3) (loc2 := [_, _, _, _]) (q := 38) (by decide +kernel) (by decide +kernel) rfl rfl rfl ?_
      refine Z_aload_n (a := 0) (q := 39) (by decide +kernel) rfl rfl ?_
      obtain ⟨Q19, hm, h⟩ := h
      refine Z_callVv (M2 := mX11_goOn) (idx := 161) (d2 := d) (ci := 11) (As := []) (q := 42) (by decide +kernel) kX11_goOn lX11_161 rfl rfl (by decide) rfl rfl (by decide +kernel) (Nat.le_of_ble_eq_true rfl) (Nat.le_refl _) hm rfl (fun iv20 rv21 lv22 hq => ?_)
      obtain ⟨hT23, h⟩ := h iv20 rv21 lv22 hq
      refine Z_iload_n (a := 3) (q := 43) (by decide +kernel) rfl rfl ?_
      exact Z_iret (ty := .int) (by decide +kernel) rfl rfl rfl ⟨_, rfl, h⟩
  · replace h := h.2 hc
    refine Z_aload_n (a := 0) (q := 9) (by decide +kernel) rfl rfl ?_
    refine Z_iconst (a := 1) (v := 1) (q := 10) (by decide +kernel) (by decide +kernel) rfl ?_
    obtain ⟨Q25, hm, h⟩ := h
    refine Z_callVv (M2 := mX11_flaw) (idx := 157) (d2 := d) (ci := 11) (As := [.int _]) (q := 13) (by decide +kernel) kX11_flaw lX11_157 rfl rfl (by decide) rfl rfl (by decide +kernel) (Nat.le_of_ble_eq_true rfl) (Nat.le_refl _) hm rfl (fun iv26 rv27 lv28 hq => ?_)
    obtain ⟨hT29, h⟩ := h iv26 rv27 lv28 hq
    refine Z_goto (q := 33) (off := 20) (by decide +kernel) (by decide) ?_
    refine Z_aload_n (a := 0) (q := 34) (by decide +kernel) rfl rfl ?_
    refine g11_12 (idx := 137) (q := 37) (by decide +kernel) fX11_137 rfl (by decide) rfl ?_
    refine Z_istore_n (a := 3) (loc2 := [_, _, _, _]) (q := 38) (by decide +kernel) (by decide +kernel) rfl rfl rfl ?_
    refine Z_aload_n (a := 0) (q := 39) (by decide +kernel) rfl rfl ?_
    obtain ⟨Q31, hm, h⟩ := h
    refine Z_callVv (M2 := mX11_goOn) (idx := 161) (d2 := d) (ci := 11) (As := []) (q := 42) (by decide +kernel) kX11_goOn lX11_161 rfl rfl (by decide) rfl rfl (by decide +kernel) (Nat.le_of_ble_eq_true rfl) (Nat.le_refl _) hm rfl (fun iv32 rv33 lv34 hq => ?_)
    obtain ⟨hT35, h⟩ := h iv32 rv33 lv34 hq
    refine Z_iload_n (a := 3) (q := 43) (by decide +kernel) rfl rfl ?_
    exact Z_iret (ty := .int) (by decide +kernel) rfl rfl rfl ⟨_, rfl, h⟩
theorem eX11_readNumbers {d : Nat}  {iv : zI} {rv : zR} {lv : zJ} {Q : zI → zR → zJ → Prop} (h : Zv mX11_readNumbers (d + 1) 0 [some (.ref 174), none, none] [] iv rv lv Q) : Cv mX11_readNumbers (d + 1) [.ref 174] iv rv lv Q := Cv.of (by decide +kernel) (by simp [Value.category]) (Nat.le_of_ble_eq_true rfl) rfl h
set_option maxRecDepth 4000 in
theorem bX11_readNumbers_0 {d : Nat}  {iv : zI} {rv : zR} {lv : zJ} {Q : zI → zR → zJ → Prop} (hT : zTop rv) 
    (h : Zv mX11_readNumbers (d + 1) 2 [some (.ref 174), some (.int (1 : Int32)), none] [] iv rv lv Q) :
    Zv mX11_readNumbers (d + 1) 0 [some (.ref 174), none, none] [] iv rv lv Q := by
  unfold Zv
  refine Z_iconst (a := 1) (v := 1) (q := 1) (by decide +kernel) (by decide +kernel) rfl ?_
  refine Z_istore_n (a := 1) (loc2 := [_, _, _]) (q := 2) (by decide +kernel) (by decide +kernel) rfl rfl rfl ?_
  exact h
set_option maxRecDepth 4000 in
theorem bX11_readNumbers_2 {d : Nat} (x1 : Int32) {iv : zI} {rv : zR} {lv : zJ} {Q : zI → zR → zJ → Prop} (hT : zTop rv) 
    (h : (x1 = 0 → Q iv rv lv) ∧ (¬ x1 = 0 → ∃ Q1 : zI → zR → zJ → Prop, Cv mX11_goOn d [.ref 174] iv rv lv Q1 ∧ ∀ (iv2 : zI) (rv3 : zR) (lv4 : zJ), Q1 iv2 rv3 lv4 → zTop rv3 ∧ ((¬ (iv2 174 7) = 0 → Zv mX11_readNumbers (d + 1) 55 [some (.ref 174), some (.int x1), none] [] iv2 rv3 lv4 Q) ∧ ((iv2 174 7) = 0 → (¬ (iv2 174 9) = (3 : Int32) → Zv mX11_readNumbers (d + 1) 55 [some (.ref 174), some (.int x1), none] [] iv2 rv3 lv4 Q) ∧ ((iv2 174 9) = (3 : Int32) → ∃ Q7 : Int32 → zI → zR → zJ → Prop, Ci mX11_in d [.int (iv2 174 12), .int (1 : Int32), .int (9999 : Int32)] iv2 rv3 lv4 Q7 ∧ ∀ (v12 : Int32) (iv8 : zI) (rv9 : zR) (lv10 : zJ), Q7 v12 iv8 rv9 lv10 → zTop rv9 ∧ ((v12 = 0 → Zv mX11_readNumbers (d + 1) 55 [some (.ref 174), some (.int x1), none] [] iv8 rv9 lv10 Q) ∧ (¬ v12 = 0 → (¬ (iv8 177 0) = (10 : Int32) → Zv mX11_readNumbers (d + 1) 55 [some (.ref 174), some (.int x1), none] [] iv8 rv9 lv10 Q) ∧ ((iv8 177 0) = (10 : Int32) → ∃ Q13 : zI → zR → zJ → Prop, Cv mX11_flaw d [.ref 174, .int (4 : Int32)] iv8 rv9 lv10 Q13 ∧ ∀ (iv14 : zI) (rv15 : zR) (lv16 : zJ), Q13 iv14 rv15 lv16 → zTop rv15 ∧ (Zv mX11_readNumbers (d + 1) 55 [some (.ref 174), some (.int x1), none] [] iv14 rv15 lv16 Q))))))))) :
    Zv mX11_readNumbers (d + 1) 2 [some (.ref 174), some (.int x1), none] [] iv rv lv Q := by
  unfold Zv
  refine Z_iload_n (a := 1) (q := 3) (by decide +kernel) rfl rfl ?_
  refine Z_if_eq (t := 106) (off := 103) (q := 6) (by decide +kernel) (by decide) rfl (fun hc => ?_) (fun hc => ?_)
  · replace h := h.1 hc
    exact Z_vret (by decide +kernel) rfl rfl ⟨rfl, h⟩
  · replace h := h.2 hc
    refine Z_aload_n (a := 0) (q := 7) (by decide +kernel) rfl rfl ?_
    obtain ⟨Q1, hm, h⟩ := h
    refine Z_callVv (M2 := mX11_goOn) (idx := 161) (d2 := d) (ci := 11) (As := []) (q := 10) (by decide +kernel) kX11_goOn lX11_161 rfl rfl (by decide) rfl rfl (by decide +kernel) (Nat.le_of_ble_eq_true rfl) (Nat.le_refl _) hm rfl (fun iv2 rv3 lv4 hq => ?_)
    obtain ⟨hT5, h⟩ := h iv2 rv3 lv4 hq
    refine Z_aload_n (a := 0) (q := 11) (by decide +kernel) rfl rfl ?_
    refine g11_7 (idx := 100) (q := 14) (by decide +kernel) fX11_100 rfl (by decide) rfl ?_
    refine Z_if_ne (t := 55) (off := 41) (q := 17) (by decide +kernel) (by decide) rfl (fun hc => ?_) (fun hc => ?_)
    · replace h := h.1 hc
      exact h
    · replace h := h.2 hc
      refine Z_aload_n (a := 0) (q := 18) (by decide +kernel) rfl rfl ?_
      refine g11_9 (idx := 119) (q := 21) (by decide +kernel) fX11_119 rfl (by decide) rfl ?_
      refine Z_iconst (a := 3) (v := 3) (q := 22) (by decide +kernel) (by decide +kernel) rfl ?_
      refine Z_icmp_ne (t := 55) (off := 33) (q := 25) (by decide +kernel) (by decide) rfl (fun hc => ?_) (fun hc => ?_)
      · replace h := h.1 hc
        exact h
      · replace h := h.2 hc
        refine Z_aload_n (a := 0) (q := 26) (by decide +kernel) rfl rfl ?_
        refine g11_12 (idx := 137) (q := 29) (by decide +kernel) fX11_137 rfl (by decide) rfl ?_
        refine Z_iconst (a := 1) (v := 1) (q := 30) (by decide +kernel) (by decide +kernel) rfl ?_
        refine Z_sipush (a := 9999) (v := 9999) (q := 33) (by decide +kernel) (by decide +kernel) rfl ?_
        obtain ⟨Q7, hm, h⟩ := h
        refine Z_callSi (M2 := mX11_in) (idx := 112) (d2 := d) (As := [.int _, .int _, .int _]) (q := 36) (by decide +kernel) kX11_in lX11_112 rfl rfl (by decide +kernel) (Nat.le_of_ble_eq_true rfl) (Nat.le_refl _) hm rfl (fun v12 iv8 rv9 lv10 hq => ?_)
        obtain ⟨hT11, h⟩ := h v12 iv8 rv9 lv10 hq
        refine Z_if_eq (t := 55) (off := 19) (q := 39) (by decide +kernel) (by decide) rfl (fun hc => ?_) (fun hc => ?_)
        · replace h := h.1 hc
          exact h
        · replace h := h.2 hc
          refine Z_aload_n (a := 0) (q := 40) (by decide +kernel) rfl rfl ?_
          refine g11_15 (idx := 20) (q := 43) (by decide +kernel) fX11_20 rfl (by decide) (t11_15 hT11) rfl ?_
          refine Z_iconst (a := 0) (v := 0) (q := 44) (by decide +kernel) (by decide +kernel) rfl ?_
          refine Z_iald (len := 35) (q := 45) (by decide +kernel) rfl (by decide) (by unfold vp_in; decide) rfl ?_
          refine Z_bipush (a := 10) (v := 10) (q := 47) (by decide +kernel) (by decide +kernel) rfl ?_
          refine Z_icmp_ne (t := 55) (off := 8) (q := 50) (by decide +kernel) (by decide) rfl (fun hc => ?_) (fun hc => ?_)
          · replace h := h.1 hc
            exact h
          · replace h := h.2 hc
            refine Z_aload_n (a := 0) (q := 51) (by decide +kernel) rfl rfl ?_
            refine Z_iconst (a := 4) (v := 4) (q := 52) (by decide +kernel) (by decide +kernel) rfl ?_
            obtain ⟨Q13, hm, h⟩ := h
            refine Z_callVv (M2 := mX11_flaw) (idx := 157) (d2 := d) (ci := 11) (As := [.int _]) (q := 55) (by decide +kernel) kX11_flaw lX11_157 rfl rfl (by decide) rfl rfl (by decide +kernel) (Nat.le_of_ble_eq_true rfl) (Nat.le_refl _) hm rfl (fun iv14 rv15 lv16 hq => ?_)
            obtain ⟨hT17, h⟩ := h iv14 rv15 lv16 hq
            exact h
set_option maxRecDepth 4000 in
theorem bX11_readNumbers_55 {d : Nat} (x1 : Int32) {iv : zI} {rv : zR} {lv : zJ} {Q : zI → zR → zJ → Prop} (hT : zTop rv) 
    (h : ∃ Q1 : Int32 → zI → zR → zJ → Prop, Ci mX11_whole d [.ref 174, .int (1 : Int32), .int (9999 : Int32)] iv rv lv Q1 ∧ ∀ (v6 : Int32) (iv2 : zI) (rv3 : zR) (lv4 : zJ), Q1 v6 iv2 rv3 lv4 → zTop rv3 ∧ (((iv2 174 7) ≤ 0 → vp_in ((2 : Int32) + (iv2 177 0)) 35 ∧ (∀ iv8 : zI, iv8 = zu iv2 177 ((2 : Int32) + (iv2 177 0)).toNatClampNeg v6 → ∀ iv9 : zI, iv9 = zu iv8 177 0 ((iv8 177 0) + (1 : Int32)) → ∃ Q10 : Int32 → zI → zR → zJ → Prop, Ci mX11_isSign d [.ref 174, .int (44 : Int32)] iv9 rv3 lv4 Q10 ∧ ∀ (v15 : Int32) (iv11 : zI) (rv12 : zR) (lv13 : zJ), Q10 v15 iv11 rv12 lv13 → zTop rv12 ∧ (Zv mX11_readNumbers (d + 1) 2 [some (.ref 174), some (.int v15), none] [] iv11 rv12 lv13 Q))) ∧ (¬ (iv2 174 7) ≤ 0 → Q iv2 rv3 lv4))) :
    Zv mX11_readNumbers (d + 1) 55 [some (.ref 174), some (.int x1), none] [] iv rv lv Q := by
  unfold Zv
  refine Z_aload_n (a := 0) (q := 56) (by decide +kernel) rfl rfl ?_
  refine Z_iconst (a := 1) (v := 1) (q := 57) (by decide +kernel) (by decide +kernel) rfl ?_
  refine Z_sipush (a := 9999) (v := 9999) (q := 60) (by decide +kernel) (by decide +kernel) rfl ?_
  obtain ⟨Q1, hm, h⟩ := h
  refine Z_callVi (M2 := mX11_whole) (idx := 164) (d2 := d) (ci := 11) (As := [.int _, .int _]) (q := 63) (by decide +kernel) kX11_whole lX11_164 rfl rfl (by decide) rfl rfl (by decide +kernel) (Nat.le_of_ble_eq_true rfl) (Nat.le_refl _) hm rfl (fun v6 iv2 rv3 lv4 hq => ?_)
  obtain ⟨hT5, h⟩ := h v6 iv2 rv3 lv4 hq
  refine Z_istore_n (a := 2) (loc2 := [_, _, _]) (q := 64) (by decide +kernel) (by decide +kernel) rfl rfl rfl ?_
  refine Z_aload_n (a := 0) (q := 65) (by decide +kernel) rfl rfl ?_
  refine g11_7 (idx := 100) (q := 68) (by decide +kernel) fX11_100 rfl (by decide) rfl ?_
  refine Z_if_le (t := 72) (off := 4) (q := 71) (by decide +kernel) (by decide) rfl (fun hc => ?_) (fun hc => ?_)
  · replace h := h.1 hc
    refine Z_aload_n (a := 0) (q := 73) (by decide +kernel) rfl rfl ?_
    refine g11_15 (idx := 20) (q := 76) (by decide +kernel) fX11_20 rfl (by decide) (t11_15 hT5) rfl ?_
    refine Z_iconst (a := 2) (v := 2) (q := 77) (by decide +kernel) (by decide +kernel) rfl ?_
    refine Z_aload_n (a := 0) (q := 78) (by decide +kernel) rfl rfl ?_
    refine g11_15 (idx := 20) (q := 81) (by decide +kernel) fX11_20 rfl (by decide) (t11_15 hT5) rfl ?_
    refine Z_iconst (a := 0) (v := 0) (q := 82) (by decide +kernel) (by decide +kernel) rfl ?_
    refine Z_iald (len := 35) (q := 83) (by decide +kernel) rfl (by decide) (by unfold vp_in; decide) rfl ?_
    refine Z_iadd (q := 84) (by decide +kernel) rfl ?_
    refine Z_iload_n (a := 2) (q := 85) (by decide +kernel) rfl rfl ?_
    obtain ⟨hin7, h⟩ := h
    refine Z_iast (len := 35) (q := 86) (by decide +kernel) rfl (by decide) hin7 rfl ?_
    replace h := h _ rfl
    refine Z_aload_n (a := 0) (q := 87) (by decide +kernel) rfl rfl ?_
    refine g11_15 (idx := 20) (q := 90) (by decide +kernel) fX11_20 rfl (by decide) (t11_15 hT5) rfl ?_
    refine Z_iconst (a := 0) (v := 0) (q := 91) (by decide +kernel) (by decide +kernel) rfl ?_
    refine Z_dup2 (q := 92) (by decide +kernel) rfl rfl rfl ?_
    refine Z_iald (len := 35) (q := 93) (by decide +kernel) rfl (by decide) (by unfold vp_in; decide) rfl ?_
    refine Z_iconst (a := 1) (v := 1) (q := 94) (by decide +kernel) (by decide +kernel) rfl ?_
    refine Z_iadd (q := 95) (by decide +kernel) rfl ?_
    refine Z_iast (len := 35) (q := 96) (by decide +kernel) rfl (by decide) (by unfold vp_in; decide) rfl ?_
    replace h := h _ rfl
    refine Z_aload_n (a := 0) (q := 97) (by decide +kernel) rfl rfl ?_
    refine Z_bipush (a := 44) (v := 44) (q := 99) (by decide +kernel) (by decide +kernel) rfl ?_
    obtain ⟨Q10, hm, h⟩ := h
    refine Z_callVi (M2 := mX11_isSign) (idx := 168) (d2 := d) (ci := 11) (As := [.int _]) (q := 102) (by decide +kernel) kX11_isSign lX11_168 rfl rfl (by decide) rfl rfl (by decide +kernel) (Nat.le_of_ble_eq_true rfl) (Nat.le_refl _) hm rfl (fun v15 iv11 rv12 lv13 hq => ?_)
    obtain ⟨hT14, h⟩ := h v15 iv11 rv12 lv13 hq
    refine Z_istore_n (a := 1) (loc2 := [_, _, _]) (q := 103) (by decide +kernel) (by decide +kernel) rfl rfl rfl ?_
    refine Z_goto (q := 2) (off := -101) (by decide +kernel) (by decide) ?_
    exact Z_forget h (And.intro rfl (And.intro rfl trivial))
  · replace h := h.2 hc
    exact Z_vret (by decide +kernel) rfl rfl ⟨rfl, h⟩
theorem eX11_readKeep {d : Nat}  {iv : zI} {rv : zR} {lv : zJ} {Q : zI → zR → zJ → Prop} (h : Zv mX11_readKeep (d + 1) 0 [some (.ref 174), none, none] [] iv rv lv Q) : Cv mX11_readKeep (d + 1) [.ref 174] iv rv lv Q := Cv.of (by decide +kernel) (by simp [Value.category]) (Nat.le_of_ble_eq_true rfl) rfl h
set_option maxRecDepth 4000 in
theorem bX11_readKeep_0 {d : Nat}  {iv : zI} {rv : zR} {lv : zJ} {Q : zI → zR → zJ → Prop} (hT : zTop rv) 
    (h : ∃ Q1 : zI → zR → zJ → Prop, Cv mX11_goOn d [.ref 174] iv rv lv Q1 ∧ ∀ (iv2 : zI) (rv3 : zR) (lv4 : zJ), Q1 iv2 rv3 lv4 → zTop rv3 ∧ ((¬ (iv2 174 7) = 0 → Zv mX11_readKeep (d + 1) 52 [some (.ref 174), none, none] [] iv2 rv3 lv4 Q) ∧ ((iv2 174 7) = 0 → (¬ (iv2 174 9) = (3 : Int32) → Zv mX11_readKeep (d + 1) 52 [some (.ref 174), none, none] [] iv2 rv3 lv4 Q) ∧ ((iv2 174 9) = (3 : Int32) → ((iv2 177 0) ≤ (iv2 174 12) → Zv mX11_readKeep (d + 1) 52 [some (.ref 174), none, none] [] iv2 rv3 lv4 Q) ∧ (¬ (iv2 177 0) ≤ (iv2 174 12) → vp_in ((12 : Int32) + (iv2 174 12)) 35 ∧ (((iv2 177 ((12 : Int32) + (iv2 174 12)).toNatClampNeg) ≤ 0 → Zv mX11_readKeep (d + 1) 52 [some (.ref 174), none, none] [] iv2 rv3 lv4 Q) ∧ (¬ (iv2 177 ((12 : Int32) + (iv2 174 12)).toNatClampNeg) ≤ 0 → ∃ Q8 : zI → zR → zJ → Prop, Cv mX11_flaw d [.ref 174, .int (3 : Int32)] iv2 rv3 lv4 Q8 ∧ ∀ (iv9 : zI) (rv10 : zR) (lv11 : zJ), Q8 iv9 rv10 lv11 → zTop rv10 ∧ (Zv mX11_readKeep (d + 1) 52 [some (.ref 174), none, none] [] iv9 rv10 lv11 Q)))))))) :
    Zv mX11_readKeep (d + 1) 0 [some (.ref 174), none, none] [] iv rv lv Q := by
  unfold Zv
  refine Z_aload_n (a := 0) (q := 1) (by decide +kernel) rfl rfl ?_
  obtain ⟨Q1, hm, h⟩ := h
  refine Z_callVv (M2 := mX11_goOn) (idx := 161) (d2 := d) (ci := 11) (As := []) (q := 4) (by decide +kernel) kX11_goOn lX11_161 rfl rfl (by decide) rfl rfl (by decide +kernel) (Nat.le_of_ble_eq_true rfl) (Nat.le_refl _) hm rfl (fun iv2 rv3 lv4 hq => ?_)
  obtain ⟨hT5, h⟩ := h iv2 rv3 lv4 hq
  refine Z_aload_n (a := 0) (q := 5) (by decide +kernel) rfl rfl ?_
  refine g11_7 (idx := 100) (q := 8) (by decide +kernel) fX11_100 rfl (by decide) rfl ?_
  refine Z_if_ne (t := 52) (off := 44) (q := 11) (by decide +kernel) (by decide) rfl (fun hc => ?_) (fun hc => ?_)
  · replace h := h.1 hc
    exact h
  · replace h := h.2 hc
    refine Z_aload_n (a := 0) (q := 12) (by decide +kernel) rfl rfl ?_
    refine g11_9 (idx := 119) (q := 15) (by decide +kernel) fX11_119 rfl (by decide) rfl ?_
    refine Z_iconst (a := 3) (v := 3) (q := 16) (by decide +kernel) (by decide +kernel) rfl ?_
    refine Z_icmp_ne (t := 52) (off := 36) (q := 19) (by decide +kernel) (by decide) rfl (fun hc => ?_) (fun hc => ?_)
    · replace h := h.1 hc
      exact h
    · replace h := h.2 hc
      refine Z_aload_n (a := 0) (q := 20) (by decide +kernel) rfl rfl ?_
      refine g11_12 (idx := 137) (q := 23) (by decide +kernel) fX11_137 rfl (by decide) rfl ?_
      refine Z_aload_n (a := 0) (q := 24) (by decide +kernel) rfl rfl ?_
      refine g11_15 (idx := 20) (q := 27) (by decide +kernel) fX11_20 rfl (by decide) (t11_15 hT5) rfl ?_
      refine Z_iconst (a := 0) (v := 0) (q := 28) (by decide +kernel) (by decide +kernel) rfl ?_
      refine Z_iald (len := 35) (q := 29) (by decide +kernel) rfl (by decide) (by unfold vp_in; decide) rfl ?_
      refine Z_icmp_ge (t := 52) (off := 23) (q := 32) (by decide +kernel) (by decide) rfl (fun hc => ?_) (fun hc => ?_)
      · replace h := h.1 hc
        exact h
      · replace h := h.2 hc
        refine Z_aload_n (a := 0) (q := 33) (by decide +kernel) rfl rfl ?_
        refine g11_15 (idx := 20) (q := 36) (by decide +kernel) fX11_20 rfl (by decide) (t11_15 hT5) rfl ?_
        refine Z_bipush (a := 12) (v := 12) (q := 38) (by decide +kernel) (by decide +kernel) rfl ?_
        refine Z_aload_n (a := 0) (q := 39) (by decide +kernel) rfl rfl ?_
        refine g11_12 (idx := 137) (q := 42) (by decide +kernel) fX11_137 rfl (by decide) rfl ?_
        refine Z_iadd (q := 43) (by decide +kernel) rfl ?_
        obtain ⟨hin7, h⟩ := h
        refine Z_iald (len := 35) (q := 44) (by decide +kernel) rfl (by decide) hin7 rfl ?_
        refine Z_if_le (t := 52) (off := 8) (q := 47) (by decide +kernel) (by decide) rfl (fun hc => ?_) (fun hc => ?_)
        · replace h := h.1 hc
          exact h
        · replace h := h.2 hc
          refine Z_aload_n (a := 0) (q := 48) (by decide +kernel) rfl rfl ?_
          refine Z_iconst (a := 3) (v := 3) (q := 49) (by decide +kernel) (by decide +kernel) rfl ?_
          obtain ⟨Q8, hm, h⟩ := h
          refine Z_callVv (M2 := mX11_flaw) (idx := 157) (d2 := d) (ci := 11) (As := [.int _]) (q := 52) (by decide +kernel) kX11_flaw lX11_157 rfl rfl (by decide) rfl rfl (by decide +kernel) (Nat.le_of_ble_eq_true rfl) (Nat.le_refl _) hm rfl (fun iv9 rv10 lv11 hq => ?_)
          obtain ⟨hT12, h⟩ := h iv9 rv10 lv11 hq
          exact h
set_option maxRecDepth 4000 in
theorem bX11_readKeep_52 {d : Nat}  {iv : zI} {rv : zR} {lv : zJ} {Q : zI → zR → zJ → Prop} (hT : zTop rv) 
    (h : ∃ Q1 : Int32 → zI → zR → zJ → Prop, Ci mX11_whole d [.ref 174, .int (0 : Int32), .int ((iv 177 0) - (1 : Int32))] iv rv lv Q1 ∧ ∀ (v6 : Int32) (iv2 : zI) (rv3 : zR) (lv4 : zJ), Q1 v6 iv2 rv3 lv4 → zTop rv3 ∧ (∃ Q7 : Int32 → zI → zR → zJ → Prop, Ci mX11_isWord d [.ref 174, .ref 1000003] iv2 rv3 lv4 Q7 ∧ ∀ (v12 : Int32) (iv8 : zI) (rv9 : zR) (lv10 : zJ), Q7 v12 iv8 rv9 lv10 → zTop rv9 ∧ ((¬ v12 = 0 → Zv mX11_readKeep (d + 1) 80 [some (.ref 174), some (.int v6), none] [] iv8 rv9 lv10 Q) ∧ (v12 = 0 → ∃ Q13 : zI → zR → zJ → Prop, Cv mX11_flaw d [.ref 174, .int (1 : Int32)] iv8 rv9 lv10 Q13 ∧ ∀ (iv14 : zI) (rv15 : zR) (lv16 : zJ), Q13 iv14 rv15 lv16 → zTop rv15 ∧ (Zv mX11_readKeep (d + 1) 80 [some (.ref 174), some (.int v6), none] [] iv14 rv15 lv16 Q))))) :
    Zv mX11_readKeep (d + 1) 52 [some (.ref 174), none, none] [] iv rv lv Q := by
  unfold Zv
  refine Z_aload_n (a := 0) (q := 53) (by decide +kernel) rfl rfl ?_
  refine Z_iconst (a := 0) (v := 0) (q := 54) (by decide +kernel) (by decide +kernel) rfl ?_
  refine Z_aload_n (a := 0) (q := 55) (by decide +kernel) rfl rfl ?_
  refine g11_15 (idx := 20) (q := 58) (by decide +kernel) fX11_20 rfl (by decide) (t11_15 hT) rfl ?_
  refine Z_iconst (a := 0) (v := 0) (q := 59) (by decide +kernel) (by decide +kernel) rfl ?_
  refine Z_iald (len := 35) (q := 60) (by decide +kernel) rfl (by decide) (by unfold vp_in; decide) rfl ?_
  refine Z_iconst (a := 1) (v := 1) (q := 61) (by decide +kernel) (by decide +kernel) rfl ?_
  refine Z_isub (q := 62) (by decide +kernel) rfl ?_
  obtain ⟨Q1, hm, h⟩ := h
  refine Z_callVi (M2 := mX11_whole) (idx := 164) (d2 := d) (ci := 11) (As := [.int _, .int _]) (q := 65) (by decide +kernel) kX11_whole lX11_164 rfl rfl (by decide) rfl rfl (by decide +kernel) (Nat.le_of_ble_eq_true rfl) (Nat.le_refl _) hm rfl (fun v6 iv2 rv3 lv4 hq => ?_)
  obtain ⟨hT5, h⟩ := h v6 iv2 rv3 lv4 hq
  refine Z_istore_n (a := 1) (loc2 := [_, _, _]) (q := 66) (by decide +kernel) (by decide +kernel) rfl rfl rfl ?_
  refine Z_aload_n (a := 0) (q := 67) (by decide +kernel) rfl rfl ?_
  refine Z_ldcS (a := 1000003) (tx := "in") (q := 69) (by decide +kernel) (fun _ _ _ _ _ h => h.2.2.1.2.2.2.1) (by decide) rfl ?_
  obtain ⟨Q7, hm, h⟩ := h
  refine Z_callVi (M2 := mX11_isWord) (idx := 172) (d2 := d) (ci := 11) (As := [.ref _]) (q := 72) (by decide +kernel) kX11_isWord lX11_172 rfl rfl (by decide) rfl rfl (by decide +kernel) (Nat.le_of_ble_eq_true rfl) (Nat.le_refl _) hm rfl (fun v12 iv8 rv9 lv10 hq => ?_)
  obtain ⟨hT11, h⟩ := h v12 iv8 rv9 lv10 hq
  refine Z_if_ne (t := 80) (off := 8) (q := 75) (by decide +kernel) (by decide) rfl (fun hc => ?_) (fun hc => ?_)
  · replace h := h.1 hc
    exact h
  · replace h := h.2 hc
    refine Z_aload_n (a := 0) (q := 76) (by decide +kernel) rfl rfl ?_
    refine Z_iconst (a := 1) (v := 1) (q := 77) (by decide +kernel) (by decide +kernel) rfl ?_
    obtain ⟨Q13, hm, h⟩ := h
    refine Z_callVv (M2 := mX11_flaw) (idx := 157) (d2 := d) (ci := 11) (As := [.int _]) (q := 80) (by decide +kernel) kX11_flaw lX11_157 rfl rfl (by decide) rfl rfl (by decide +kernel) (Nat.le_of_ble_eq_true rfl) (Nat.le_refl _) hm rfl (fun iv14 rv15 lv16 hq => ?_)
    obtain ⟨hT17, h⟩ := h iv14 rv15 lv16 hq
    exact h
set_option maxRecDepth 4000 in
theorem bX11_readKeep_80 {d : Nat} (x1 : Int32) {iv : zI} {rv : zR} {lv : zJ} {Q : zI → zR → zJ → Prop} (hT : zTop rv) 
    (h : ∃ Q1 : zI → zR → zJ → Prop, Cv mX11_goOn d [.ref 174] iv rv lv Q1 ∧ ∀ (iv2 : zI) (rv3 : zR) (lv4 : zJ), Q1 iv2 rv3 lv4 → zTop rv3 ∧ (∃ Q7 : Int32 → zI → zR → zJ → Prop, Ci mX11_whole d [.ref 174, .int (0 : Int32), .int (3 : Int32)] iv2 rv3 lv4 Q7 ∧ ∀ (v12 : Int32) (iv8 : zI) (rv9 : zR) (lv10 : zJ), Q7 v12 iv8 rv9 lv10 → zTop rv9 ∧ ((¬ (iv8 174 7) = 0 → Q iv8 rv9 lv10) ∧ ((iv8 174 7) = 0 → vp_in ((12 : Int32) + x1) 35 ∧ (∀ iv14 : zI, iv14 = zu iv8 177 ((12 : Int32) + x1).toNatClampNeg (v12 + (1 : Int32)) → Q iv14 rv9 lv10))))) :
    Zv mX11_readKeep (d + 1) 80 [some (.ref 174), some (.int x1), none] [] iv rv lv Q := by
  unfold Zv
  refine Z_aload_n (a := 0) (q := 81) (by decide +kernel) rfl rfl ?_
  obtain ⟨Q1, hm, h⟩ := h
  refine Z_callVv (M2 := mX11_goOn) (idx := 161) (d2 := d) (ci := 11) (As := []) (q := 84) (by decide +kernel) kX11_goOn lX11_161 rfl rfl (by decide) rfl rfl (by decide +kernel) (Nat.le_of_ble_eq_true rfl) (Nat.le_refl _) hm rfl (fun iv2 rv3 lv4 hq => ?_)
  obtain ⟨hT5, h⟩ := h iv2 rv3 lv4 hq
  refine Z_aload_n (a := 0) (q := 85) (by decide +kernel) rfl rfl ?_
  refine Z_iconst (a := 0) (v := 0) (q := 86) (by decide +kernel) (by decide +kernel) rfl ?_
  refine Z_iconst (a := 3) (v := 3) (q := 87) (by decide +kernel) (by decide +kernel) rfl ?_
  obtain ⟨Q7, hm, h⟩ := h
  refine Z_callVi (M2 := mX11_whole) (idx := 164) (d2 := d) (ci := 11) (As := [.int _, .int _]) (q := 90) (by decide +kernel) kX11_whole lX11_164 rfl rfl (by decide) rfl rfl (by decide +kernel) (Nat.le_of_ble_eq_true rfl) (Nat.le_refl _) hm rfl (fun v12 iv8 rv9 lv10 hq => ?_)
  obtain ⟨hT11, h⟩ := h v12 iv8 rv9 lv10 hq
  refine Z_istore_n (a := 2) (loc2 := [_, _, _]) (q := 91) (by decide +kernel) (by decide +kernel) rfl rfl rfl ?_
  refine Z_aload_n (a := 0) (q := 92) (by decide +kernel) rfl rfl ?_
  refine g11_7 (idx := 100) (q := 95) (by decide +kernel) fX11_100 rfl (by decide) rfl ?_
  refine Z_if_ne (t := 110) (off := 15) (q := 98) (by decide +kernel) (by decide) rfl (fun hc => ?_) (fun hc => ?_)
  · replace h := h.1 hc
    exact Z_vret (by decide +kernel) rfl rfl ⟨rfl, h⟩
  · replace h := h.2 hc
    refine Z_aload_n (a := 0) (q := 99) (by decide +kernel) rfl rfl ?_
    refine g11_15 (idx := 20) (q := 102) (by decide +kernel) fX11_20 rfl (by decide) (t11_15 hT11) rfl ?_
    refine Z_bipush (a := 12) (v := 12) (q := 104) (by decide +kernel) (by decide +kernel) rfl ?_
    refine Z_iload_n (a := 1) (q := 105) (by decide +kernel) rfl rfl ?_
    refine Z_iadd (q := 106) (by decide +kernel) rfl ?_
    refine Z_iload_n (a := 2) (q := 107) (by decide +kernel) rfl rfl ?_
    refine Z_iconst (a := 1) (v := 1) (q := 108) (by decide +kernel) (by decide +kernel) rfl ?_
    refine Z_iadd (q := 109) (by decide +kernel) rfl ?_
    obtain ⟨hin13, h⟩ := h
    refine Z_iast (len := 35) (q := 110) (by decide +kernel) rfl (by decide) hin13 rfl ?_
    replace h := h _ rfl
    exact Z_vret (by decide +kernel) rfl rfl ⟨rfl, h⟩
theorem eX11_pairOf {d : Nat} (x0 l_x0 : Nat) (x1 : Int32) (x2 : Int32) {iv : zI} {rv : zR} {lv : zJ} {Q : Int32 → zI → zR → zJ → Prop} (h : Zi mX11_pairOf d 0 [some (.ref x0), some (.int x1), some (.int x2), none, none, none] [] iv rv lv Q) : Ci mX11_pairOf d [.ref x0, .int x1, .int x2] iv rv lv Q := Ci.of (by decide +kernel) (by simp [Value.category]) (Nat.le_of_ble_eq_true rfl) rfl h
set_option maxRecDepth 4000 in
theorem bX11_pairOf_0 {d : Nat} (x0 l_x0 : Nat) (x1 : Int32) (x2 : Int32) {iv : zI} {rv : zR} {lv : zJ} {Q : Int32 → zI → zR → zJ → Prop} (hT : zTop rv) (s_x0 : zSH x0 = (0, l_x0)) (a_x0 : x0 < 200)
    (h : Zi mX11_pairOf d 2 [some (.ref x0), some (.int x1), some (.int x2), some (.int (0 : Int32)), none, none] [] iv rv lv Q) :
    Zi mX11_pairOf d 0 [some (.ref x0), some (.int x1), some (.int x2), none, none, none] [] iv rv lv Q := by
  unfold Zi
  refine Z_iconst (a := 0) (v := 0) (q := 1) (by decide +kernel) (by decide +kernel) rfl ?_
  refine Z_istore_n (a := 3) (loc2 := [_, _, _, _, _, _]) (q := 2) (by decide +kernel) (by decide +kernel) rfl rfl rfl ?_
  exact h
set_option maxRecDepth 4000 in
theorem bX11_pairOf_2 {d : Nat} (x0 l_x0 : Nat) (x1 : Int32) (x2 : Int32) (x3 : Int32) {iv : zI} {rv : zR} {lv : zJ} {Q : Int32 → zI → zR → zJ → Prop} (hT : zTop rv) (s_x0 : zSH x0 = (0, l_x0)) (a_x0 : x0 < 200)
    (h : vp_in (22 : Int32) l_x0 ∧ (((iv x0 22) ≤ x3 → Q (-1 : Int32) iv rv lv) ∧ (¬ (iv x0 22) ≤ x3 → vp_in ((23 : Int32) + ((2 : Int32) * x3)) l_x0 ∧ (vp_in (((23 : Int32) + ((2 : Int32) * x3)) + (1 : Int32)) l_x0 ∧ ((¬ (iv x0 ((23 : Int32) + ((2 : Int32) * x3)).toNatClampNeg) = x1 → (¬ (iv x0 ((23 : Int32) + ((2 : Int32) * x3)).toNatClampNeg) = x2 → Zi mX11_pairOf d 2 [some (.ref x0), some (.int x1), some (.int x2), some (.int (x3 + 1)), none, none] [] iv rv lv Q) ∧ ((iv x0 ((23 : Int32) + ((2 : Int32) * x3)).toNatClampNeg) = x2 → (¬ (iv x0 (((23 : Int32) + ((2 : Int32) * x3)) + (1 : Int32)).toNatClampNeg) = x1 → Zi mX11_pairOf d 2 [some (.ref x0), some (.int x1), some (.int x2), some (.int (x3 + 1)), none, none] [] iv rv lv Q) ∧ ((iv x0 (((23 : Int32) + ((2 : Int32) * x3)) + (1 : Int32)).toNatClampNeg) = x1 → Q x3 iv rv lv))) ∧ ((iv x0 ((23 : Int32) + ((2 : Int32) * x3)).toNatClampNeg) = x1 → ((iv x0 (((23 : Int32) + ((2 : Int32) * x3)) + (1 : Int32)).toNatClampNeg) = x2 → Q x3 iv rv lv) ∧ (¬ (iv x0 (((23 : Int32) + ((2 : Int32) * x3)) + (1 : Int32)).toNatClampNeg) = x2 → (¬ (iv x0 ((23 : Int32) + ((2 : Int32) * x3)).toNatClampNeg) = x2 → Zi mX11_pairOf d 2 [some (.ref x0), some (.int x1), some (.int x2), some (.int (x3 + 1)), none, none] [] iv rv lv Q) ∧ ((iv x0 ((23 : Int32) + ((2 : Int32) * x3)).toNatClampNeg) = x2 → (¬ (iv x0 (((23 : Int32) + ((2 : Int32) * x3)) + (1 : Int32)).toNatClampNeg) = x1 → Zi mX11_pairOf d 2 [some (.ref x0), some (.int x1), some (.int x2), some (.int (x3 + 1)), none, none] [] iv rv lv Q) ∧ ((iv x0 (((23 : Int32) + ((2 : Int32) * x3)) + (1 : Int32)).toNatClampNeg) = x1 → Q x3 iv rv lv))))))))) :
    Zi mX11_pairOf d 2 [some (.ref x0), some (.int x1), some (.int x2), some (.int x3), none, none] [] iv rv lv Q := by
  unfold Zi
  refine Z_iload_n (a := 3) (q := 3) (by decide +kernel) rfl rfl ?_
  refine Z_aload_n (a := 0) (q := 4) (by decide +kernel) rfl rfl ?_
  refine Z_bipush (a := 22) (v := 22) (q := 6) (by decide +kernel) (by decide +kernel) rfl ?_
  obtain ⟨hin1, h⟩ := h
  refine Z_iald (len := l_x0) (q := 7) (by decide +kernel) s_x0 a_x0 hin1 rfl ?_
  refine Z_icmp_ge (t := 64) (off := 57) (q := 10) (by decide +kernel) (by decide) rfl (fun hc => ?_) (fun hc => ?_)
  · replace h := h.1 hc
    refine Z_iconst (a := -1) (v := -1) (q := 65) (by decide +kernel) (by decide +kernel) rfl ?_
    exact Z_iret (ty := .int) (by decide +kernel) rfl rfl rfl ⟨_, rfl, h⟩
  · replace h := h.2 hc
    refine Z_aload_n (a := 0) (q := 11) (by decide +kernel) rfl rfl ?_
    refine Z_bipush (a := 23) (v := 23) (q := 13) (by decide +kernel) (by decide +kernel) rfl ?_
    refine Z_iconst (a := 2) (v := 2) (q := 14) (by decide +kernel) (by decide +kernel) rfl ?_
    refine Z_iload_n (a := 3) (q := 15) (by decide +kernel) rfl rfl ?_
    refine Z_imul (q := 16) (by decide +kernel) rfl ?_
    refine Z_iadd (q := 17) (by decide +kernel) rfl ?_
    obtain ⟨hin2, h⟩ := h
    refine Z_iald (len := l_x0) (q := 18) (by decide +kernel) s_x0 a_x0 hin2 rfl ?_
    refine Z_istore (a := 4) (loc2 := [_, _, _, _, _, _]) (q := 20) (by decide +kernel) (by decide +kernel) rfl rfl rfl ?_
    refine Z_aload_n (a := 0) (q := 21) (by decide +kernel) rfl rfl ?_
    refine Z_bipush (a := 23) (v := 23) (q := 23) (by decide +kernel) (by decide +kernel) rfl ?_
    refine Z_iconst (a := 2) (v := 2) (q := 24) (by decide +kernel) (by decide +kernel) rfl ?_
    refine Z_iload_n (a := 3) (q := 25) (by decide +kernel) rfl rfl ?_
    refine Z_imul (q := 26) (by decide +kernel) rfl ?_
    refine Z_iadd (q := 27) (by decide +kernel) rfl ?_
    refine Z_iconst (a := 1) (v := 1) (q := 28) (by decide +kernel) (by decide +kernel) rfl ?_
    refine Z_iadd (q := 29) (by decide +kernel) rfl ?_
    obtain ⟨hin3, h⟩ := h
    refine Z_iald (len := l_x0) (q := 30) (by decide +kernel) s_x0 a_x0 hin3 rfl ?_
    refine Z_istore (a := 5) (loc2 := [_, _, _, _, _, _]) (q := 32) (by decide +kernel) (by decide +kernel) rfl rfl rfl ?_
    refine Z_iload (a := 4) (q := 34) (by decide +kernel) rfl rfl ?_
    refine Z_iload_n (a := 1) (q := 35) (by decide +kernel) rfl rfl ?_
    refine Z_icmp_ne (t := 44) (off := 9) (q := 38) (by decide +kernel) (by decide) rfl (fun hc => ?_) (fun hc => ?_)
    · replace h := h.1 hc
      refine Z_iload (a := 4) (q := 46) (by decide +kernel) rfl rfl ?_
      refine Z_iload_n (a := 2) (q := 47) (by decide +kernel) rfl rfl ?_
      refine Z_icmp_ne (t := 58) (off := 11) (q := 50) (by decide +kernel) (by decide) rfl (fun hc => ?_) (fun hc => ?_)
      · replace h := h.1 hc
        refine Z_iinc (a := 3) (b := 1) (v := _ + 1) (loc2 := [_, _, _, _, _, _]) (q := 61) (by decide +kernel) rfl (zinc _) (by decide +kernel) rfl rfl rfl ?_
        refine Z_goto (q := 2) (off := -59) (by decide +kernel) (by decide) ?_
        exact Z_forget h (And.intro rfl (And.intro rfl (And.intro rfl (And.intro rfl trivial))))
      · replace h := h.2 hc
        refine Z_iload (a := 5) (q := 52) (by decide +kernel) rfl rfl ?_
        refine Z_iload_n (a := 1) (q := 53) (by decide +kernel) rfl rfl ?_
        refine Z_icmp_ne (t := 58) (off := 5) (q := 56) (by decide +kernel) (by decide) rfl (fun hc => ?_) (fun hc => ?_)
        · replace h := h.1 hc
          refine Z_iinc (a := 3) (b := 1) (v := _ + 1) (loc2 := [_, _, _, _, _, _]) (q := 61) (by decide +kernel) rfl (zinc _) (by decide +kernel) rfl rfl rfl ?_
          refine Z_goto (q := 2) (off := -59) (by decide +kernel) (by decide) ?_
          exact Z_forget h (And.intro rfl (And.intro rfl (And.intro rfl (And.intro rfl trivial))))
        · replace h := h.2 hc
          refine Z_iload_n (a := 3) (q := 57) (by decide +kernel) rfl rfl ?_
          exact Z_iret (ty := .int) (by decide +kernel) rfl rfl rfl ⟨_, rfl, h⟩
    · replace h := h.2 hc
      refine Z_iload (a := 5) (q := 40) (by decide +kernel) rfl rfl ?_
      refine Z_iload_n (a := 2) (q := 41) (by decide +kernel) rfl rfl ?_
      refine Z_icmp_eq (t := 56) (off := 15) (q := 44) (by decide +kernel) (by decide) rfl (fun hc => ?_) (fun hc => ?_)
      · replace h := h.1 hc
        refine Z_iload_n (a := 3) (q := 57) (by decide +kernel) rfl rfl ?_
        exact Z_iret (ty := .int) (by decide +kernel) rfl rfl rfl ⟨_, rfl, h⟩
      · replace h := h.2 hc
        refine Z_iload (a := 4) (q := 46) (by decide +kernel) rfl rfl ?_
        refine Z_iload_n (a := 2) (q := 47) (by decide +kernel) rfl rfl ?_
        refine Z_icmp_ne (t := 58) (off := 11) (q := 50) (by decide +kernel) (by decide) rfl (fun hc => ?_) (fun hc => ?_)
        · replace h := h.1 hc
          refine Z_iinc (a := 3) (b := 1) (v := _ + 1) (loc2 := [_, _, _, _, _, _]) (q := 61) (by decide +kernel) rfl (zinc _) (by decide +kernel) rfl rfl rfl ?_
          refine Z_goto (q := 2) (off := -59) (by decide +kernel) (by decide) ?_
          exact Z_forget h (And.intro rfl (And.intro rfl (And.intro rfl (And.intro rfl trivial))))
        · replace h := h.2 hc
          refine Z_iload (a := 5) (q := 52) (by decide +kernel) rfl rfl ?_
          refine Z_iload_n (a := 1) (q := 53) (by decide +kernel) rfl rfl ?_
          refine Z_icmp_ne (t := 58) (off := 5) (q := 56) (by decide +kernel) (by decide) rfl (fun hc => ?_) (fun hc => ?_)
          · replace h := h.1 hc
            refine Z_iinc (a := 3) (b := 1) (v := _ + 1) (loc2 := [_, _, _, _, _, _]) (q := 61) (by decide +kernel) rfl (zinc _) (by decide +kernel) rfl rfl rfl ?_
            refine Z_goto (q := 2) (off := -59) (by decide +kernel) (by decide) ?_
            exact Z_forget h (And.intro rfl (And.intro rfl (And.intro rfl (And.intro rfl trivial))))
          · replace h := h.2 hc
            refine Z_iload_n (a := 3) (q := 57) (by decide +kernel) rfl rfl ?_
            exact Z_iret (ty := .int) (by decide +kernel) rfl rfl rfl ⟨_, rfl, h⟩
theorem eX11_readApart {d : Nat}  {iv : zI} {rv : zR} {lv : zJ} {Q : zI → zR → zJ → Prop} (h : Zv mX11_readApart (d + 1) 0 [some (.ref 174), none, none] [] iv rv lv Q) : Cv mX11_readApart (d + 1) [.ref 174] iv rv lv Q := Cv.of (by decide +kernel) (by simp [Value.category]) (Nat.le_of_ble_eq_true rfl) rfl h
set_option maxRecDepth 4000 in
theorem bX11_readApart_0 {d : Nat}  {iv : zI} {rv : zR} {lv : zJ} {Q : zI → zR → zJ → Prop} (hT : zTop rv) 
    (h : (¬ (iv 177 22) = (6 : Int32) → Zv mX11_readApart (d + 1) 17 [some (.ref 174), none, none] [] iv rv lv Q) ∧ ((iv 177 22) = (6 : Int32) → ∃ Q1 : zI → zR → zJ → Prop, Cv mX11_flaw d [.ref 174, .int (4 : Int32)] iv rv lv Q1 ∧ ∀ (iv2 : zI) (rv3 : zR) (lv4 : zJ), Q1 iv2 rv3 lv4 → zTop rv3 ∧ (Zv mX11_readApart (d + 1) 17 [some (.ref 174), none, none] [] iv2 rv3 lv4 Q))) :
    Zv mX11_readApart (d + 1) 0 [some (.ref 174), none, none] [] iv rv lv Q := by
  unfold Zv
  refine Z_aload_n (a := 0) (q := 1) (by decide +kernel) rfl rfl ?_
  refine g11_15 (idx := 20) (q := 4) (by decide +kernel) fX11_20 rfl (by decide) (t11_15 hT) rfl ?_
  refine Z_bipush (a := 22) (v := 22) (q := 6) (by decide +kernel) (by decide +kernel) rfl ?_
  refine Z_iald (len := 35) (q := 7) (by decide +kernel) rfl (by decide) (by unfold vp_in; decide) rfl ?_
  refine Z_bipush (a := 6) (v := 6) (q := 9) (by decide +kernel) (by decide +kernel) rfl ?_
  refine Z_icmp_ne (t := 17) (off := 8) (q := 12) (by decide +kernel) (by decide) rfl (fun hc => ?_) (fun hc => ?_)
  · replace h := h.1 hc
    exact h
  · replace h := h.2 hc
    refine Z_aload_n (a := 0) (q := 13) (by decide +kernel) rfl rfl ?_
    refine Z_iconst (a := 4) (v := 4) (q := 14) (by decide +kernel) (by decide +kernel) rfl ?_
    obtain ⟨Q1, hm, h⟩ := h
    refine Z_callVv (M2 := mX11_flaw) (idx := 157) (d2 := d) (ci := 11) (As := [.int _]) (q := 17) (by decide +kernel) kX11_flaw lX11_157 rfl rfl (by decide) rfl rfl (by decide +kernel) (Nat.le_of_ble_eq_true rfl) (Nat.le_refl _) hm rfl (fun iv2 rv3 lv4 hq => ?_)
    obtain ⟨hT5, h⟩ := h iv2 rv3 lv4 hq
    exact h
set_option maxRecDepth 4000 in
theorem bX11_readApart_17 {d : Nat}  {iv : zI} {rv : zR} {lv : zJ} {Q : zI → zR → zJ → Prop} (hT : zTop rv) 
    (h : ∃ Q1 : zI → zR → zJ → Prop, Cv mX11_goOn d [.ref 174] iv rv lv Q1 ∧ ∀ (iv2 : zI) (rv3 : zR) (lv4 : zJ), Q1 iv2 rv3 lv4 → zTop rv3 ∧ (∃ Q7 : Int32 → zI → zR → zJ → Prop, Ci mX11_whole d [.ref 174, .int (0 : Int32), .int ((iv2 177 0) - (1 : Int32))] iv2 rv3 lv4 Q7 ∧ ∀ (v12 : Int32) (iv8 : zI) (rv9 : zR) (lv10 : zJ), Q7 v12 iv8 rv9 lv10 → zTop rv9 ∧ ((¬ (iv8 174 7) = 0 → Zv mX11_readApart (d + 1) 92 [some (.ref 174), some (.int v12), none] [] iv8 rv9 lv10 Q) ∧ ((iv8 174 7) = 0 → (¬ (iv8 174 9) = (3 : Int32) → Zv mX11_readApart (d + 1) 92 [some (.ref 174), some (.int v12), none] [] iv8 rv9 lv10 Q) ∧ ((iv8 174 9) = (3 : Int32) → ((iv8 177 0) ≤ (iv8 174 12) → Zv mX11_readApart (d + 1) 92 [some (.ref 174), some (.int v12), none] [] iv8 rv9 lv10 Q) ∧ (¬ (iv8 177 0) ≤ (iv8 174 12) → ((iv8 174 12) = v12 → ∃ Q13 : zI → zR → zJ → Prop, Cv mX11_flaw d [.ref 174, .int (3 : Int32)] iv8 rv9 lv10 Q13 ∧ ∀ (iv14 : zI) (rv15 : zR) (lv16 : zJ), Q13 iv14 rv15 lv16 → zTop rv15 ∧ (Zv mX11_readApart (d + 1) 92 [some (.ref 174), some (.int v12), none] [] iv14 rv15 lv16 Q)) ∧ (¬ (iv8 174 12) = v12 → ∃ Q19 : Int32 → zI → zR → zJ → Prop, Ci mX11_pairOf d [.ref 177, .int v12, .int (iv8 174 12)] iv8 rv9 lv10 Q19 ∧ ∀ (v24 : Int32) (iv20 : zI) (rv21 : zR) (lv22 : zJ), Q19 v24 iv20 rv21 lv22 → zTop rv21 ∧ ((v24 = (-1 : Int32) → Zv mX11_readApart (d + 1) 92 [some (.ref 174), some (.int v12), none] [] iv20 rv21 lv22 Q) ∧ (¬ v24 = (-1 : Int32) → ∃ Q25 : zI → zR → zJ → Prop, Cv mX11_flaw d [.ref 174, .int (3 : Int32)] iv20 rv21 lv22 Q25 ∧ ∀ (iv26 : zI) (rv27 : zR) (lv28 : zJ), Q25 iv26 rv27 lv28 → zTop rv27 ∧ (Zv mX11_readApart (d + 1) 92 [some (.ref 174), some (.int v12), none] [] iv26 rv27 lv28 Q)))))))))) :
    Zv mX11_readApart (d + 1) 17 [some (.ref 174), none, none] [] iv rv lv Q := by
  unfold Zv
  refine Z_aload_n (a := 0) (q := 18) (by decide +kernel) rfl rfl ?_
  obtain ⟨Q1, hm, h⟩ := h
  refine Z_callVv (M2 := mX11_goOn) (idx := 161) (d2 := d) (ci := 11) (As := []) (q := 21) (by decide +kernel) kX11_goOn lX11_161 rfl rfl (by decide) rfl rfl (by decide +kernel) (Nat.le_of_ble_eq_true rfl) (Nat.le_refl _) hm rfl (fun iv2 rv3 lv4 hq => ?_)
  obtain ⟨hT5, h⟩ := h iv2 rv3 lv4 hq
  refine Z_aload_n (a := 0) (q := 22) (by decide +kernel) rfl rfl ?_
  refine Z_iconst (a := 0) (v := 0) (q := 23) (by decide +kernel) (by decide +kernel) rfl ?_
  refine Z_aload_n (a := 0) (q := 24) (by decide +kernel) rfl rfl ?_
  refine g11_15 (idx := 20) (q := 27) (by decide +kernel) fX11_20 rfl (by decide) (t11_15 hT5) rfl ?_
  refine Z_iconst (a := 0) (v := 0) (q := 28) (by decide +kernel) (by decide +kernel) rfl ?_
  refine Z_iald (len := 35) (q := 29) (by decide +kernel) rfl (by decide) (by unfold vp_in; decide) rfl ?_
  refine Z_iconst (a := 1) (v := 1) (q := 30) (by decide +kernel) (by decide +kernel) rfl ?_
  refine Z_isub (q := 31) (by decide +kernel) rfl ?_
  obtain ⟨Q7, hm, h⟩ := h
  refine Z_callVi (M2 := mX11_whole) (idx := 164) (d2 := d) (ci := 11) (As := [.int _, .int _]) (q := 34) (by decide +kernel) kX11_whole lX11_164 rfl rfl (by decide) rfl rfl (by decide +kernel) (Nat.le_of_ble_eq_true rfl) (Nat.le_refl _) hm rfl (fun v12 iv8 rv9 lv10 hq => ?_)
  obtain ⟨hT11, h⟩ := h v12 iv8 rv9 lv10 hq
  refine Z_istore_n (a := 1) (loc2 := [_, _, _]) (q := 35) (by decide +kernel) (by decide +kernel) rfl rfl rfl ?_
  refine Z_aload_n (a := 0) (q := 36) (by decide +kernel) rfl rfl ?_
  refine g11_7 (idx := 100) (q := 39) (by decide +kernel) fX11_100 rfl (by decide) rfl ?_
  refine Z_if_ne (t := 92) (off := 53) (q := 42) (by decide +kernel) (by decide) rfl (fun hc => ?_) (fun hc => ?_)
  · replace h := h.1 hc
    exact h
  · replace h := h.2 hc
    refine Z_aload_n (a := 0) (q := 43) (by decide +kernel) rfl rfl ?_
    refine g11_9 (idx := 119) (q := 46) (by decide +kernel) fX11_119 rfl (by decide) rfl ?_
    refine Z_iconst (a := 3) (v := 3) (q := 47) (by decide +kernel) (by decide +kernel) rfl ?_
    refine Z_icmp_ne (t := 92) (off := 45) (q := 50) (by decide +kernel) (by decide) rfl (fun hc => ?_) (fun hc => ?_)
    · replace h := h.1 hc
      exact h
    · replace h := h.2 hc
      refine Z_aload_n (a := 0) (q := 51) (by decide +kernel) rfl rfl ?_
      refine g11_12 (idx := 137) (q := 54) (by decide +kernel) fX11_137 rfl (by decide) rfl ?_
      refine Z_aload_n (a := 0) (q := 55) (by decide +kernel) rfl rfl ?_
      refine g11_15 (idx := 20) (q := 58) (by decide +kernel) fX11_20 rfl (by decide) (t11_15 hT11) rfl ?_
      refine Z_iconst (a := 0) (v := 0) (q := 59) (by decide +kernel) (by decide +kernel) rfl ?_
      refine Z_iald (len := 35) (q := 60) (by decide +kernel) rfl (by decide) (by unfold vp_in; decide) rfl ?_
      refine Z_icmp_ge (t := 92) (off := 32) (q := 63) (by decide +kernel) (by decide) rfl (fun hc => ?_) (fun hc => ?_)
      · replace h := h.1 hc
        exact h
      · replace h := h.2 hc
        refine Z_aload_n (a := 0) (q := 64) (by decide +kernel) rfl rfl ?_
        refine g11_12 (idx := 137) (q := 67) (by decide +kernel) fX11_137 rfl (by decide) rfl ?_
        refine Z_iload_n (a := 1) (q := 68) (by decide +kernel) rfl rfl ?_
        refine Z_icmp_eq (t := 87) (off := 19) (q := 71) (by decide +kernel) (by decide) rfl (fun hc => ?_) (fun hc => ?_)
        · replace h := h.1 hc
          refine Z_aload_n (a := 0) (q := 88) (by decide +kernel) rfl rfl ?_
          refine Z_iconst (a := 3) (v := 3) (q := 89) (by decide +kernel) (by decide +kernel) rfl ?_
          obtain ⟨Q13, hm, h⟩ := h
          refine Z_callVv (M2 := mX11_flaw) (idx := 157) (d2 := d) (ci := 11) (As := [.int _]) (q := 92) (by decide +kernel) kX11_flaw lX11_157 rfl rfl (by decide) rfl rfl (by decide +kernel) (Nat.le_of_ble_eq_true rfl) (Nat.le_refl _) hm rfl (fun iv14 rv15 lv16 hq => ?_)
          obtain ⟨hT17, h⟩ := h iv14 rv15 lv16 hq
          exact h
        · replace h := h.2 hc
          refine Z_aload_n (a := 0) (q := 72) (by decide +kernel) rfl rfl ?_
          refine g11_15 (idx := 20) (q := 75) (by decide +kernel) fX11_20 rfl (by decide) (t11_15 hT11) rfl ?_
          refine Z_iload_n (a := 1) (q := 76) (by decide +kernel) rfl rfl ?_
          refine Z_aload_n (a := 0) (q := 77) (by decide +kernel) rfl rfl ?_
          refine g11_12 (idx := 137) (q := 80) (by decide +kernel) fX11_137 rfl (by decide) rfl ?_
          obtain ⟨Q19, hm, h⟩ := h
          refine Z_callSi (M2 := mX11_pairOf) (idx := 176) (d2 := d) (As := [.ref _, .int _, .int _]) (q := 83) (by decide +kernel) kX11_pairOf lX11_176 rfl rfl (by decide +kernel) (Nat.le_of_ble_eq_true rfl) (Nat.le_refl _) hm rfl (fun v24 iv20 rv21 lv22 hq => ?_)
          obtain ⟨hT23, h⟩ := h v24 iv20 rv21 lv22 hq
          refine Z_iconst (a := -1) (v := -1) (q := 84) (by decide +kernel) (by decide +kernel) rfl ?_
          refine Z_icmp_eq (t := 92) (off := 8) (q := 87) (by decide +kernel) (by decide) rfl (fun hc => ?_) (fun hc => ?_)
          · replace h := h.1 hc
            exact h
          · replace h := h.2 hc
            refine Z_aload_n (a := 0) (q := 88) (by decide +kernel) rfl rfl ?_
            refine Z_iconst (a := 3) (v := 3) (q := 89) (by decide +kernel) (by decide +kernel) rfl ?_
            obtain ⟨Q25, hm, h⟩ := h
            refine Z_callVv (M2 := mX11_flaw) (idx := 157) (d2 := d) (ci := 11) (As := [.int _]) (q := 92) (by decide +kernel) kX11_flaw lX11_157 rfl rfl (by decide) rfl rfl (by decide +kernel) (Nat.le_of_ble_eq_true rfl) (Nat.le_refl _) hm rfl (fun iv26 rv27 lv28 hq => ?_)
            obtain ⟨hT29, h⟩ := h iv26 rv27 lv28 hq
            exact h
set_option maxRecDepth 4000 in
theorem bX11_readApart_92 {d : Nat} (x1 : Int32) {iv : zI} {rv : zR} {lv : zJ} {Q : zI → zR → zJ → Prop} (hT : zTop rv) 
    (h : ∃ Q1 : Int32 → zI → zR → zJ → Prop, Ci mX11_whole d [.ref 174, .int (0 : Int32), .int ((iv 177 0) - (1 : Int32))] iv rv lv Q1 ∧ ∀ (v6 : Int32) (iv2 : zI) (rv3 : zR) (lv4 : zJ), Q1 v6 iv2 rv3 lv4 → zTop rv3 ∧ (((iv2 174 7) ≤ 0 → vp_in ((23 : Int32) + ((2 : Int32) * (iv2 177 22))) 35 ∧ (∀ iv8 : zI, iv8 = zu iv2 177 ((23 : Int32) + ((2 : Int32) * (iv2 177 22))).toNatClampNeg x1 → vp_in (((23 : Int32) + ((2 : Int32) * (iv8 177 22))) + (1 : Int32)) 35 ∧ (∀ iv10 : zI, iv10 = zu iv8 177 (((23 : Int32) + ((2 : Int32) * (iv8 177 22))) + (1 : Int32)).toNatClampNeg v6 → ∀ iv11 : zI, iv11 = zu iv10 177 22 ((iv10 177 22) + (1 : Int32)) → Q iv11 rv3 lv4))) ∧ (¬ (iv2 174 7) ≤ 0 → Q iv2 rv3 lv4))) :
    Zv mX11_readApart (d + 1) 92 [some (.ref 174), some (.int x1), none] [] iv rv lv Q := by
  unfold Zv
  refine Z_aload_n (a := 0) (q := 93) (by decide +kernel) rfl rfl ?_
  refine Z_iconst (a := 0) (v := 0) (q := 94) (by decide +kernel) (by decide +kernel) rfl ?_
  refine Z_aload_n (a := 0) (q := 95) (by decide +kernel) rfl rfl ?_
  refine g11_15 (idx := 20) (q := 98) (by decide +kernel) fX11_20 rfl (by decide) (t11_15 hT) rfl ?_
  refine Z_iconst (a := 0) (v := 0) (q := 99) (by decide +kernel) (by decide +kernel) rfl ?_
  refine Z_iald (len := 35) (q := 100) (by decide +kernel) rfl (by decide) (by unfold vp_in; decide) rfl ?_
  refine Z_iconst (a := 1) (v := 1) (q := 101) (by decide +kernel) (by decide +kernel) rfl ?_
  refine Z_isub (q := 102) (by decide +kernel) rfl ?_
  obtain ⟨Q1, hm, h⟩ := h
  refine Z_callVi (M2 := mX11_whole) (idx := 164) (d2 := d) (ci := 11) (As := [.int _, .int _]) (q := 105) (by decide +kernel) kX11_whole lX11_164 rfl rfl (by decide) rfl rfl (by decide +kernel) (Nat.le_of_ble_eq_true rfl) (Nat.le_refl _) hm rfl (fun v6 iv2 rv3 lv4 hq => ?_)
  obtain ⟨hT5, h⟩ := h v6 iv2 rv3 lv4 hq
  refine Z_istore_n (a := 2) (loc2 := [_, _, _]) (q := 106) (by decide +kernel) (by decide +kernel) rfl rfl rfl ?_
  refine Z_aload_n (a := 0) (q := 107) (by decide +kernel) rfl rfl ?_
  refine g11_7 (idx := 100) (q := 110) (by decide +kernel) fX11_100 rfl (by decide) rfl ?_
  refine Z_if_le (t := 114) (off := 4) (q := 113) (by decide +kernel) (by decide) rfl (fun hc => ?_) (fun hc => ?_)
  · replace h := h.1 hc
    refine Z_aload_n (a := 0) (q := 115) (by decide +kernel) rfl rfl ?_
    refine g11_15 (idx := 20) (q := 118) (by decide +kernel) fX11_20 rfl (by decide) (t11_15 hT5) rfl ?_
    refine Z_bipush (a := 23) (v := 23) (q := 120) (by decide +kernel) (by decide +kernel) rfl ?_
    refine Z_iconst (a := 2) (v := 2) (q := 121) (by decide +kernel) (by decide +kernel) rfl ?_
    refine Z_aload_n (a := 0) (q := 122) (by decide +kernel) rfl rfl ?_
    refine g11_15 (idx := 20) (q := 125) (by decide +kernel) fX11_20 rfl (by decide) (t11_15 hT5) rfl ?_
    refine Z_bipush (a := 22) (v := 22) (q := 127) (by decide +kernel) (by decide +kernel) rfl ?_
    refine Z_iald (len := 35) (q := 128) (by decide +kernel) rfl (by decide) (by unfold vp_in; decide) rfl ?_
    refine Z_imul (q := 129) (by decide +kernel) rfl ?_
    refine Z_iadd (q := 130) (by decide +kernel) rfl ?_
    refine Z_iload_n (a := 1) (q := 131) (by decide +kernel) rfl rfl ?_
    obtain ⟨hin7, h⟩ := h
    refine Z_iast (len := 35) (q := 132) (by decide +kernel) rfl (by decide) hin7 rfl ?_
    replace h := h _ rfl
    refine Z_aload_n (a := 0) (q := 133) (by decide +kernel) rfl rfl ?_
    refine g11_15 (idx := 20) (q := 136) (by decide +kernel) fX11_20 rfl (by decide) (t11_15 hT5) rfl ?_
    refine Z_bipush (a := 23) (v := 23) (q := 138) (by decide +kernel) (by decide +kernel) rfl ?_
    refine Z_iconst (a := 2) (v := 2) (q := 139) (by decide +kernel) (by decide +kernel) rfl ?_
    refine Z_aload_n (a := 0) (q := 140) (by decide +kernel) rfl rfl ?_
    refine g11_15 (idx := 20) (q := 143) (by decide +kernel) fX11_20 rfl (by decide) (t11_15 hT5) rfl ?_
    refine Z_bipush (a := 22) (v := 22) (q := 145) (by decide +kernel) (by decide +kernel) rfl ?_
    refine Z_iald (len := 35) (q := 146) (by decide +kernel) rfl (by decide) (by unfold vp_in; decide) rfl ?_
    refine Z_imul (q := 147) (by decide +kernel) rfl ?_
    refine Z_iadd (q := 148) (by decide +kernel) rfl ?_
    refine Z_iconst (a := 1) (v := 1) (q := 149) (by decide +kernel) (by decide +kernel) rfl ?_
    refine Z_iadd (q := 150) (by decide +kernel) rfl ?_
    refine Z_iload_n (a := 2) (q := 151) (by decide +kernel) rfl rfl ?_
    obtain ⟨hin9, h⟩ := h
    refine Z_iast (len := 35) (q := 152) (by decide +kernel) rfl (by decide) hin9 rfl ?_
    replace h := h _ rfl
    refine Z_aload_n (a := 0) (q := 153) (by decide +kernel) rfl rfl ?_
    refine g11_15 (idx := 20) (q := 156) (by decide +kernel) fX11_20 rfl (by decide) (t11_15 hT5) rfl ?_
    refine Z_bipush (a := 22) (v := 22) (q := 158) (by decide +kernel) (by decide +kernel) rfl ?_
    refine Z_dup2 (q := 159) (by decide +kernel) rfl rfl rfl ?_
    refine Z_iald (len := 35) (q := 160) (by decide +kernel) rfl (by decide) (by unfold vp_in; decide) rfl ?_
    refine Z_iconst (a := 1) (v := 1) (q := 161) (by decide +kernel) (by decide +kernel) rfl ?_
    refine Z_iadd (q := 162) (by decide +kernel) rfl ?_
    refine Z_iast (len := 35) (q := 163) (by decide +kernel) rfl (by decide) (by unfold vp_in; decide) rfl ?_
    replace h := h _ rfl
    exact Z_vret (by decide +kernel) rfl rfl ⟨rfl, h⟩
  · replace h := h.2 hc
    exact Z_vret (by decide +kernel) rfl rfl ⟨rfl, h⟩
theorem eX11_readLine {d : Nat}  {iv : zI} {rv : zR} {lv : zJ} {Q : zI → zR → zJ → Prop} (h : Zv mX11_readLine (d + 1) 0 [some (.ref 174)] [] iv rv lv Q) : Cv mX11_readLine (d + 1) [.ref 174] iv rv lv Q := Cv.of (by decide +kernel) (by simp [Value.category]) (Nat.le_of_ble_eq_true rfl) rfl h
set_option maxRecDepth 4000 in
theorem bX11_readLine_0 {d : Nat}  {iv : zI} {rv : zR} {lv : zJ} {Q : zI → zR → zJ → Prop} (hT : zTop rv) 
    (h : ∃ Q1 : Int32 → zI → zR → zJ → Prop, Ci mX11_isWord d [.ref 174, .ref 1000000] iv rv lv Q1 ∧ ∀ (v6 : Int32) (iv2 : zI) (rv3 : zR) (lv4 : zJ), Q1 v6 iv2 rv3 lv4 → zTop rv3 ∧ ((v6 = 0 → ∃ Q7 : Int32 → zI → zR → zJ → Prop, Ci mX11_isWord d [.ref 174, .ref 1000001] iv2 rv3 lv4 Q7 ∧ ∀ (v12 : Int32) (iv8 : zI) (rv9 : zR) (lv10 : zJ), Q7 v12 iv8 rv9 lv10 → zTop rv9 ∧ ((v12 = 0 → ∃ Q13 : Int32 → zI → zR → zJ → Prop, Ci mX11_isWord d [.ref 174, .ref 1000002] iv8 rv9 lv10 Q13 ∧ ∀ (v18 : Int32) (iv14 : zI) (rv15 : zR) (lv16 : zJ), Q13 v18 iv14 rv15 lv16 → zTop rv15 ∧ ((v18 = 0 → ∃ Q19 : Int32 → zI → zR → zJ → Prop, Ci mX11_isWord d [.ref 174, .ref 1000004] iv14 rv15 lv16 Q19 ∧ ∀ (v24 : Int32) (iv20 : zI) (rv21 : zR) (lv22 : zJ), Q19 v24 iv20 rv21 lv22 → zTop rv21 ∧ ((v24 = 0 → ∃ Q25 : zI → zR → zJ → Prop, Cv mX11_flaw d [.ref 174, .int (1 : Int32)] iv20 rv21 lv22 Q25 ∧ ∀ (iv26 : zI) (rv27 : zR) (lv28 : zJ), Q25 iv26 rv27 lv28 → zTop rv27 ∧ (Q iv26 rv27 lv28)) ∧ (¬ v24 = 0 → ∃ Q31 : zI → zR → zJ → Prop, Cv mX11_readApart d [.ref 174] iv20 rv21 lv22 Q31 ∧ ∀ (iv32 : zI) (rv33 : zR) (lv34 : zJ), Q31 iv32 rv33 lv34 → zTop rv33 ∧ (Q iv32 rv33 lv34)))) ∧ (¬ v18 = 0 → ∃ Q37 : zI → zR → zJ → Prop, Cv mX11_readKeep d [.ref 174] iv14 rv15 lv16 Q37 ∧ ∀ (iv38 : zI) (rv39 : zR) (lv40 : zJ), Q37 iv38 rv39 lv40 → zTop rv39 ∧ (Q iv38 rv39 lv40)))) ∧ (¬ v12 = 0 → ((iv8 174 20) = 0 → Zv mX11_readLine (d + 1) 37 [some (.ref 174)] [] iv8 rv9 lv10 Q) ∧ (¬ (iv8 174 20) = 0 → ∃ Q43 : zI → zR → zJ → Prop, Cv mX11_flaw d [.ref 174, .int (3 : Int32)] iv8 rv9 lv10 Q43 ∧ ∀ (iv44 : zI) (rv45 : zR) (lv46 : zJ), Q43 iv44 rv45 lv46 → zTop rv45 ∧ (Zv mX11_readLine (d + 1) 37 [some (.ref 174)] [] iv44 rv45 lv46 Q))))) ∧ (¬ v6 = 0 → ∃ Q49 : zI → zR → zJ → Prop, Cv mX11_readNumbers d [.ref 174] iv2 rv3 lv4 Q49 ∧ ∀ (iv50 : zI) (rv51 : zR) (lv52 : zJ), Q49 iv50 rv51 lv52 → zTop rv51 ∧ (Q iv50 rv51 lv52)))) :
    Zv mX11_readLine (d + 1) 0 [some (.ref 174)] [] iv rv lv Q := by
  unfold Zv
  refine Z_aload_n (a := 0) (q := 1) (by decide +kernel) rfl rfl ?_
  refine Z_ldcS (a := 1000000) (tx := "number") (q := 3) (by decide +kernel) (fun _ _ _ _ _ h => h.2.2.1.1) (by decide) rfl ?_
  obtain ⟨Q1, hm, h⟩ := h
  refine Z_callVi (M2 := mX11_isWord) (idx := 172) (d2 := d) (ci := 11) (As := [.ref _]) (q := 6) (by decide +kernel) kX11_isWord lX11_172 rfl rfl (by decide) rfl rfl (by decide +kernel) (Nat.le_of_ble_eq_true rfl) (Nat.le_refl _) hm rfl (fun v6 iv2 rv3 lv4 hq => ?_)
  obtain ⟨hT5, h⟩ := h v6 iv2 rv3 lv4 hq
  refine Z_if_eq (t := 16) (off := 10) (q := 9) (by decide +kernel) (by decide) rfl (fun hc => ?_) (fun hc => ?_)
  · replace h := h.1 hc
    refine Z_aload_n (a := 0) (q := 17) (by decide +kernel) rfl rfl ?_
    refine Z_ldcS (a := 1000001) (tx := "heaps") (q := 19) (by decide +kernel) (fun _ _ _ _ _ h => h.2.2.1.2.1) (by decide) rfl ?_
    obtain ⟨Q7, hm, h⟩ := h
    refine Z_callVi (M2 := mX11_isWord) (idx := 172) (d2 := d) (ci := 11) (As := [.ref _]) (q := 22) (by decide +kernel) kX11_isWord lX11_172 rfl rfl (by decide) rfl rfl (by decide +kernel) (Nat.le_of_ble_eq_true rfl) (Nat.le_refl _) hm rfl (fun v12 iv8 rv9 lv10 hq => ?_)
    obtain ⟨hT11, h⟩ := h v12 iv8 rv9 lv10 hq
    refine Z_if_eq (t := 61) (off := 39) (q := 25) (by decide +kernel) (by decide) rfl (fun hc => ?_) (fun hc => ?_)
    · replace h := h.1 hc
      refine Z_aload_n (a := 0) (q := 62) (by decide +kernel) rfl rfl ?_
      refine Z_ldcS (a := 1000002) (tx := "keep") (q := 64) (by decide +kernel) (fun _ _ _ _ _ h => h.2.2.1.2.2.1) (by decide) rfl ?_
      obtain ⟨Q13, hm, h⟩ := h
      refine Z_callVi (M2 := mX11_isWord) (idx := 172) (d2 := d) (ci := 11) (As := [.ref _]) (q := 67) (by decide +kernel) kX11_isWord lX11_172 rfl rfl (by decide) rfl rfl (by decide +kernel) (Nat.le_of_ble_eq_true rfl) (Nat.le_refl _) hm rfl (fun v18 iv14 rv15 lv16 hq => ?_)
      obtain ⟨hT17, h⟩ := h v18 iv14 rv15 lv16 hq
      refine Z_if_eq (t := 77) (off := 10) (q := 70) (by decide +kernel) (by decide) rfl (fun hc => ?_) (fun hc => ?_)
      · replace h := h.1 hc
        refine Z_aload_n (a := 0) (q := 78) (by decide +kernel) rfl rfl ?_
        refine Z_ldcS (a := 1000004) (tx := "apart") (q := 80) (by decide +kernel) (fun _ _ _ _ _ h => h.2.2.1.2.2.2.2) (by decide) rfl ?_
        obtain ⟨Q19, hm, h⟩ := h
        refine Z_callVi (M2 := mX11_isWord) (idx := 172) (d2 := d) (ci := 11) (As := [.ref _]) (q := 83) (by decide +kernel) kX11_isWord lX11_172 rfl rfl (by decide) rfl rfl (by decide +kernel) (Nat.le_of_ble_eq_true rfl) (Nat.le_refl _) hm rfl (fun v24 iv20 rv21 lv22 hq => ?_)
        obtain ⟨hT23, h⟩ := h v24 iv20 rv21 lv22 hq
        refine Z_if_eq (t := 93) (off := 10) (q := 86) (by decide +kernel) (by decide) rfl (fun hc => ?_) (fun hc => ?_)
        · replace h := h.1 hc
          refine Z_aload_n (a := 0) (q := 94) (by decide +kernel) rfl rfl ?_
          refine Z_iconst (a := 1) (v := 1) (q := 95) (by decide +kernel) (by decide +kernel) rfl ?_
          obtain ⟨Q25, hm, h⟩ := h
          refine Z_callVv (M2 := mX11_flaw) (idx := 157) (d2 := d) (ci := 11) (As := [.int _]) (q := 98) (by decide +kernel) kX11_flaw lX11_157 rfl rfl (by decide) rfl rfl (by decide +kernel) (Nat.le_of_ble_eq_true rfl) (Nat.le_refl _) hm rfl (fun iv26 rv27 lv28 hq => ?_)
          obtain ⟨hT29, h⟩ := h iv26 rv27 lv28 hq
          exact Z_vret (by decide +kernel) rfl rfl ⟨rfl, h⟩
        · replace h := h.2 hc
          refine Z_aload_n (a := 0) (q := 87) (by decide +kernel) rfl rfl ?_
          obtain ⟨Q31, hm, h⟩ := h
          refine Z_callVv (M2 := mX11_readApart) (idx := 198) (d2 := d) (ci := 11) (As := []) (q := 90) (by decide +kernel) kX11_readApart lX11_198 rfl rfl (by decide) rfl rfl (by decide +kernel) (Nat.le_of_ble_eq_true rfl) (Nat.le_refl _) hm rfl (fun iv32 rv33 lv34 hq => ?_)
          obtain ⟨hT35, h⟩ := h iv32 rv33 lv34 hq
          refine Z_goto (q := 98) (off := 8) (by decide +kernel) (by decide) ?_
          exact Z_vret (by decide +kernel) rfl rfl ⟨rfl, h⟩
      · replace h := h.2 hc
        refine Z_aload_n (a := 0) (q := 71) (by decide +kernel) rfl rfl ?_
        obtain ⟨Q37, hm, h⟩ := h
        refine Z_callVv (M2 := mX11_readKeep) (idx := 193) (d2 := d) (ci := 11) (As := []) (q := 74) (by decide +kernel) kX11_readKeep lX11_193 rfl rfl (by decide) rfl rfl (by decide +kernel) (Nat.le_of_ble_eq_true rfl) (Nat.le_refl _) hm rfl (fun iv38 rv39 lv40 hq => ?_)
        obtain ⟨hT41, h⟩ := h iv38 rv39 lv40 hq
        refine Z_goto (q := 98) (off := 24) (by decide +kernel) (by decide) ?_
        exact Z_vret (by decide +kernel) rfl rfl ⟨rfl, h⟩
    · replace h := h.2 hc
      refine Z_aload_n (a := 0) (q := 26) (by decide +kernel) rfl rfl ?_
      refine g11_20 (idx := 187) (q := 29) (by decide +kernel) fX11_187 rfl (by decide) rfl ?_
      refine Z_if_eq (t := 37) (off := 8) (q := 32) (by decide +kernel) (by decide) rfl (fun hc => ?_) (fun hc => ?_)
      · replace h := h.1 hc
        exact h
      · replace h := h.2 hc
        refine Z_aload_n (a := 0) (q := 33) (by decide +kernel) rfl rfl ?_
        refine Z_iconst (a := 3) (v := 3) (q := 34) (by decide +kernel) (by decide +kernel) rfl ?_
        obtain ⟨Q43, hm, h⟩ := h
        refine Z_callVv (M2 := mX11_flaw) (idx := 157) (d2 := d) (ci := 11) (As := [.int _]) (q := 37) (by decide +kernel) kX11_flaw lX11_157 rfl rfl (by decide) rfl rfl (by decide +kernel) (Nat.le_of_ble_eq_true rfl) (Nat.le_refl _) hm rfl (fun iv44 rv45 lv46 hq => ?_)
        obtain ⟨hT47, h⟩ := h iv44 rv45 lv46 hq
        exact h
  · replace h := h.2 hc
    refine Z_aload_n (a := 0) (q := 10) (by decide +kernel) rfl rfl ?_
    obtain ⟨Q49, hm, h⟩ := h
    refine Z_callVv (M2 := mX11_readNumbers) (idx := 182) (d2 := d) (ci := 11) (As := []) (q := 13) (by decide +kernel) kX11_readNumbers lX11_182 rfl rfl (by decide) rfl rfl (by decide +kernel) (Nat.le_of_ble_eq_true rfl) (Nat.le_refl _) hm rfl (fun iv50 rv51 lv52 hq => ?_)
    obtain ⟨hT53, h⟩ := h iv50 rv51 lv52 hq
    refine Z_goto (q := 98) (off := 85) (by decide +kernel) (by decide) ?_
    exact Z_vret (by decide +kernel) rfl rfl ⟨rfl, h⟩
set_option maxRecDepth 4000 in
theorem bX11_readLine_37 {d : Nat}  {iv : zI} {rv : zR} {lv : zJ} {Q : zI → zR → zJ → Prop} (hT : zTop rv) 
    (h : ∀ iv1 : zI, iv1 = zu iv 174 20 (1 : Int32) → ∃ Q2 : zI → zR → zJ → Prop, Cv mX11_goOn d [.ref 174] iv1 rv lv Q2 ∧ ∀ (iv3 : zI) (rv4 : zR) (lv5 : zJ), Q2 iv3 rv4 lv5 → zTop rv4 ∧ (∃ Q8 : Int32 → zI → zR → zJ → Prop, Ci mX11_whole d [.ref 174, .int (2 : Int32), .int (4 : Int32)] iv3 rv4 lv5 Q8 ∧ ∀ (v13 : Int32) (iv9 : zI) (rv10 : zR) (lv11 : zJ), Q8 v13 iv9 rv10 lv11 → zTop rv10 ∧ (∀ iv14 : zI, iv14 = zu iv9 177 1 v13 → Q iv14 rv10 lv11))) :
    Zv mX11_readLine (d + 1) 37 [some (.ref 174)] [] iv rv lv Q := by
  unfold Zv
  refine Z_aload_n (a := 0) (q := 38) (by decide +kernel) rfl rfl ?_
  refine Z_iconst (a := 1) (v := 1) (q := 39) (by decide +kernel) (by decide +kernel) rfl ?_
  refine p11_20 (idx := 187) (q := 42) (by decide +kernel) fX11_187 rfl (by decide) (by decide) rfl ?_
  replace h := h _ rfl
  refine Z_aload_n (a := 0) (q := 43) (by decide +kernel) rfl rfl ?_
  obtain ⟨Q2, hm, h⟩ := h
  refine Z_callVv (M2 := mX11_goOn) (idx := 161) (d2 := d) (ci := 11) (As := []) (q := 46) (by decide +kernel) kX11_goOn lX11_161 rfl rfl (by decide) rfl rfl (by decide +kernel) (Nat.le_of_ble_eq_true rfl) (Nat.le_refl _) hm rfl (fun iv3 rv4 lv5 hq => ?_)
  obtain ⟨hT6, h⟩ := h iv3 rv4 lv5 hq
  refine Z_aload_n (a := 0) (q := 47) (by decide +kernel) rfl rfl ?_
  refine g11_15 (idx := 20) (q := 50) (by decide +kernel) fX11_20 rfl (by decide) (t11_15 hT6) rfl ?_
  refine Z_iconst (a := 1) (v := 1) (q := 51) (by decide +kernel) (by decide +kernel) rfl ?_
  refine Z_aload_n (a := 0) (q := 52) (by decide +kernel) rfl rfl ?_
  refine Z_iconst (a := 2) (v := 2) (q := 53) (by decide +kernel) (by decide +kernel) rfl ?_
  refine Z_iconst (a := 4) (v := 4) (q := 54) (by decide +kernel) (by decide +kernel) rfl ?_
  obtain ⟨Q8, hm, h⟩ := h
  refine Z_callVi (M2 := mX11_whole) (idx := 164) (d2 := d) (ci := 11) (As := [.int _, .int _]) (q := 57) (by decide +kernel) kX11_whole lX11_164 rfl rfl (by decide) rfl rfl (by decide +kernel) (Nat.le_of_ble_eq_true rfl) (Nat.le_refl _) hm rfl (fun v13 iv9 rv10 lv11 hq => ?_)
  obtain ⟨hT12, h⟩ := h v13 iv9 rv10 lv11 hq
  refine Z_iast (len := 35) (q := 58) (by decide +kernel) rfl (by decide) (by unfold vp_in; decide) rfl ?_
  replace h := h _ rfl
  refine Z_goto (q := 98) (off := 40) (by decide +kernel) (by decide) ?_
  exact Z_vret (by decide +kernel) rfl rfl ⟨rfl, h⟩
theorem eX11_text {d : Nat} (x1 : Int32) {iv : zI} {rv : zR} {lv : zJ} {Q : Int32 → zI → zR → zJ → Prop} (h : Zi mX11_text (d + 1) 0 [some (.ref 174), some (.int x1), none] [] iv rv lv Q) : Ci mX11_text (d + 1) [.ref 174, .int x1] iv rv lv Q := Ci.of (by decide +kernel) (by simp [Value.category]) (Nat.le_of_ble_eq_true rfl) rfl h
set_option maxRecDepth 4000 in
theorem bX11_text_0 {d : Nat} (x1 : Int32) {iv : zI} {rv : zR} {lv : zJ} {Q : Int32 → zI → zR → zJ → Prop} (hT : zTop rv) 
    (h : ∀ iv1 : zI, iv1 = zu iv 174 0 (0 : Int32) → ∃ Q2 : Int32 → zI → zR → zJ → Prop, Ci mX11_in d [.int x1, .int (0 : Int32), .int (iv1 174 4)] iv1 rv lv Q2 ∧ ∀ (v7 : Int32) (iv3 : zI) (rv4 : zR) (lv5 : zJ), Q2 v7 iv3 rv4 lv5 → zTop rv4 ∧ ((¬ v7 = 0 → ∀ iv8 : zI, iv8 = zu iv3 174 5 x1 → ∀ iv9 : zI, iv9 = zu iv8 174 4 (0 : Int32) → ∀ iv10 : zI, iv10 = zu iv9 174 6 (0 : Int32) → ∀ iv11 : zI, iv11 = zu iv10 174 7 (0 : Int32) → ∀ iv12 : zI, iv12 = zu iv11 174 20 (0 : Int32) → Zi mX11_text (d + 1) 50 [some (.ref 174), some (.int x1), some (.int (0 : Int32))] [] iv12 rv4 lv5 Q) ∧ (v7 = 0 → ∃ Q13 : Int32 → zI → zR → zJ → Prop, Ci mX11_refused d [.ref 174, .int (2 : Int32)] iv3 rv4 lv5 Q13 ∧ ∀ (v18 : Int32) (iv14 : zI) (rv15 : zR) (lv16 : zJ), Q13 v18 iv14 rv15 lv16 → zTop rv15 ∧ (Q v18 iv14 rv15 lv16)))) :
    Zi mX11_text (d + 1) 0 [some (.ref 174), some (.int x1), none] [] iv rv lv Q := by
  unfold Zi
  refine Z_aload_n (a := 0) (q := 1) (by decide +kernel) rfl rfl ?_
  refine Z_iconst (a := 0) (v := 0) (q := 2) (by decide +kernel) (by decide +kernel) rfl ?_
  refine p11_0 (idx := 87) (q := 5) (by decide +kernel) fX11_87 rfl (by decide) rfl ?_
  replace h := h _ rfl
  refine Z_iload_n (a := 1) (q := 6) (by decide +kernel) rfl rfl ?_
  refine Z_iconst (a := 0) (v := 0) (q := 7) (by decide +kernel) (by decide +kernel) rfl ?_
  refine Z_aload_n (a := 0) (q := 8) (by decide +kernel) rfl rfl ?_
  refine g11_4 (idx := 97) (q := 11) (by decide +kernel) fX11_97 rfl (by decide) rfl ?_
  obtain ⟨Q2, hm, h⟩ := h
  refine Z_callSi (M2 := mX11_in) (idx := 112) (d2 := d) (As := [.int _, .int _, .int _]) (q := 14) (by decide +kernel) kX11_in lX11_112 rfl rfl (by decide +kernel) (Nat.le_of_ble_eq_true rfl) (Nat.le_refl _) hm rfl (fun v7 iv3 rv4 lv5 hq => ?_)
  obtain ⟨hT6, h⟩ := h v7 iv3 rv4 lv5 hq
  refine Z_if_ne (t := 23) (off := 9) (q := 17) (by decide +kernel) (by decide) rfl (fun hc => ?_) (fun hc => ?_)
  · replace h := h.1 hc
    refine Z_aload_n (a := 0) (q := 24) (by decide +kernel) rfl rfl ?_
    refine Z_iload_n (a := 1) (q := 25) (by decide +kernel) rfl rfl ?_
    refine p11_5 (idx := 109) (q := 28) (by decide +kernel) fX11_109 rfl (by decide) rfl ?_
    replace h := h _ rfl
    refine Z_aload_n (a := 0) (q := 29) (by decide +kernel) rfl rfl ?_
    refine Z_iconst (a := 0) (v := 0) (q := 30) (by decide +kernel) (by decide +kernel) rfl ?_
    refine p11_4 (idx := 97) (q := 33) (by decide +kernel) fX11_97 rfl (by decide) rfl ?_
    replace h := h _ rfl
    refine Z_aload_n (a := 0) (q := 34) (by decide +kernel) rfl rfl ?_
    refine Z_iconst (a := 0) (v := 0) (q := 35) (by decide +kernel) (by decide +kernel) rfl ?_
    refine p11_6 (idx := 116) (q := 38) (by decide +kernel) fX11_116 rfl (by decide) rfl ?_
    replace h := h _ rfl
    refine Z_aload_n (a := 0) (q := 39) (by decide +kernel) rfl rfl ?_
    refine Z_iconst (a := 0) (v := 0) (q := 40) (by decide +kernel) (by decide +kernel) rfl ?_
    refine p11_7 (idx := 100) (q := 43) (by decide +kernel) fX11_100 rfl (by decide) rfl ?_
    replace h := h _ rfl
    refine Z_aload_n (a := 0) (q := 44) (by decide +kernel) rfl rfl ?_
    refine Z_iconst (a := 0) (v := 0) (q := 45) (by decide +kernel) (by decide +kernel) rfl ?_
    refine p11_20 (idx := 187) (q := 48) (by decide +kernel) fX11_187 rfl (by decide) (by decide) rfl ?_
    replace h := h _ rfl
    refine Z_iconst (a := 0) (v := 0) (q := 49) (by decide +kernel) (by decide +kernel) rfl ?_
    refine Z_istore_n (a := 2) (loc2 := [_, _, _]) (q := 50) (by decide +kernel) (by decide +kernel) rfl rfl rfl ?_
    exact h
  · replace h := h.2 hc
    refine Z_aload_n (a := 0) (q := 18) (by decide +kernel) rfl rfl ?_
    refine Z_iconst (a := 2) (v := 2) (q := 19) (by decide +kernel) (by decide +kernel) rfl ?_
    obtain ⟨Q13, hm, h⟩ := h
    refine Z_callVi (M2 := mX11_refused) (idx := 201) (d2 := d) (ci := 11) (As := [.int _]) (q := 22) (by decide +kernel) kX11_refused lX11_201 rfl rfl (by decide) rfl rfl (by decide +kernel) (Nat.le_of_ble_eq_true rfl) (Nat.le_refl _) hm rfl (fun v18 iv14 rv15 lv16 hq => ?_)
    obtain ⟨hT17, h⟩ := h v18 iv14 rv15 lv16 hq
    exact Z_iret (ty := .int) (by decide +kernel) rfl rfl rfl ⟨_, rfl, h⟩
set_option maxRecDepth 4000 in
theorem bX11_text_50 {d : Nat} (x1 : Int32) (x2 : Int32) {iv : zI} {rv : zR} {lv : zJ} {Q : Int32 → zI → zR → zJ → Prop} (hT : zTop rv) 
    (h : ((35 : Int32) ≤ x2 → ∀ iv1 : zI, iv1 = zu iv 177 1 (2 : Int32) → ∃ Q2 : zI → zR → zJ → Prop, Cv mX11_goOn d [.ref 174] iv1 rv lv Q2 ∧ ∀ (iv3 : zI) (rv4 : zR) (lv5 : zJ), Q2 iv3 rv4 lv5 → zTop rv4 ∧ (∃ Q8 : zI → zR → zJ → Prop, Cv mX11_readLine d [.ref 174] iv3 rv4 lv5 Q8 ∧ ∀ (iv9 : zI) (rv10 : zR) (lv11 : zJ), Q8 iv9 rv10 lv11 → zTop rv10 ∧ (Zi mX11_text (d + 1) 84 [some (.ref 174), some (.int x1), some (.int x2)] [] iv9 rv10 lv11 Q))) ∧ (¬ (35 : Int32) ≤ x2 → vp_in x2 35 ∧ (∀ iv15 : zI, iv15 = zu iv 177 x2.toNatClampNeg (0 : Int32) → Zi mX11_text (d + 1) 50 [some (.ref 174), some (.int x1), some (.int (x2 + 1))] [] iv15 rv lv Q))) :
    Zi mX11_text (d + 1) 50 [some (.ref 174), some (.int x1), some (.int x2)] [] iv rv lv Q := by
  unfold Zi
  refine Z_iload_n (a := 2) (q := 51) (by decide +kernel) rfl rfl ?_
  refine Z_bipush (a := 35) (v := 35) (q := 53) (by decide +kernel) (by decide +kernel) rfl ?_
  refine Z_icmp_ge (t := 69) (off := 16) (q := 56) (by decide +kernel) (by decide) rfl (fun hc => ?_) (fun hc => ?_)
  · replace h := h.1 hc
    refine Z_aload_n (a := 0) (q := 70) (by decide +kernel) rfl rfl ?_
    refine g11_15 (idx := 20) (q := 73) (by decide +kernel) fX11_20 rfl (by decide) (t11_15 hT) rfl ?_
    refine Z_iconst (a := 1) (v := 1) (q := 74) (by decide +kernel) (by decide +kernel) rfl ?_
    refine Z_iconst (a := 2) (v := 2) (q := 75) (by decide +kernel) (by decide +kernel) rfl ?_
    refine Z_iast (len := 35) (q := 76) (by decide +kernel) rfl (by decide) (by unfold vp_in; decide) rfl ?_
    replace h := h _ rfl
    refine Z_aload_n (a := 0) (q := 77) (by decide +kernel) rfl rfl ?_
    obtain ⟨Q2, hm, h⟩ := h
    refine Z_callVv (M2 := mX11_goOn) (idx := 161) (d2 := d) (ci := 11) (As := []) (q := 80) (by decide +kernel) kX11_goOn lX11_161 rfl rfl (by decide) rfl rfl (by decide +kernel) (Nat.le_of_ble_eq_true rfl) (Nat.le_refl _) hm rfl (fun iv3 rv4 lv5 hq => ?_)
    obtain ⟨hT6, h⟩ := h iv3 rv4 lv5 hq
    refine Z_aload_n (a := 0) (q := 81) (by decide +kernel) rfl rfl ?_
    obtain ⟨Q8, hm, h⟩ := h
    refine Z_callVv (M2 := mX11_readLine) (idx := 205) (d2 := d) (ci := 11) (As := []) (q := 84) (by decide +kernel) kX11_readLine lX11_205 rfl rfl (by decide) rfl rfl (by decide +kernel) (Nat.le_of_ble_eq_true rfl) (Nat.le_refl _) hm rfl (fun iv9 rv10 lv11 hq => ?_)
    obtain ⟨hT12, h⟩ := h iv9 rv10 lv11 hq
    exact h
  · replace h := h.2 hc
    refine Z_aload_n (a := 0) (q := 57) (by decide +kernel) rfl rfl ?_
    refine g11_15 (idx := 20) (q := 60) (by decide +kernel) fX11_20 rfl (by decide) (t11_15 hT) rfl ?_
    refine Z_iload_n (a := 2) (q := 61) (by decide +kernel) rfl rfl ?_
    refine Z_iconst (a := 0) (v := 0) (q := 62) (by decide +kernel) (by decide +kernel) rfl ?_
    obtain ⟨hin14, h⟩ := h
    refine Z_iast (len := 35) (q := 63) (by decide +kernel) rfl (by decide) hin14 rfl ?_
    replace h := h _ rfl
    refine Z_iinc (a := 2) (b := 1) (v := _ + 1) (loc2 := [_, _, _]) (q := 66) (by decide +kernel) rfl (zinc _) (by decide +kernel) rfl rfl rfl ?_
    refine Z_goto (q := 50) (off := -16) (by decide +kernel) (by decide) ?_
    exact h
set_option maxRecDepth 4000 in
theorem bX11_text_84 {d : Nat} (x1 : Int32) (x2 : Int32) {iv : zI} {rv : zR} {lv : zJ} {Q : Int32 → zI → zR → zJ → Prop} (hT : zTop rv) 
    (h : ∃ Q1 : Int32 → zI → zR → zJ → Prop, Ci mX11_isSign d [.ref 174, .int (59 : Int32)] iv rv lv Q1 ∧ ∀ (v6 : Int32) (iv2 : zI) (rv3 : zR) (lv4 : zJ), Q1 v6 iv2 rv3 lv4 → zTop rv3 ∧ ((v6 = 0 → (¬ (iv2 174 7) = 0 → (¬ (iv2 174 7) = 0 → Zi mX11_text (d + 1) 145 [some (.ref 174), some (.int x1), some (.int x2)] [] iv2 rv3 lv4 Q) ∧ ((iv2 174 7) = 0 → (¬ (iv2 177 0) = 0 → Zi mX11_text (d + 1) 145 [some (.ref 174), some (.int x1), some (.int x2)] [] iv2 rv3 lv4 Q) ∧ ((iv2 177 0) = 0 → ∃ Q7 : zI → zR → zJ → Prop, Cv mX11_flaw d [.ref 174, .int (5 : Int32)] iv2 rv3 lv4 Q7 ∧ ∀ (iv8 : zI) (rv9 : zR) (lv10 : zJ), Q7 iv8 rv9 lv10 → zTop rv9 ∧ (Zi mX11_text (d + 1) 145 [some (.ref 174), some (.int x1), some (.int x2)] [] iv8 rv9 lv10 Q)))) ∧ ((iv2 174 7) = 0 → ((iv2 174 9) = (1 : Int32) → (¬ (iv2 174 7) = 0 → Zi mX11_text (d + 1) 145 [some (.ref 174), some (.int x1), some (.int x2)] [] iv2 rv3 lv4 Q) ∧ ((iv2 174 7) = 0 → (¬ (iv2 177 0) = 0 → Zi mX11_text (d + 1) 145 [some (.ref 174), some (.int x1), some (.int x2)] [] iv2 rv3 lv4 Q) ∧ ((iv2 177 0) = 0 → ∃ Q13 : zI → zR → zJ → Prop, Cv mX11_flaw d [.ref 174, .int (5 : Int32)] iv2 rv3 lv4 Q13 ∧ ∀ (iv14 : zI) (rv15 : zR) (lv16 : zJ), Q13 iv14 rv15 lv16 → zTop rv15 ∧ (Zi mX11_text (d + 1) 145 [some (.ref 174), some (.int x1), some (.int x2)] [] iv14 rv15 lv16 Q)))) ∧ (¬ (iv2 174 9) = (1 : Int32) → ∃ Q19 : zI → zR → zJ → Prop, Cv mX11_flaw d [.ref 174, .int (1 : Int32)] iv2 rv3 lv4 Q19 ∧ ∀ (iv20 : zI) (rv21 : zR) (lv22 : zJ), Q19 iv20 rv21 lv22 → zTop rv21 ∧ ((¬ (iv20 174 7) = 0 → Zi mX11_text (d + 1) 145 [some (.ref 174), some (.int x1), some (.int x2)] [] iv20 rv21 lv22 Q) ∧ ((iv20 174 7) = 0 → (¬ (iv20 177 0) = 0 → Zi mX11_text (d + 1) 145 [some (.ref 174), some (.int x1), some (.int x2)] [] iv20 rv21 lv22 Q) ∧ ((iv20 177 0) = 0 → ∃ Q25 : zI → zR → zJ → Prop, Cv mX11_flaw d [.ref 174, .int (5 : Int32)] iv20 rv21 lv22 Q25 ∧ ∀ (iv26 : zI) (rv27 : zR) (lv28 : zJ), Q25 iv26 rv27 lv28 → zTop rv27 ∧ (Zi mX11_text (d + 1) 145 [some (.ref 174), some (.int x1), some (.int x2)] [] iv26 rv27 lv28 Q))))))) ∧ (¬ v6 = 0 → ∃ Q31 : zI → zR → zJ → Prop, Cv mX11_goOn d [.ref 174] iv2 rv3 lv4 Q31 ∧ ∀ (iv32 : zI) (rv33 : zR) (lv34 : zJ), Q31 iv32 rv33 lv34 → zTop rv33 ∧ (∃ Q37 : zI → zR → zJ → Prop, Cv mX11_readLine d [.ref 174] iv32 rv33 lv34 Q37 ∧ ∀ (iv38 : zI) (rv39 : zR) (lv40 : zJ), Q37 iv38 rv39 lv40 → zTop rv39 ∧ (Zi mX11_text (d + 1) 84 [some (.ref 174), some (.int x1), some (.int x2)] [] iv38 rv39 lv40 Q))))) :
    Zi mX11_text (d + 1) 84 [some (.ref 174), some (.int x1), some (.int x2)] [] iv rv lv Q := by
  unfold Zi
  refine Z_aload_n (a := 0) (q := 85) (by decide +kernel) rfl rfl ?_
  refine Z_bipush (a := 59) (v := 59) (q := 87) (by decide +kernel) (by decide +kernel) rfl ?_
  obtain ⟨Q1, hm, h⟩ := h
  refine Z_callVi (M2 := mX11_isSign) (idx := 168) (d2 := d) (ci := 11) (As := [.int _]) (q := 90) (by decide +kernel) kX11_isSign lX11_168 rfl rfl (by decide) rfl rfl (by decide +kernel) (Nat.le_of_ble_eq_true rfl) (Nat.le_refl _) hm rfl (fun v6 iv2 rv3 lv4 hq => ?_)
  obtain ⟨hT5, h⟩ := h v6 iv2 rv3 lv4 hq
  refine Z_if_eq (t := 104) (off := 14) (q := 93) (by decide +kernel) (by decide) rfl (fun hc => ?_) (fun hc => ?_)
  · replace h := h.1 hc
    refine Z_aload_n (a := 0) (q := 105) (by decide +kernel) rfl rfl ?_
    refine g11_7 (idx := 100) (q := 108) (by decide +kernel) fX11_100 rfl (by decide) rfl ?_
    refine Z_if_ne (t := 124) (off := 16) (q := 111) (by decide +kernel) (by decide) rfl (fun hc => ?_) (fun hc => ?_)
    · replace h := h.1 hc
      refine Z_aload_n (a := 0) (q := 125) (by decide +kernel) rfl rfl ?_
      refine g11_7 (idx := 100) (q := 128) (by decide +kernel) fX11_100 rfl (by decide) rfl ?_
      refine Z_if_ne (t := 145) (off := 17) (q := 131) (by decide +kernel) (by decide) rfl (fun hc => ?_) (fun hc => ?_)
      · replace h := h.1 hc
        exact h
      · replace h := h.2 hc
        refine Z_aload_n (a := 0) (q := 132) (by decide +kernel) rfl rfl ?_
        refine g11_15 (idx := 20) (q := 135) (by decide +kernel) fX11_20 rfl (by decide) (t11_15 hT5) rfl ?_
        refine Z_iconst (a := 0) (v := 0) (q := 136) (by decide +kernel) (by decide +kernel) rfl ?_
        refine Z_iald (len := 35) (q := 137) (by decide +kernel) rfl (by decide) (by unfold vp_in; decide) rfl ?_
        refine Z_if_ne (t := 145) (off := 8) (q := 140) (by decide +kernel) (by decide) rfl (fun hc => ?_) (fun hc => ?_)
        · replace h := h.1 hc
          exact h
        · replace h := h.2 hc
          refine Z_aload_n (a := 0) (q := 141) (by decide +kernel) rfl rfl ?_
          refine Z_iconst (a := 5) (v := 5) (q := 142) (by decide +kernel) (by decide +kernel) rfl ?_
          obtain ⟨Q7, hm, h⟩ := h
          refine Z_callVv (M2 := mX11_flaw) (idx := 157) (d2 := d) (ci := 11) (As := [.int _]) (q := 145) (by decide +kernel) kX11_flaw lX11_157 rfl rfl (by decide) rfl rfl (by decide +kernel) (Nat.le_of_ble_eq_true rfl) (Nat.le_refl _) hm rfl (fun iv8 rv9 lv10 hq => ?_)
          obtain ⟨hT11, h⟩ := h iv8 rv9 lv10 hq
          exact h
    · replace h := h.2 hc
      refine Z_aload_n (a := 0) (q := 112) (by decide +kernel) rfl rfl ?_
      refine g11_9 (idx := 119) (q := 115) (by decide +kernel) fX11_119 rfl (by decide) rfl ?_
      refine Z_iconst (a := 1) (v := 1) (q := 116) (by decide +kernel) (by decide +kernel) rfl ?_
      refine Z_icmp_eq (t := 124) (off := 8) (q := 119) (by decide +kernel) (by decide) rfl (fun hc => ?_) (fun hc => ?_)
      · replace h := h.1 hc
        refine Z_aload_n (a := 0) (q := 125) (by decide +kernel) rfl rfl ?_
        refine g11_7 (idx := 100) (q := 128) (by decide +kernel) fX11_100 rfl (by decide) rfl ?_
        refine Z_if_ne (t := 145) (off := 17) (q := 131) (by decide +kernel) (by decide) rfl (fun hc => ?_) (fun hc => ?_)
        · replace h := h.1 hc
          exact h
        · replace h := h.2 hc
          refine Z_aload_n (a := 0) (q := 132) (by decide +kernel) rfl rfl ?_
          refine g11_15 (idx := 20) (q := 135) (by decide +kernel) fX11_20 rfl (by decide) (t11_15 hT5) rfl ?_
          refine Z_iconst (a := 0) (v := 0) (q := 136) (by decide +kernel) (by decide +kernel) rfl ?_
          refine Z_iald (len := 35) (q := 137) (by decide +kernel) rfl (by decide) (by unfold vp_in; decide) rfl ?_
          refine Z_if_ne (t := 145) (off := 8) (q := 140) (by decide +kernel) (by decide) rfl (fun hc => ?_) (fun hc => ?_)
          · replace h := h.1 hc
            exact h
          · replace h := h.2 hc
            refine Z_aload_n (a := 0) (q := 141) (by decide +kernel) rfl rfl ?_
            refine Z_iconst (a := 5) (v := 5) (q := 142) (by decide +kernel) (by decide +kernel) rfl ?_
            obtain ⟨Q13, hm, h⟩ := h
            refine Z_callVv (M2 := mX11_flaw) (idx := 157) (d2 := d) (ci := 11) (As := [.int _]) (q := 145) (by decide +kernel) kX11_flaw lX11_157 rfl rfl (by decide) rfl rfl (by decide +kernel) (Nat.le_of_ble_eq_true rfl) (Nat.le_refl _) hm rfl (fun iv14 rv15 lv16 hq => ?_)
            obtain ⟨hT17, h⟩ := h iv14 rv15 lv16 hq
            exact h
      · replace h := h.2 hc
        refine Z_aload_n (a := 0) (q := 120) (by decide +kernel) rfl rfl ?_
        refine Z_iconst (a := 1) (v := 1) (q := 121) (by decide +kernel) (by decide +kernel) rfl ?_
        obtain ⟨Q19, hm, h⟩ := h
        refine Z_callVv (M2 := mX11_flaw) (idx := 157) (d2 := d) (ci := 11) (As := [.int _]) (q := 124) (by decide +kernel) kX11_flaw lX11_157 rfl rfl (by decide) rfl rfl (by decide +kernel) (Nat.le_of_ble_eq_true rfl) (Nat.le_refl _) hm rfl (fun iv20 rv21 lv22 hq => ?_)
        obtain ⟨hT23, h⟩ := h iv20 rv21 lv22 hq
        refine Z_aload_n (a := 0) (q := 125) (by decide +kernel) rfl rfl ?_
        refine g11_7 (idx := 100) (q := 128) (by decide +kernel) fX11_100 rfl (by decide) rfl ?_
        refine Z_if_ne (t := 145) (off := 17) (q := 131) (by decide +kernel) (by decide) rfl (fun hc => ?_) (fun hc => ?_)
        · replace h := h.1 hc
          exact h
        · replace h := h.2 hc
          refine Z_aload_n (a := 0) (q := 132) (by decide +kernel) rfl rfl ?_
          refine g11_15 (idx := 20) (q := 135) (by decide +kernel) fX11_20 rfl (by decide) (t11_15 hT23) rfl ?_
          refine Z_iconst (a := 0) (v := 0) (q := 136) (by decide +kernel) (by decide +kernel) rfl ?_
          refine Z_iald (len := 35) (q := 137) (by decide +kernel) rfl (by decide) (by unfold vp_in; decide) rfl ?_
          refine Z_if_ne (t := 145) (off := 8) (q := 140) (by decide +kernel) (by decide) rfl (fun hc => ?_) (fun hc => ?_)
          · replace h := h.1 hc
            exact h
          · replace h := h.2 hc
            refine Z_aload_n (a := 0) (q := 141) (by decide +kernel) rfl rfl ?_
            refine Z_iconst (a := 5) (v := 5) (q := 142) (by decide +kernel) (by decide +kernel) rfl ?_
            obtain ⟨Q25, hm, h⟩ := h
            refine Z_callVv (M2 := mX11_flaw) (idx := 157) (d2 := d) (ci := 11) (As := [.int _]) (q := 145) (by decide +kernel) kX11_flaw lX11_157 rfl rfl (by decide) rfl rfl (by decide +kernel) (Nat.le_of_ble_eq_true rfl) (Nat.le_refl _) hm rfl (fun iv26 rv27 lv28 hq => ?_)
            obtain ⟨hT29, h⟩ := h iv26 rv27 lv28 hq
            exact h
  · replace h := h.2 hc
    refine Z_aload_n (a := 0) (q := 94) (by decide +kernel) rfl rfl ?_
    obtain ⟨Q31, hm, h⟩ := h
    refine Z_callVv (M2 := mX11_goOn) (idx := 161) (d2 := d) (ci := 11) (As := []) (q := 97) (by decide +kernel) kX11_goOn lX11_161 rfl rfl (by decide) rfl rfl (by decide +kernel) (Nat.le_of_ble_eq_true rfl) (Nat.le_refl _) hm rfl (fun iv32 rv33 lv34 hq => ?_)
    obtain ⟨hT35, h⟩ := h iv32 rv33 lv34 hq
    refine Z_aload_n (a := 0) (q := 98) (by decide +kernel) rfl rfl ?_
    obtain ⟨Q37, hm, h⟩ := h
    refine Z_callVv (M2 := mX11_readLine) (idx := 205) (d2 := d) (ci := 11) (As := []) (q := 101) (by decide +kernel) kX11_readLine lX11_205 rfl rfl (by decide) rfl rfl (by decide +kernel) (Nat.le_of_ble_eq_true rfl) (Nat.le_refl _) hm rfl (fun iv38 rv39 lv40 hq => ?_)
    obtain ⟨hT41, h⟩ := h iv38 rv39 lv40 hq
    refine Z_goto (q := 84) (off := -17) (by decide +kernel) (by decide) ?_
    exact h
set_option maxRecDepth 4000 in
theorem bX11_text_145 {d : Nat} (x1 : Int32) (x2 : Int32) {iv : zI} {rv : zR} {lv : zJ} {Q : Int32 → zI → zR → zJ → Prop} (hT : zTop rv) 
    (h : ((iv 174 7) ≤ 0 → Zi mX11_text (d + 1) 169 [some (.ref 174), some (.int x1), some (.int (0 : Int32))] [] iv rv lv Q) ∧ (¬ (iv 174 7) ≤ 0 → ∀ iv1 : zI, iv1 = zu iv 174 1 (4 : Int32) → ∀ iv2 : zI, iv2 = zu iv1 174 2 (iv1 174 8) → Q (-1 : Int32) iv2 rv lv)) :
    Zi mX11_text (d + 1) 145 [some (.ref 174), some (.int x1), some (.int x2)] [] iv rv lv Q := by
  unfold Zi
  refine Z_aload_n (a := 0) (q := 146) (by decide +kernel) rfl rfl ?_
  refine g11_7 (idx := 100) (q := 149) (by decide +kernel) fX11_100 rfl (by decide) rfl ?_
  refine Z_if_le (t := 167) (off := 18) (q := 152) (by decide +kernel) (by decide) rfl (fun hc => ?_) (fun hc => ?_)
  · replace h := h.1 hc
    refine Z_iconst (a := 0) (v := 0) (q := 168) (by decide +kernel) (by decide +kernel) rfl ?_
    refine Z_istore_n (a := 2) (loc2 := [_, _, _]) (q := 169) (by decide +kernel) (by decide +kernel) rfl rfl rfl ?_
    exact h
  · replace h := h.2 hc
    refine Z_aload_n (a := 0) (q := 153) (by decide +kernel) rfl rfl ?_
    refine Z_iconst (a := 4) (v := 4) (q := 154) (by decide +kernel) (by decide +kernel) rfl ?_
    refine p11_1 (idx := 90) (q := 157) (by decide +kernel) fX11_90 rfl (by decide) rfl ?_
    replace h := h _ rfl
    refine Z_aload_n (a := 0) (q := 158) (by decide +kernel) rfl rfl ?_
    refine Z_aload_n (a := 0) (q := 159) (by decide +kernel) rfl rfl ?_
    refine g11_8 (idx := 106) (q := 162) (by decide +kernel) fX11_106 rfl (by decide) rfl ?_
    refine p11_2 (idx := 9) (q := 165) (by decide +kernel) fX11_9 rfl (by decide) rfl ?_
    replace h := h _ rfl
    refine Z_iconst (a := -1) (v := -1) (q := 166) (by decide +kernel) (by decide +kernel) rfl ?_
    exact Z_iret (ty := .int) (by decide +kernel) rfl rfl rfl ⟨_, rfl, h⟩
set_option maxRecDepth 4000 in
theorem bX11_text_169 {d : Nat} (x1 : Int32) (x2 : Int32) {iv : zI} {rv : zR} {lv : zJ} {Q : Int32 → zI → zR → zJ → Prop} (hT : zTop rv) 
    (h : ((35 : Int32) ≤ x2 → ∀ iv1 : zI, iv1 = zu iv 174 21 (0 : Int32) → ∀ iv2 : zI, iv2 = zu iv1 174 19 (1 : Int32) → ∀ iv3 : zI, iv3 = zu iv2 180 0 (vp_nar .boolean (0 : Int32)) → ∀ iv4 : zI, iv4 = zu iv3 180 1 (vp_nar .boolean (0 : Int32)) → ∃ Q5 : Int32 → zI → zR → zJ → Prop, Ci mX11_good d [.ref 174, .int (iv4 176 0)] iv4 rv lv Q5 ∧ ∀ (v10 : Int32) (iv6 : zI) (rv7 : zR) (lv8 : zJ), Q5 v10 iv6 rv7 lv8 → zTop rv7 ∧ (Q v10 iv6 rv7 lv8)) ∧ (¬ (35 : Int32) ≤ x2 → vp_in x2 35 ∧ (∀ iv12 : zI, iv12 = zu iv 176 x2.toNatClampNeg (iv 177 x2.toNatClampNeg) → Zi mX11_text (d + 1) 169 [some (.ref 174), some (.int x1), some (.int (x2 + 1))] [] iv12 rv lv Q))) :
    Zi mX11_text (d + 1) 169 [some (.ref 174), some (.int x1), some (.int x2)] [] iv rv lv Q := by
  unfold Zi
  refine Z_iload_n (a := 2) (q := 170) (by decide +kernel) rfl rfl ?_
  refine Z_bipush (a := 35) (v := 35) (q := 172) (by decide +kernel) (by decide +kernel) rfl ?_
  refine Z_icmp_ge (t := 193) (off := 21) (q := 175) (by decide +kernel) (by decide) rfl (fun hc => ?_) (fun hc => ?_)
  · replace h := h.1 hc
    refine Z_aload_n (a := 0) (q := 194) (by decide +kernel) rfl rfl ?_
    refine Z_iconst (a := 0) (v := 0) (q := 195) (by decide +kernel) (by decide +kernel) rfl ?_
    refine p11_21 (idx := 208) (q := 198) (by decide +kernel) fX11_208 rfl (by decide) rfl ?_
    replace h := h _ rfl
    refine Z_aload_n (a := 0) (q := 199) (by decide +kernel) rfl rfl ?_
    refine Z_iconst (a := 1) (v := 1) (q := 200) (by decide +kernel) (by decide +kernel) rfl ?_
    refine p11_19 (idx := 211) (q := 203) (by decide +kernel) fX11_211 rfl (by decide) (by decide) rfl ?_
    replace h := h _ rfl
    refine Z_aload_n (a := 0) (q := 204) (by decide +kernel) rfl rfl ?_
    refine g11_18 (idx := 29) (q := 207) (by decide +kernel) fX11_29 rfl (by decide) (t11_18 hT) rfl ?_
    refine Z_iconst (a := 0) (v := 0) (q := 208) (by decide +kernel) (by decide +kernel) rfl ?_
    refine Z_iconst (a := 0) (v := 0) (q := 209) (by decide +kernel) (by decide +kernel) rfl ?_
    refine Z_zast (len := 2) (q := 210) (by decide +kernel) rfl (by decide) (by unfold vp_in; decide) rfl ?_
    replace h := h _ rfl
    refine Z_aload_n (a := 0) (q := 211) (by decide +kernel) rfl rfl ?_
    refine g11_18 (idx := 29) (q := 214) (by decide +kernel) fX11_29 rfl (by decide) (t11_18 hT) rfl ?_
    refine Z_iconst (a := 1) (v := 1) (q := 215) (by decide +kernel) (by decide +kernel) rfl ?_
    refine Z_iconst (a := 0) (v := 0) (q := 216) (by decide +kernel) (by decide +kernel) rfl ?_
    refine Z_zast (len := 2) (q := 217) (by decide +kernel) rfl (by decide) (by unfold vp_in; decide) rfl ?_
    replace h := h _ rfl
    refine Z_aload_n (a := 0) (q := 218) (by decide +kernel) rfl rfl ?_
    refine Z_aload_n (a := 0) (q := 219) (by decide +kernel) rfl rfl ?_
    refine g11_14 (idx := 17) (q := 222) (by decide +kernel) fX11_17 rfl (by decide) (t11_14 hT) rfl ?_
    refine Z_iconst (a := 0) (v := 0) (q := 223) (by decide +kernel) (by decide +kernel) rfl ?_
    refine Z_iald (len := 35) (q := 224) (by decide +kernel) rfl (by decide) (by unfold vp_in; decide) rfl ?_
    obtain ⟨Q5, hm, h⟩ := h
    refine Z_callVi (M2 := mX11_good) (idx := 214) (d2 := d) (ci := 11) (As := [.int _]) (q := 227) (by decide +kernel) kX11_good lX11_214 rfl rfl (by decide) rfl rfl (by decide +kernel) (Nat.le_of_ble_eq_true rfl) (Nat.le_refl _) hm rfl (fun v10 iv6 rv7 lv8 hq => ?_)
    obtain ⟨hT9, h⟩ := h v10 iv6 rv7 lv8 hq
    exact Z_iret (ty := .int) (by decide +kernel) rfl rfl rfl ⟨_, rfl, h⟩
  · replace h := h.2 hc
    refine Z_aload_n (a := 0) (q := 176) (by decide +kernel) rfl rfl ?_
    refine g11_14 (idx := 17) (q := 179) (by decide +kernel) fX11_17 rfl (by decide) (t11_14 hT) rfl ?_
    refine Z_iload_n (a := 2) (q := 180) (by decide +kernel) rfl rfl ?_
    refine Z_aload_n (a := 0) (q := 181) (by decide +kernel) rfl rfl ?_
    refine g11_15 (idx := 20) (q := 184) (by decide +kernel) fX11_20 rfl (by decide) (t11_15 hT) rfl ?_
    refine Z_iload_n (a := 2) (q := 185) (by decide +kernel) rfl rfl ?_
    obtain ⟨hin11, h⟩ := h
    refine Z_iald (len := 35) (q := 186) (by decide +kernel) rfl (by decide) hin11 rfl ?_
    refine Z_iast (len := 35) (q := 187) (by decide +kernel) rfl (by decide) hin11 rfl ?_
    replace h := h _ rfl
    refine Z_iinc (a := 2) (b := 1) (v := _ + 1) (loc2 := [_, _, _]) (q := 190) (by decide +kernel) rfl (zinc _) (by decide +kernel) rfl rfl rfl ?_
    refine Z_goto (q := 169) (off := -21) (by decide +kernel) (by decide) ?_
    exact h
theorem eX11_isNumber {d : Nat} (x1 : Int32) {iv : zI} {rv : zR} {lv : zJ} {Q : Int32 → zI → zR → zJ → Prop} (h : Zi mX11_isNumber (d + 1) 0 [some (.ref 174), some (.int x1)] [] iv rv lv Q) : Ci mX11_isNumber (d + 1) [.ref 174, .int x1] iv rv lv Q := Ci.of (by decide +kernel) (by simp [Value.category]) (Nat.le_of_ble_eq_true rfl) rfl h
set_option maxRecDepth 4000 in
theorem bX11_isNumber_0 {d : Nat} (x1 : Int32) {iv : zI} {rv : zR} {lv : zJ} {Q : Int32 → zI → zR → zJ → Prop} (hT : zTop rv) 
    (h : ((iv 174 19) = 0 → Q (0 : Int32) iv rv lv) ∧ (¬ (iv 174 19) = 0 → ∃ Q1 : Int32 → zI → zR → zJ → Prop, Ci mX11_in d [.int x1, .int (0 : Int32), .int ((iv 176 0) - (1 : Int32))] iv rv lv Q1 ∧ ∀ (v6 : Int32) (iv2 : zI) (rv3 : zR) (lv4 : zJ), Q1 v6 iv2 rv3 lv4 → zTop rv3 ∧ ((v6 = 0 → Q (0 : Int32) iv2 rv3 lv4) ∧ (¬ v6 = 0 → Q (1 : Int32) iv2 rv3 lv4)))) :
    Zi mX11_isNumber (d + 1) 0 [some (.ref 174), some (.int x1)] [] iv rv lv Q := by
  unfold Zi
  refine Z_aload_n (a := 0) (q := 1) (by decide +kernel) rfl rfl ?_
  refine g11_19 (idx := 211) (q := 4) (by decide +kernel) fX11_211 rfl (by decide) rfl ?_
  refine Z_if_eq (t := 27) (off := 23) (q := 7) (by decide +kernel) (by decide) rfl (fun hc => ?_) (fun hc => ?_)
  · replace h := h.1 hc
    refine Z_iconst (a := 0) (v := 0) (q := 28) (by decide +kernel) (by decide +kernel) rfl ?_
    exact Z_iret (ty := .boolean) (by decide +kernel) rfl rfl rfl ⟨_, rfl, h⟩
  · replace h := h.2 hc
    refine Z_iload_n (a := 1) (q := 8) (by decide +kernel) rfl rfl ?_
    refine Z_iconst (a := 0) (v := 0) (q := 9) (by decide +kernel) (by decide +kernel) rfl ?_
    refine Z_aload_n (a := 0) (q := 10) (by decide +kernel) rfl rfl ?_
    refine g11_14 (idx := 17) (q := 13) (by decide +kernel) fX11_17 rfl (by decide) (t11_14 hT) rfl ?_
    refine Z_iconst (a := 0) (v := 0) (q := 14) (by decide +kernel) (by decide +kernel) rfl ?_
    refine Z_iald (len := 35) (q := 15) (by decide +kernel) rfl (by decide) (by unfold vp_in; decide) rfl ?_
    refine Z_iconst (a := 1) (v := 1) (q := 16) (by decide +kernel) (by decide +kernel) rfl ?_
    refine Z_isub (q := 17) (by decide +kernel) rfl ?_
    obtain ⟨Q1, hm, h⟩ := h
    refine Z_callSi (M2 := mX11_in) (idx := 112) (d2 := d) (As := [.int _, .int _, .int _]) (q := 20) (by decide +kernel) kX11_in lX11_112 rfl rfl (by decide +kernel) (Nat.le_of_ble_eq_true rfl) (Nat.le_refl _) hm rfl (fun v6 iv2 rv3 lv4 hq => ?_)
    obtain ⟨hT5, h⟩ := h v6 iv2 rv3 lv4 hq
    refine Z_if_eq (t := 27) (off := 7) (q := 23) (by decide +kernel) (by decide) rfl (fun hc => ?_) (fun hc => ?_)
    · replace h := h.1 hc
      refine Z_iconst (a := 0) (v := 0) (q := 28) (by decide +kernel) (by decide +kernel) rfl ?_
      exact Z_iret (ty := .boolean) (by decide +kernel) rfl rfl rfl ⟨_, rfl, h⟩
    · replace h := h.2 hc
      refine Z_iconst (a := 1) (v := 1) (q := 24) (by decide +kernel) (by decide +kernel) rfl ?_
      refine Z_goto (q := 28) (off := 4) (by decide +kernel) (by decide) ?_
      exact Z_iret (ty := .boolean) (by decide +kernel) rfl rfl rfl ⟨_, rfl, h⟩
theorem eX11_isK {d : Nat} (x0 : Int32) {iv : zI} {rv : zR} {lv : zJ} {Q : Int32 → zI → zR → zJ → Prop} (h : Zi mX11_isK (d + 1) 0 [some (.int x0)] [] iv rv lv Q) : Ci mX11_isK (d + 1) [.int x0] iv rv lv Q := Ci.of (by decide +kernel) (by simp [Value.category]) (Nat.le_of_ble_eq_true rfl) rfl h
set_option maxRecDepth 4000 in
theorem bX11_isK_0 {d : Nat} (x0 : Int32) {iv : zI} {rv : zR} {lv : zJ} {Q : Int32 → zI → zR → zJ → Prop} (hT : zTop rv) 
    (h : ∃ Q1 : Int32 → zI → zR → zJ → Prop, Ci mX11_in d [.int x0, .int (2 : Int32), .int (4 : Int32)] iv rv lv Q1 ∧ ∀ (v6 : Int32) (iv2 : zI) (rv3 : zR) (lv4 : zJ), Q1 v6 iv2 rv3 lv4 → zTop rv3 ∧ ((v6 = 0 ∨ v6 = 1) ∧ Q v6 iv2 rv3 lv4)) :
    Zi mX11_isK (d + 1) 0 [some (.int x0)] [] iv rv lv Q := by
  unfold Zi
  refine Z_iload_n (a := 0) (q := 1) (by decide +kernel) rfl rfl ?_
  refine Z_iconst (a := 2) (v := 2) (q := 2) (by decide +kernel) (by decide +kernel) rfl ?_
  refine Z_iconst (a := 4) (v := 4) (q := 3) (by decide +kernel) (by decide +kernel) rfl ?_
  obtain ⟨Q1, hm, h⟩ := h
  refine Z_callSi (M2 := mX11_in) (idx := 112) (d2 := d) (As := [.int _, .int _, .int _]) (q := 6) (by decide +kernel) kX11_in lX11_112 rfl rfl (by decide +kernel) (Nat.le_of_ble_eq_true rfl) (Nat.le_refl _) hm rfl (fun v6 iv2 rv3 lv4 hq => ?_)
  obtain ⟨hT5, h⟩ := h v6 iv2 rv3 lv4 hq
  exact Z_iret (ty := .boolean) (by decide +kernel) rfl (by rcases h.1 with e | e <;> rw [e] <;> rfl) rfl ⟨_, rfl, h.2⟩
theorem eX11_value {d : Nat} (x1 : Int32) {iv : zI} {rv : zR} {lv : zJ} {Q : Int32 → zI → zR → zJ → Prop} (h : Zi mX11_value d 0 [some (.ref 174), some (.int x1)] [] iv rv lv Q) : Ci mX11_value d [.ref 174, .int x1] iv rv lv Q := Ci.of (by decide +kernel) (by simp [Value.category]) (Nat.le_of_ble_eq_true rfl) rfl h
set_option maxRecDepth 4000 in
theorem bX11_value_0 {d : Nat} (x1 : Int32) {iv : zI} {rv : zR} {lv : zJ} {Q : Int32 → zI → zR → zJ → Prop} (hT : zTop rv) 
    (h : vp_in ((2 : Int32) + x1) 35 ∧ (Q (iv 176 ((2 : Int32) + x1).toNatClampNeg) iv rv lv)) :
    Zi mX11_value d 0 [some (.ref 174), some (.int x1)] [] iv rv lv Q := by
  unfold Zi
  refine Z_aload_n (a := 0) (q := 1) (by decide +kernel) rfl rfl ?_
  refine g11_14 (idx := 17) (q := 4) (by decide +kernel) fX11_17 rfl (by decide) (t11_14 hT) rfl ?_
  refine Z_iconst (a := 2) (v := 2) (q := 5) (by decide +kernel) (by decide +kernel) rfl ?_
  refine Z_iload_n (a := 1) (q := 6) (by decide +kernel) rfl rfl ?_
  refine Z_iadd (q := 7) (by decide +kernel) rfl ?_
  obtain ⟨hin1, h⟩ := h
  refine Z_iald (len := 35) (q := 8) (by decide +kernel) rfl (by decide) hin1 rfl ?_
  exact Z_iret (ty := .int) (by decide +kernel) rfl rfl rfl ⟨_, rfl, h⟩
theorem eX11_total {d : Nat}  {iv : zI} {rv : zR} {lv : zJ} {Q : Int32 → zI → zR → zJ → Prop} (h : Zi mX11_total (d + 1) 0 [some (.ref 174), none, none] [] iv rv lv Q) : Ci mX11_total (d + 1) [.ref 174] iv rv lv Q := Ci.of (by decide +kernel) (by simp [Value.category]) (Nat.le_of_ble_eq_true rfl) rfl h
set_option maxRecDepth 4000 in
theorem bX11_total_0 {d : Nat}  {iv : zI} {rv : zR} {lv : zJ} {Q : Int32 → zI → zR → zJ → Prop} (hT : zTop rv) 
    (h : Zi mX11_total (d + 1) 4 [some (.ref 174), some (.int (0 : Int32)), some (.int (0 : Int32))] [] iv rv lv Q) :
    Zi mX11_total (d + 1) 0 [some (.ref 174), none, none] [] iv rv lv Q := by
  unfold Zi
  refine Z_iconst (a := 0) (v := 0) (q := 1) (by decide +kernel) (by decide +kernel) rfl ?_
  refine Z_istore_n (a := 1) (loc2 := [_, _, _]) (q := 2) (by decide +kernel) (by decide +kernel) rfl rfl rfl ?_
  refine Z_iconst (a := 0) (v := 0) (q := 3) (by decide +kernel) (by decide +kernel) rfl ?_
  refine Z_istore_n (a := 2) (loc2 := [_, _, _]) (q := 4) (by decide +kernel) (by decide +kernel) rfl rfl rfl ?_
  exact h
set_option maxRecDepth 4000 in
theorem bX11_total_4 {d : Nat} (x1 : Int32) (x2 : Int32) {iv : zI} {rv : zR} {lv : zJ} {Q : Int32 → zI → zR → zJ → Prop} (hT : zTop rv) 
    (h : ((iv 176 0) ≤ x2 → Q x1 iv rv lv) ∧ (¬ (iv 176 0) ≤ x2 → ∃ Q1 : Int32 → zI → zR → zJ → Prop, Ci mX11_value d [.ref 174, .int x2] iv rv lv Q1 ∧ ∀ (v6 : Int32) (iv2 : zI) (rv3 : zR) (lv4 : zJ), Q1 v6 iv2 rv3 lv4 → zTop rv3 ∧ (Zi mX11_total (d + 1) 4 [some (.ref 174), some (.int (x1 + v6)), some (.int (x2 + 1))] [] iv2 rv3 lv4 Q))) :
    Zi mX11_total (d + 1) 4 [some (.ref 174), some (.int x1), some (.int x2)] [] iv rv lv Q := by
  unfold Zi
  refine Z_iload_n (a := 2) (q := 5) (by decide +kernel) rfl rfl ?_
  refine Z_aload_n (a := 0) (q := 6) (by decide +kernel) rfl rfl ?_
  refine g11_14 (idx := 17) (q := 9) (by decide +kernel) fX11_17 rfl (by decide) (t11_14 hT) rfl ?_
  refine Z_iconst (a := 0) (v := 0) (q := 10) (by decide +kernel) (by decide +kernel) rfl ?_
  refine Z_iald (len := 35) (q := 11) (by decide +kernel) rfl (by decide) (by unfold vp_in; decide) rfl ?_
  refine Z_icmp_ge (t := 28) (off := 17) (q := 14) (by decide +kernel) (by decide) rfl (fun hc => ?_) (fun hc => ?_)
  · replace h := h.1 hc
    refine Z_iload_n (a := 1) (q := 29) (by decide +kernel) rfl rfl ?_
    exact Z_iret (ty := .int) (by decide +kernel) rfl rfl rfl ⟨_, rfl, h⟩
  · replace h := h.2 hc
    refine Z_iload_n (a := 1) (q := 15) (by decide +kernel) rfl rfl ?_
    refine Z_aload_n (a := 0) (q := 16) (by decide +kernel) rfl rfl ?_
    refine Z_iload_n (a := 2) (q := 17) (by decide +kernel) rfl rfl ?_
    obtain ⟨Q1, hm, h⟩ := h
    refine Z_callVi (M2 := mX11_value) (idx := 217) (d2 := d) (ci := 11) (As := [.int _]) (q := 20) (by decide +kernel) kX11_value lX11_217 rfl rfl (by decide) rfl rfl (by decide +kernel) (Nat.le_of_ble_eq_true rfl) (Nat.le_refl _) hm rfl (fun v6 iv2 rv3 lv4 hq => ?_)
    obtain ⟨hT5, h⟩ := h v6 iv2 rv3 lv4 hq
    refine Z_iadd (q := 21) (by decide +kernel) rfl ?_
    refine Z_istore_n (a := 1) (loc2 := [_, _, _]) (q := 22) (by decide +kernel) (by decide +kernel) rfl rfl rfl ?_
    refine Z_iinc (a := 2) (b := 1) (v := _ + 1) (loc2 := [_, _, _]) (q := 25) (by decide +kernel) rfl (zinc _) (by decide +kernel) rfl rfl rfl ?_
    refine Z_goto (q := 4) (off := -21) (by decide +kernel) (by decide) ?_
    exact h
theorem eX11_rank {d : Nat} (x1 : Int32) {iv : zI} {rv : zR} {lv : zJ} {Q : Int32 → zI → zR → zJ → Prop} (h : Zi mX11_rank (d + 1) 0 [some (.ref 174), some (.int x1), none, none] [] iv rv lv Q) : Ci mX11_rank (d + 1) [.ref 174, .int x1] iv rv lv Q := Ci.of (by decide +kernel) (by simp [Value.category]) (Nat.le_of_ble_eq_true rfl) rfl h
set_option maxRecDepth 4000 in
theorem bX11_rank_0 {d : Nat} (x1 : Int32) {iv : zI} {rv : zR} {lv : zJ} {Q : Int32 → zI → zR → zJ → Prop} (hT : zTop rv) 
    (h : Zi mX11_rank (d + 1) 4 [some (.ref 174), some (.int x1), some (.int (0 : Int32)), some (.int (0 : Int32))] [] iv rv lv Q) :
    Zi mX11_rank (d + 1) 0 [some (.ref 174), some (.int x1), none, none] [] iv rv lv Q := by
  unfold Zi
  refine Z_iconst (a := 0) (v := 0) (q := 1) (by decide +kernel) (by decide +kernel) rfl ?_
  refine Z_istore_n (a := 2) (loc2 := [_, _, _, _]) (q := 2) (by decide +kernel) (by decide +kernel) rfl rfl rfl ?_
  refine Z_iconst (a := 0) (v := 0) (q := 3) (by decide +kernel) (by decide +kernel) rfl ?_
  refine Z_istore_n (a := 3) (loc2 := [_, _, _, _]) (q := 4) (by decide +kernel) (by decide +kernel) rfl rfl rfl ?_
  exact h
set_option maxRecDepth 4000 in
theorem bX11_rank_4 {d : Nat} (x1 : Int32) (x2 : Int32) (x3 : Int32) {iv : zI} {rv : zR} {lv : zJ} {Q : Int32 → zI → zR → zJ → Prop} (hT : zTop rv) 
    (h : ((iv 176 0) ≤ x3 → Q x2 iv rv lv) ∧ (¬ (iv 176 0) ≤ x3 → ∃ Q1 : Int32 → zI → zR → zJ → Prop, Ci mX11_value d [.ref 174, .int x3] iv rv lv Q1 ∧ ∀ (v6 : Int32) (iv2 : zI) (rv3 : zR) (lv4 : zJ), Q1 v6 iv2 rv3 lv4 → zTop rv3 ∧ (∃ Q7 : Int32 → zI → zR → zJ → Prop, Ci mX11_value d [.ref 174, .int x1] iv2 rv3 lv4 Q7 ∧ ∀ (v12 : Int32) (iv8 : zI) (rv9 : zR) (lv10 : zJ), Q7 v12 iv8 rv9 lv10 → zTop rv9 ∧ ((v12 < v6 → Zi mX11_rank (d + 1) 4 [some (.ref 174), some (.int x1), some (.int (x2 + (1 : Int32))), some (.int (x3 + 1))] [] iv8 rv9 lv10 Q) ∧ (¬ v12 < v6 → ∃ Q13 : Int32 → zI → zR → zJ → Prop, Ci mX11_value d [.ref 174, .int x3] iv8 rv9 lv10 Q13 ∧ ∀ (v18 : Int32) (iv14 : zI) (rv15 : zR) (lv16 : zJ), Q13 v18 iv14 rv15 lv16 → zTop rv15 ∧ (∃ Q19 : Int32 → zI → zR → zJ → Prop, Ci mX11_value d [.ref 174, .int x1] iv14 rv15 lv16 Q19 ∧ ∀ (v24 : Int32) (iv20 : zI) (rv21 : zR) (lv22 : zJ), Q19 v24 iv20 rv21 lv22 → zTop rv21 ∧ ((¬ v18 = v24 → Zi mX11_rank (d + 1) 4 [some (.ref 174), some (.int x1), some (.int (x2 + (0 : Int32))), some (.int (x3 + 1))] [] iv20 rv21 lv22 Q) ∧ (v18 = v24 → (x1 ≤ x3 → Zi mX11_rank (d + 1) 4 [some (.ref 174), some (.int x1), some (.int (x2 + (0 : Int32))), some (.int (x3 + 1))] [] iv20 rv21 lv22 Q) ∧ (¬ x1 ≤ x3 → Zi mX11_rank (d + 1) 4 [some (.ref 174), some (.int x1), some (.int (x2 + (1 : Int32))), some (.int (x3 + 1))] [] iv20 rv21 lv22 Q))))))))) :
    Zi mX11_rank (d + 1) 4 [some (.ref 174), some (.int x1), some (.int x2), some (.int x3)] [] iv rv lv Q := by
  unfold Zi
  refine Z_iload_n (a := 3) (q := 5) (by decide +kernel) rfl rfl ?_
  refine Z_aload_n (a := 0) (q := 6) (by decide +kernel) rfl rfl ?_
  refine g11_14 (idx := 17) (q := 9) (by decide +kernel) fX11_17 rfl (by decide) (t11_14 hT) rfl ?_
  refine Z_iconst (a := 0) (v := 0) (q := 10) (by decide +kernel) (by decide +kernel) rfl ?_
  refine Z_iald (len := 35) (q := 11) (by decide +kernel) rfl (by decide) (by unfold vp_in; decide) rfl ?_
  refine Z_icmp_ge (t := 59) (off := 48) (q := 14) (by decide +kernel) (by decide) rfl (fun hc => ?_) (fun hc => ?_)
  · replace h := h.1 hc
    refine Z_iload_n (a := 2) (q := 60) (by decide +kernel) rfl rfl ?_
    exact Z_iret (ty := .int) (by decide +kernel) rfl rfl rfl ⟨_, rfl, h⟩
  · replace h := h.2 hc
    refine Z_iload_n (a := 2) (q := 15) (by decide +kernel) rfl rfl ?_
    refine Z_aload_n (a := 0) (q := 16) (by decide +kernel) rfl rfl ?_
    refine Z_iload_n (a := 3) (q := 17) (by decide +kernel) rfl rfl ?_
    obtain ⟨Q1, hm, h⟩ := h
    refine Z_callVi (M2 := mX11_value) (idx := 217) (d2 := d) (ci := 11) (As := [.int _]) (q := 20) (by decide +kernel) kX11_value lX11_217 rfl rfl (by decide) rfl rfl (by decide +kernel) (Nat.le_of_ble_eq_true rfl) (Nat.le_refl _) hm rfl (fun v6 iv2 rv3 lv4 hq => ?_)
    obtain ⟨hT5, h⟩ := h v6 iv2 rv3 lv4 hq
    refine Z_aload_n (a := 0) (q := 21) (by decide +kernel) rfl rfl ?_
    refine Z_iload_n (a := 1) (q := 22) (by decide +kernel) rfl rfl ?_
    obtain ⟨Q7, hm, h⟩ := h
    refine Z_callVi (M2 := mX11_value) (idx := 217) (d2 := d) (ci := 11) (As := [.int _]) (q := 25) (by decide +kernel) kX11_value lX11_217 rfl rfl (by decide) rfl rfl (by decide +kernel) (Nat.le_of_ble_eq_true rfl) (Nat.le_refl _) hm rfl (fun v12 iv8 rv9 lv10 hq => ?_)
    obtain ⟨hT11, h⟩ := h v12 iv8 rv9 lv10 hq
    refine Z_icmp_gt (t := 46) (off := 21) (q := 28) (by decide +kernel) (by decide) rfl (fun hc => ?_) (fun hc => ?_)
    · replace h := h.1 hc
      refine Z_iconst (a := 1) (v := 1) (q := 47) (by decide +kernel) (by decide +kernel) rfl ?_
      refine Z_goto (q := 51) (off := 4) (by decide +kernel) (by decide) ?_
      refine Z_iadd (q := 52) (by decide +kernel) rfl ?_
      refine Z_istore_n (a := 2) (loc2 := [_, _, _, _]) (q := 53) (by decide +kernel) (by decide +kernel) rfl rfl rfl ?_
      refine Z_iinc (a := 3) (b := 1) (v := _ + 1) (loc2 := [_, _, _, _]) (q := 56) (by decide +kernel) rfl (zinc _) (by decide +kernel) rfl rfl rfl ?_
      refine Z_goto (q := 4) (off := -52) (by decide +kernel) (by decide) ?_
      exact h
    · replace h := h.2 hc
      refine Z_aload_n (a := 0) (q := 29) (by decide +kernel) rfl rfl ?_
      refine Z_iload_n (a := 3) (q := 30) (by decide +kernel) rfl rfl ?_
      obtain ⟨Q13, hm, h⟩ := h
      refine Z_callVi (M2 := mX11_value) (idx := 217) (d2 := d) (ci := 11) (As := [.int _]) (q := 33) (by decide +kernel) kX11_value lX11_217 rfl rfl (by decide) rfl rfl (by decide +kernel) (Nat.le_of_ble_eq_true rfl) (Nat.le_refl _) hm rfl (fun v18 iv14 rv15 lv16 hq => ?_)
      obtain ⟨hT17, h⟩ := h v18 iv14 rv15 lv16 hq
      refine Z_aload_n (a := 0) (q := 34) (by decide +kernel) rfl rfl ?_
      refine Z_iload_n (a := 1) (q := 35) (by decide +kernel) rfl rfl ?_
      obtain ⟨Q19, hm, h⟩ := h
      refine Z_callVi (M2 := mX11_value) (idx := 217) (d2 := d) (ci := 11) (As := [.int _]) (q := 38) (by decide +kernel) kX11_value lX11_217 rfl rfl (by decide) rfl rfl (by decide +kernel) (Nat.le_of_ble_eq_true rfl) (Nat.le_refl _) hm rfl (fun v24 iv20 rv21 lv22 hq => ?_)
      obtain ⟨hT23, h⟩ := h v24 iv20 rv21 lv22 hq
      refine Z_icmp_ne (t := 50) (off := 12) (q := 41) (by decide +kernel) (by decide) rfl (fun hc => ?_) (fun hc => ?_)
      · replace h := h.1 hc
        refine Z_iconst (a := 0) (v := 0) (q := 51) (by decide +kernel) (by decide +kernel) rfl ?_
        refine Z_iadd (q := 52) (by decide +kernel) rfl ?_
        refine Z_istore_n (a := 2) (loc2 := [_, _, _, _]) (q := 53) (by decide +kernel) (by decide +kernel) rfl rfl rfl ?_
        refine Z_iinc (a := 3) (b := 1) (v := _ + 1) (loc2 := [_, _, _, _]) (q := 56) (by decide +kernel) rfl (zinc _) (by decide +kernel) rfl rfl rfl ?_
        refine Z_goto (q := 4) (off := -52) (by decide +kernel) (by decide) ?_
        exact h
      · replace h := h.2 hc
        refine Z_iload_n (a := 3) (q := 42) (by decide +kernel) rfl rfl ?_
        refine Z_iload_n (a := 1) (q := 43) (by decide +kernel) rfl rfl ?_
        refine Z_icmp_ge (t := 50) (off := 7) (q := 46) (by decide +kernel) (by decide) rfl (fun hc => ?_) (fun hc => ?_)
        · replace h := h.1 hc
          refine Z_iconst (a := 0) (v := 0) (q := 51) (by decide +kernel) (by decide +kernel) rfl ?_
          refine Z_iadd (q := 52) (by decide +kernel) rfl ?_
          refine Z_istore_n (a := 2) (loc2 := [_, _, _, _]) (q := 53) (by decide +kernel) (by decide +kernel) rfl rfl rfl ?_
          refine Z_iinc (a := 3) (b := 1) (v := _ + 1) (loc2 := [_, _, _, _]) (q := 56) (by decide +kernel) rfl (zinc _) (by decide +kernel) rfl rfl rfl ?_
          refine Z_goto (q := 4) (off := -52) (by decide +kernel) (by decide) ?_
          exact h
        · replace h := h.2 hc
          refine Z_iconst (a := 1) (v := 1) (q := 47) (by decide +kernel) (by decide +kernel) rfl ?_
          refine Z_goto (q := 51) (off := 4) (by decide +kernel) (by decide) ?_
          refine Z_iadd (q := 52) (by decide +kernel) rfl ?_
          refine Z_istore_n (a := 2) (loc2 := [_, _, _, _]) (q := 53) (by decide +kernel) (by decide +kernel) rfl rfl rfl ?_
          refine Z_iinc (a := 3) (b := 1) (v := _ + 1) (loc2 := [_, _, _, _]) (q := 56) (by decide +kernel) rfl (zinc _) (by decide +kernel) rfl rfl rfl ?_
          refine Z_goto (q := 4) (off := -52) (by decide +kernel) (by decide) ?_
          exact h
theorem eX11_ranked {d : Nat} (x1 : Int32) {iv : zI} {rv : zR} {lv : zJ} {Q : Int32 → zI → zR → zJ → Prop} (h : Zi mX11_ranked (d + 1) 0 [some (.ref 174), some (.int x1), none] [] iv rv lv Q) : Ci mX11_ranked (d + 1) [.ref 174, .int x1] iv rv lv Q := Ci.of (by decide +kernel) (by simp [Value.category]) (Nat.le_of_ble_eq_true rfl) rfl h
set_option maxRecDepth 4000 in
theorem bX11_ranked_0 {d : Nat} (x1 : Int32) {iv : zI} {rv : zR} {lv : zJ} {Q : Int32 → zI → zR → zJ → Prop} (hT : zTop rv) 
    (h : Zi mX11_ranked (d + 1) 2 [some (.ref 174), some (.int x1), some (.int (0 : Int32))] [] iv rv lv Q) :
    Zi mX11_ranked (d + 1) 0 [some (.ref 174), some (.int x1), none] [] iv rv lv Q := by
  unfold Zi
  refine Z_iconst (a := 0) (v := 0) (q := 1) (by decide +kernel) (by decide +kernel) rfl ?_
  refine Z_istore_n (a := 2) (loc2 := [_, _, _]) (q := 2) (by decide +kernel) (by decide +kernel) rfl rfl rfl ?_
  exact h
set_option maxRecDepth 4000 in
theorem bX11_ranked_2 {d : Nat} (x1 : Int32) (x2 : Int32) {iv : zI} {rv : zR} {lv : zJ} {Q : Int32 → zI → zR → zJ → Prop} (hT : zTop rv) 
    (h : ∃ Q1 : Int32 → zI → zR → zJ → Prop, Ci mX11_rank d [.ref 174, .int x2] iv rv lv Q1 ∧ ∀ (v6 : Int32) (iv2 : zI) (rv3 : zR) (lv4 : zJ), Q1 v6 iv2 rv3 lv4 → zTop rv3 ∧ ((v6 = x1 → Q x2 iv2 rv3 lv4) ∧ (¬ v6 = x1 → Zi mX11_ranked (d + 1) 2 [some (.ref 174), some (.int x1), some (.int (x2 + 1))] [] iv2 rv3 lv4 Q))) :
    Zi mX11_ranked (d + 1) 2 [some (.ref 174), some (.int x1), some (.int x2)] [] iv rv lv Q := by
  unfold Zi
  refine Z_aload_n (a := 0) (q := 3) (by decide +kernel) rfl rfl ?_
  refine Z_iload_n (a := 2) (q := 4) (by decide +kernel) rfl rfl ?_
  obtain ⟨Q1, hm, h⟩ := h
  refine Z_callVi (M2 := mX11_rank) (idx := 220) (d2 := d) (ci := 11) (As := [.int _]) (q := 7) (by decide +kernel) kX11_rank lX11_220 rfl rfl (by decide) rfl rfl (by decide +kernel) (Nat.le_of_ble_eq_true rfl) (Nat.le_refl _) hm rfl (fun v6 iv2 rv3 lv4 hq => ?_)
  obtain ⟨hT5, h⟩ := h v6 iv2 rv3 lv4 hq
  refine Z_iload_n (a := 1) (q := 8) (by decide +kernel) rfl rfl ?_
  refine Z_icmp_eq (t := 17) (off := 9) (q := 11) (by decide +kernel) (by decide) rfl (fun hc => ?_) (fun hc => ?_)
  · replace h := h.1 hc
    refine Z_iload_n (a := 2) (q := 18) (by decide +kernel) rfl rfl ?_
    exact Z_iret (ty := .int) (by decide +kernel) rfl rfl rfl ⟨_, rfl, h⟩
  · replace h := h.2 hc
    refine Z_iinc (a := 2) (b := 1) (v := _ + 1) (loc2 := [_, _, _]) (q := 14) (by decide +kernel) rfl (zinc _) (by decide +kernel) rfl rfl rfl ?_
    refine Z_goto (q := 2) (off := -12) (by decide +kernel) (by decide) ?_
    exact h
theorem eX11_about {d : Nat} (x1 : Int32) {iv : zI} {rv : zR} {lv : zJ} {Q : Int32 → zI → zR → zJ → Prop} (h : Zi mX11_about (d + 1) 0 [some (.ref 174), some (.int x1), none, none] [] iv rv lv Q) : Ci mX11_about (d + 1) [.ref 174, .int x1] iv rv lv Q := Ci.of (by decide +kernel) (by simp [Value.category]) (Nat.le_of_ble_eq_true rfl) rfl h
set_option maxRecDepth 4000 in
theorem bX11_about_0 {d : Nat} (x1 : Int32) {iv : zI} {rv : zR} {lv : zJ} {Q : Int32 → zI → zR → zJ → Prop} (hT : zTop rv) 
    (h : ∀ iv1 : zI, iv1 = zu iv 174 0 (0 : Int32) → (¬ (iv1 174 19) = 0 → Zi mX11_about (d + 1) 22 [some (.ref 174), some (.int x1), some (.int (0 : Int32)), some (.int (0 : Int32))] [] iv1 rv lv Q) ∧ ((iv1 174 19) = 0 → ∃ Q2 : Int32 → zI → zR → zJ → Prop, Ci mX11_refused d [.ref 174, .int (1 : Int32)] iv1 rv lv Q2 ∧ ∀ (v7 : Int32) (iv3 : zI) (rv4 : zR) (lv5 : zJ), Q2 v7 iv3 rv4 lv5 → zTop rv4 ∧ (Q v7 iv3 rv4 lv5))) :
    Zi mX11_about (d + 1) 0 [some (.ref 174), some (.int x1), none, none] [] iv rv lv Q := by
  unfold Zi
  refine Z_aload_n (a := 0) (q := 1) (by decide +kernel) rfl rfl ?_
  refine Z_iconst (a := 0) (v := 0) (q := 2) (by decide +kernel) (by decide +kernel) rfl ?_
  refine p11_0 (idx := 87) (q := 5) (by decide +kernel) fX11_87 rfl (by decide) rfl ?_
  replace h := h _ rfl
  refine Z_aload_n (a := 0) (q := 6) (by decide +kernel) rfl rfl ?_
  refine g11_19 (idx := 211) (q := 9) (by decide +kernel) fX11_211 rfl (by decide) rfl ?_
  refine Z_if_ne (t := 18) (off := 9) (q := 12) (by decide +kernel) (by decide) rfl (fun hc => ?_) (fun hc => ?_)
  · replace h := h.1 hc
    refine Z_iconst (a := 0) (v := 0) (q := 19) (by decide +kernel) (by decide +kernel) rfl ?_
    refine Z_istore_n (a := 2) (loc2 := [_, _, _, _]) (q := 20) (by decide +kernel) (by decide +kernel) rfl rfl rfl ?_
    refine Z_iconst (a := 0) (v := 0) (q := 21) (by decide +kernel) (by decide +kernel) rfl ?_
    refine Z_istore_n (a := 3) (loc2 := [_, _, _, _]) (q := 22) (by decide +kernel) (by decide +kernel) rfl rfl rfl ?_
    exact h
  · replace h := h.2 hc
    refine Z_aload_n (a := 0) (q := 13) (by decide +kernel) rfl rfl ?_
    refine Z_iconst (a := 1) (v := 1) (q := 14) (by decide +kernel) (by decide +kernel) rfl ?_
    obtain ⟨Q2, hm, h⟩ := h
    refine Z_callVi (M2 := mX11_refused) (idx := 201) (d2 := d) (ci := 11) (As := [.int _]) (q := 17) (by decide +kernel) kX11_refused lX11_201 rfl rfl (by decide) rfl rfl (by decide +kernel) (Nat.le_of_ble_eq_true rfl) (Nat.le_refl _) hm rfl (fun v7 iv3 rv4 lv5 hq => ?_)
    obtain ⟨hT6, h⟩ := h v7 iv3 rv4 lv5 hq
    exact Z_iret (ty := .int) (by decide +kernel) rfl rfl rfl ⟨_, rfl, h⟩
set_option maxRecDepth 4000 in
theorem bX11_about_22 {d : Nat} (x1 : Int32) (x2 : Int32) (x3 : Int32) {iv : zI} {rv : zR} {lv : zJ} {Q : Int32 → zI → zR → zJ → Prop} (hT : zTop rv) 
    (h : ((iv 176 0) ≤ x3 → (x1 = 0 → ∃ Q1 : Int32 → zI → zR → zJ → Prop, Ci mX11_good d [.ref 174, .int (iv 176 0)] iv rv lv Q1 ∧ ∀ (v6 : Int32) (iv2 : zI) (rv3 : zR) (lv4 : zJ), Q1 v6 iv2 rv3 lv4 → zTop rv3 ∧ (Q v6 iv2 rv3 lv4)) ∧ (x1 = 1 → ∃ Q7 : Int32 → zI → zR → zJ → Prop, Ci mX11_good d [.ref 174, .int (iv 176 1)] iv rv lv Q7 ∧ ∀ (v12 : Int32) (iv8 : zI) (rv9 : zR) (lv10 : zJ), Q7 v12 iv8 rv9 lv10 → zTop rv9 ∧ (Q v12 iv8 rv9 lv10)) ∧ (x1 = 2 → ∃ Q13 : Int32 → zI → zR → zJ → Prop, Ci mX11_total d [.ref 174] iv rv lv Q13 ∧ ∀ (v18 : Int32) (iv14 : zI) (rv15 : zR) (lv16 : zJ), Q13 v18 iv14 rv15 lv16 → zTop rv15 ∧ (∃ Q19 : Int32 → zI → zR → zJ → Prop, Ci mX11_good d [.ref 174, .int v18] iv14 rv15 lv16 Q19 ∧ ∀ (v24 : Int32) (iv20 : zI) (rv21 : zR) (lv22 : zJ), Q19 v24 iv20 rv21 lv22 → zTop rv21 ∧ (Q v24 iv20 rv21 lv22))) ∧ (x1 = 3 → ∃ Q25 : Int32 → zI → zR → zJ → Prop, Ci mX11_good d [.ref 174, .int x2] iv rv lv Q25 ∧ ∀ (v30 : Int32) (iv26 : zI) (rv27 : zR) (lv28 : zJ), Q25 v30 iv26 rv27 lv28 → zTop rv27 ∧ (Q v30 iv26 rv27 lv28)) ∧ (x1 = 4 → ∃ Q31 : Int32 → zI → zR → zJ → Prop, Ci mX11_good d [.ref 174, .int (iv 176 22)] iv rv lv Q31 ∧ ∀ (v36 : Int32) (iv32 : zI) (rv33 : zR) (lv34 : zJ), Q31 v36 iv32 rv33 lv34 → zTop rv33 ∧ (Q v36 iv32 rv33 lv34)) ∧ (x1 = 5 → ∃ Q37 : Int32 → zI → zR → zJ → Prop, Ci mX11_good d [.ref 174, .int (iv 174 21)] iv rv lv Q37 ∧ ∀ (v42 : Int32) (iv38 : zI) (rv39 : zR) (lv40 : zJ), Q37 v42 iv38 rv39 lv40 → zTop rv39 ∧ (Q v42 iv38 rv39 lv40)) ∧ (x1 = 6 → ∃ Q43 : Int32 → zI → zR → zJ → Prop, Ci mX11_ranked d [.ref 174, .int (0 : Int32)] iv rv lv Q43 ∧ ∀ (v48 : Int32) (iv44 : zI) (rv45 : zR) (lv46 : zJ), Q43 v48 iv44 rv45 lv46 → zTop rv45 ∧ (∃ Q49 : Int32 → zI → zR → zJ → Prop, Ci mX11_value d [.ref 174, .int v48] iv44 rv45 lv46 Q49 ∧ ∀ (v54 : Int32) (iv50 : zI) (rv51 : zR) (lv52 : zJ), Q49 v54 iv50 rv51 lv52 → zTop rv51 ∧ (∃ Q55 : Int32 → zI → zR → zJ → Prop, Ci mX11_good d [.ref 174, .int v54] iv50 rv51 lv52 Q55 ∧ ∀ (v60 : Int32) (iv56 : zI) (rv57 : zR) (lv58 : zJ), Q55 v60 iv56 rv57 lv58 → zTop rv57 ∧ (Q v60 iv56 rv57 lv58)))) ∧ (x1 = 7 → ∃ Q61 : Int32 → zI → zR → zJ → Prop, Ci mX11_ranked d [.ref 174, .int ((iv 176 0) - (1 : Int32))] iv rv lv Q61 ∧ ∀ (v66 : Int32) (iv62 : zI) (rv63 : zR) (lv64 : zJ), Q61 v66 iv62 rv63 lv64 → zTop rv63 ∧ (∃ Q67 : Int32 → zI → zR → zJ → Prop, Ci mX11_value d [.ref 174, .int v66] iv62 rv63 lv64 Q67 ∧ ∀ (v72 : Int32) (iv68 : zI) (rv69 : zR) (lv70 : zJ), Q67 v72 iv68 rv69 lv70 → zTop rv69 ∧ (∃ Q73 : Int32 → zI → zR → zJ → Prop, Ci mX11_good d [.ref 174, .int v72] iv68 rv69 lv70 Q73 ∧ ∀ (v78 : Int32) (iv74 : zI) (rv75 : zR) (lv76 : zJ), Q73 v78 iv74 rv75 lv76 → zTop rv75 ∧ (Q v78 iv74 rv75 lv76)))) ∧ (¬ x1 = 0 → ¬ x1 = 1 → ¬ x1 = 2 → ¬ x1 = 3 → ¬ x1 = 4 → ¬ x1 = 5 → ¬ x1 = 6 → ¬ x1 = 7 → ∃ Q79 : Int32 → zI → zR → zJ → Prop, Ci mX11_refused d [.ref 174, .int (1 : Int32)] iv rv lv Q79 ∧ ∀ (v84 : Int32) (iv80 : zI) (rv81 : zR) (lv82 : zJ), Q79 v84 iv80 rv81 lv82 → zTop rv81 ∧ (Q v84 iv80 rv81 lv82))) ∧ (¬ (iv 176 0) ≤ x3 → vp_in ((12 : Int32) + x3) 35 ∧ (((iv 176 ((12 : Int32) + x3).toNatClampNeg) ≤ 0 → Zi mX11_about (d + 1) 22 [some (.ref 174), some (.int x1), some (.int (x2 + (0 : Int32))), some (.int (x3 + 1))] [] iv rv lv Q) ∧ (¬ (iv 176 ((12 : Int32) + x3).toNatClampNeg) ≤ 0 → Zi mX11_about (d + 1) 22 [some (.ref 174), some (.int x1), some (.int (x2 + (1 : Int32))), some (.int (x3 + 1))] [] iv rv lv Q)))) :
    Zi mX11_about (d + 1) 22 [some (.ref 174), some (.int x1), some (.int x2), some (.int x3)] [] iv rv lv Q := by
  unfold Zi
  refine Z_iload_n (a := 3) (q := 23) (by decide +kernel) rfl rfl ?_
  refine Z_aload_n (a := 0) (q := 24) (by decide +kernel) rfl rfl ?_
  refine g11_14 (idx := 17) (q := 27) (by decide +kernel) fX11_17 rfl (by decide) (t11_14 hT) rfl ?_
  refine Z_iconst (a := 0) (v := 0) (q := 28) (by decide +kernel) (by decide +kernel) rfl ?_
  refine Z_iald (len := 35) (q := 29) (by decide +kernel) rfl (by decide) (by unfold vp_in; decide) rfl ?_
  refine Z_icmp_ge (t := 58) (off := 29) (q := 32) (by decide +kernel) (by decide) rfl (fun hc => ?_) (fun hc => ?_)
  · replace h := h.1 hc
    refine Z_iload_n (a := 1) (q := 59) (by decide +kernel) rfl rfl ?_
    by_cases hk0 : x1 = 0
    · replace h := h.1 hk0
      refine Z_tableIn (q := 104) (off := 45) (by decide +kernel : decode mX11_about.2.1 59 = .ok (.tableswitch 138 0 7 #[45, 56, 67, 76, 82, 94, 103, 117], 45)) (by rw [hk0]; decide) (by rw [hk0]; decide) (by rw [hk0]; rfl) (by decide) ?_
      refine Z_aload_n (a := 0) (q := 105) (by decide +kernel) rfl rfl ?_
      refine Z_aload_n (a := 0) (q := 106) (by decide +kernel) rfl rfl ?_
      refine g11_14 (idx := 17) (q := 109) (by decide +kernel) fX11_17 rfl (by decide) (t11_14 hT) rfl ?_
      refine Z_iconst (a := 0) (v := 0) (q := 110) (by decide +kernel) (by decide +kernel) rfl ?_
      refine Z_iald (len := 35) (q := 111) (by decide +kernel) rfl (by decide) (by unfold vp_in; decide) rfl ?_
      obtain ⟨Q1, hm, h⟩ := h
      refine Z_callVi (M2 := mX11_good) (idx := 214) (d2 := d) (ci := 11) (As := [.int _]) (q := 114) (by decide +kernel) kX11_good lX11_214 rfl rfl (by decide) rfl rfl (by decide +kernel) (Nat.le_of_ble_eq_true rfl) (Nat.le_refl _) hm rfl (fun v6 iv2 rv3 lv4 hq => ?_)
      obtain ⟨hT5, h⟩ := h v6 iv2 rv3 lv4 hq
      exact Z_iret (ty := .int) (by decide +kernel) rfl rfl rfl ⟨_, rfl, h⟩
    replace h := h.2
    by_cases hk1 : x1 = 1
    · replace h := h.1 hk1
      refine Z_tableIn (q := 115) (off := 56) (by decide +kernel : decode mX11_about.2.1 59 = .ok (.tableswitch 138 0 7 #[45, 56, 67, 76, 82, 94, 103, 117], 45)) (by rw [hk1]; decide) (by rw [hk1]; decide) (by rw [hk1]; rfl) (by decide) ?_
      refine Z_aload_n (a := 0) (q := 116) (by decide +kernel) rfl rfl ?_
      refine Z_aload_n (a := 0) (q := 117) (by decide +kernel) rfl rfl ?_
      refine g11_14 (idx := 17) (q := 120) (by decide +kernel) fX11_17 rfl (by decide) (t11_14 hT) rfl ?_
      refine Z_iconst (a := 1) (v := 1) (q := 121) (by decide +kernel) (by decide +kernel) rfl ?_
      refine Z_iald (len := 35) (q := 122) (by decide +kernel) rfl (by decide) (by unfold vp_in; decide) rfl ?_
      obtain ⟨Q7, hm, h⟩ := h
      refine Z_callVi (M2 := mX11_good) (idx := 214) (d2 := d) (ci := 11) (As := [.int _]) (q := 125) (by decide +kernel) kX11_good lX11_214 rfl rfl (by decide) rfl rfl (by decide +kernel) (Nat.le_of_ble_eq_true rfl) (Nat.le_refl _) hm rfl (fun v12 iv8 rv9 lv10 hq => ?_)
      obtain ⟨hT11, h⟩ := h v12 iv8 rv9 lv10 hq
      exact Z_iret (ty := .int) (by decide +kernel) rfl rfl rfl ⟨_, rfl, h⟩
    replace h := h.2
    by_cases hk2 : x1 = 2
    · replace h := h.1 hk2
      refine Z_tableIn (q := 126) (off := 67) (by decide +kernel : decode mX11_about.2.1 59 = .ok (.tableswitch 138 0 7 #[45, 56, 67, 76, 82, 94, 103, 117], 45)) (by rw [hk2]; decide) (by rw [hk2]; decide) (by rw [hk2]; rfl) (by decide) ?_
      refine Z_aload_n (a := 0) (q := 127) (by decide +kernel) rfl rfl ?_
      refine Z_aload_n (a := 0) (q := 128) (by decide +kernel) rfl rfl ?_
      obtain ⟨Q13, hm, h⟩ := h
      refine Z_callVi (M2 := mX11_total) (idx := 223) (d2 := d) (ci := 11) (As := []) (q := 131) (by decide +kernel) kX11_total lX11_223 rfl rfl (by decide) rfl rfl (by decide +kernel) (Nat.le_of_ble_eq_true rfl) (Nat.le_refl _) hm rfl (fun v18 iv14 rv15 lv16 hq => ?_)
      obtain ⟨hT17, h⟩ := h v18 iv14 rv15 lv16 hq
      obtain ⟨Q19, hm, h⟩ := h
      refine Z_callVi (M2 := mX11_good) (idx := 214) (d2 := d) (ci := 11) (As := [.int _]) (q := 134) (by decide +kernel) kX11_good lX11_214 rfl rfl (by decide) rfl rfl (by decide +kernel) (Nat.le_of_ble_eq_true rfl) (Nat.le_refl _) hm rfl (fun v24 iv20 rv21 lv22 hq => ?_)
      obtain ⟨hT23, h⟩ := h v24 iv20 rv21 lv22 hq
      exact Z_iret (ty := .int) (by decide +kernel) rfl rfl rfl ⟨_, rfl, h⟩
    replace h := h.2
    by_cases hk3 : x1 = 3
    · replace h := h.1 hk3
      refine Z_tableIn (q := 135) (off := 76) (by decide +kernel : decode mX11_about.2.1 59 = .ok (.tableswitch 138 0 7 #[45, 56, 67, 76, 82, 94, 103, 117], 45)) (by rw [hk3]; decide) (by rw [hk3]; decide) (by rw [hk3]; rfl) (by decide) ?_
      refine Z_aload_n (a := 0) (q := 136) (by decide +kernel) rfl rfl ?_
      refine Z_iload_n (a := 2) (q := 137) (by decide +kernel) rfl rfl ?_
      obtain ⟨Q25, hm, h⟩ := h
      refine Z_callVi (M2 := mX11_good) (idx := 214) (d2 := d) (ci := 11) (As := [.int _]) (q := 140) (by decide +kernel) kX11_good lX11_214 rfl rfl (by decide) rfl rfl (by decide +kernel) (Nat.le_of_ble_eq_true rfl) (Nat.le_refl _) hm rfl (fun v30 iv26 rv27 lv28 hq => ?_)
      obtain ⟨hT29, h⟩ := h v30 iv26 rv27 lv28 hq
      exact Z_iret (ty := .int) (by decide +kernel) rfl rfl rfl ⟨_, rfl, h⟩
    replace h := h.2
    by_cases hk4 : x1 = 4
    · replace h := h.1 hk4
      refine Z_tableIn (q := 141) (off := 82) (by decide +kernel : decode mX11_about.2.1 59 = .ok (.tableswitch 138 0 7 #[45, 56, 67, 76, 82, 94, 103, 117], 45)) (by rw [hk4]; decide) (by rw [hk4]; decide) (by rw [hk4]; rfl) (by decide) ?_
      refine Z_aload_n (a := 0) (q := 142) (by decide +kernel) rfl rfl ?_
      refine Z_aload_n (a := 0) (q := 143) (by decide +kernel) rfl rfl ?_
      refine g11_14 (idx := 17) (q := 146) (by decide +kernel) fX11_17 rfl (by decide) (t11_14 hT) rfl ?_
      refine Z_bipush (a := 22) (v := 22) (q := 148) (by decide +kernel) (by decide +kernel) rfl ?_
      refine Z_iald (len := 35) (q := 149) (by decide +kernel) rfl (by decide) (by unfold vp_in; decide) rfl ?_
      obtain ⟨Q31, hm, h⟩ := h
      refine Z_callVi (M2 := mX11_good) (idx := 214) (d2 := d) (ci := 11) (As := [.int _]) (q := 152) (by decide +kernel) kX11_good lX11_214 rfl rfl (by decide) rfl rfl (by decide +kernel) (Nat.le_of_ble_eq_true rfl) (Nat.le_refl _) hm rfl (fun v36 iv32 rv33 lv34 hq => ?_)
      obtain ⟨hT35, h⟩ := h v36 iv32 rv33 lv34 hq
      exact Z_iret (ty := .int) (by decide +kernel) rfl rfl rfl ⟨_, rfl, h⟩
    replace h := h.2
    by_cases hk5 : x1 = 5
    · replace h := h.1 hk5
      refine Z_tableIn (q := 153) (off := 94) (by decide +kernel : decode mX11_about.2.1 59 = .ok (.tableswitch 138 0 7 #[45, 56, 67, 76, 82, 94, 103, 117], 45)) (by rw [hk5]; decide) (by rw [hk5]; decide) (by rw [hk5]; rfl) (by decide) ?_
      refine Z_aload_n (a := 0) (q := 154) (by decide +kernel) rfl rfl ?_
      refine Z_aload_n (a := 0) (q := 155) (by decide +kernel) rfl rfl ?_
      refine g11_21 (idx := 208) (q := 158) (by decide +kernel) fX11_208 rfl (by decide) rfl ?_
      obtain ⟨Q37, hm, h⟩ := h
      refine Z_callVi (M2 := mX11_good) (idx := 214) (d2 := d) (ci := 11) (As := [.int _]) (q := 161) (by decide +kernel) kX11_good lX11_214 rfl rfl (by decide) rfl rfl (by decide +kernel) (Nat.le_of_ble_eq_true rfl) (Nat.le_refl _) hm rfl (fun v42 iv38 rv39 lv40 hq => ?_)
      obtain ⟨hT41, h⟩ := h v42 iv38 rv39 lv40 hq
      exact Z_iret (ty := .int) (by decide +kernel) rfl rfl rfl ⟨_, rfl, h⟩
    replace h := h.2
    by_cases hk6 : x1 = 6
    · replace h := h.1 hk6
      refine Z_tableIn (q := 162) (off := 103) (by decide +kernel : decode mX11_about.2.1 59 = .ok (.tableswitch 138 0 7 #[45, 56, 67, 76, 82, 94, 103, 117], 45)) (by rw [hk6]; decide) (by rw [hk6]; decide) (by rw [hk6]; rfl) (by decide) ?_
      refine Z_aload_n (a := 0) (q := 163) (by decide +kernel) rfl rfl ?_
      refine Z_aload_n (a := 0) (q := 164) (by decide +kernel) rfl rfl ?_
      refine Z_aload_n (a := 0) (q := 165) (by decide +kernel) rfl rfl ?_
      refine Z_iconst (a := 0) (v := 0) (q := 166) (by decide +kernel) (by decide +kernel) rfl ?_
      obtain ⟨Q43, hm, h⟩ := h
      refine Z_callVi (M2 := mX11_ranked) (idx := 226) (d2 := d) (ci := 11) (As := [.int _]) (q := 169) (by decide +kernel) kX11_ranked lX11_226 rfl rfl (by decide) rfl rfl (by decide +kernel) (Nat.le_of_ble_eq_true rfl) (Nat.le_refl _) hm rfl (fun v48 iv44 rv45 lv46 hq => ?_)
      obtain ⟨hT47, h⟩ := h v48 iv44 rv45 lv46 hq
      obtain ⟨Q49, hm, h⟩ := h
      refine Z_callVi (M2 := mX11_value) (idx := 217) (d2 := d) (ci := 11) (As := [.int _]) (q := 172) (by decide +kernel) kX11_value lX11_217 rfl rfl (by decide) rfl rfl (by decide +kernel) (Nat.le_of_ble_eq_true rfl) (Nat.le_refl _) hm rfl (fun v54 iv50 rv51 lv52 hq => ?_)
      obtain ⟨hT53, h⟩ := h v54 iv50 rv51 lv52 hq
      obtain ⟨Q55, hm, h⟩ := h
      refine Z_callVi (M2 := mX11_good) (idx := 214) (d2 := d) (ci := 11) (As := [.int _]) (q := 175) (by decide +kernel) kX11_good lX11_214 rfl rfl (by decide) rfl rfl (by decide +kernel) (Nat.le_of_ble_eq_true rfl) (Nat.le_refl _) hm rfl (fun v60 iv56 rv57 lv58 hq => ?_)
      obtain ⟨hT59, h⟩ := h v60 iv56 rv57 lv58 hq
      exact Z_iret (ty := .int) (by decide +kernel) rfl rfl rfl ⟨_, rfl, h⟩
    replace h := h.2
    by_cases hk7 : x1 = 7
    · replace h := h.1 hk7
      refine Z_tableIn (q := 176) (off := 117) (by decide +kernel : decode mX11_about.2.1 59 = .ok (.tableswitch 138 0 7 #[45, 56, 67, 76, 82, 94, 103, 117], 45)) (by rw [hk7]; decide) (by rw [hk7]; decide) (by rw [hk7]; rfl) (by decide) ?_
      refine Z_aload_n (a := 0) (q := 177) (by decide +kernel) rfl rfl ?_
      refine Z_aload_n (a := 0) (q := 178) (by decide +kernel) rfl rfl ?_
      refine Z_aload_n (a := 0) (q := 179) (by decide +kernel) rfl rfl ?_
      refine Z_aload_n (a := 0) (q := 180) (by decide +kernel) rfl rfl ?_
      refine g11_14 (idx := 17) (q := 183) (by decide +kernel) fX11_17 rfl (by decide) (t11_14 hT) rfl ?_
      refine Z_iconst (a := 0) (v := 0) (q := 184) (by decide +kernel) (by decide +kernel) rfl ?_
      refine Z_iald (len := 35) (q := 185) (by decide +kernel) rfl (by decide) (by unfold vp_in; decide) rfl ?_
      refine Z_iconst (a := 1) (v := 1) (q := 186) (by decide +kernel) (by decide +kernel) rfl ?_
      refine Z_isub (q := 187) (by decide +kernel) rfl ?_
      obtain ⟨Q61, hm, h⟩ := h
      refine Z_callVi (M2 := mX11_ranked) (idx := 226) (d2 := d) (ci := 11) (As := [.int _]) (q := 190) (by decide +kernel) kX11_ranked lX11_226 rfl rfl (by decide) rfl rfl (by decide +kernel) (Nat.le_of_ble_eq_true rfl) (Nat.le_refl _) hm rfl (fun v66 iv62 rv63 lv64 hq => ?_)
      obtain ⟨hT65, h⟩ := h v66 iv62 rv63 lv64 hq
      obtain ⟨Q67, hm, h⟩ := h
      refine Z_callVi (M2 := mX11_value) (idx := 217) (d2 := d) (ci := 11) (As := [.int _]) (q := 193) (by decide +kernel) kX11_value lX11_217 rfl rfl (by decide) rfl rfl (by decide +kernel) (Nat.le_of_ble_eq_true rfl) (Nat.le_refl _) hm rfl (fun v72 iv68 rv69 lv70 hq => ?_)
      obtain ⟨hT71, h⟩ := h v72 iv68 rv69 lv70 hq
      obtain ⟨Q73, hm, h⟩ := h
      refine Z_callVi (M2 := mX11_good) (idx := 214) (d2 := d) (ci := 11) (As := [.int _]) (q := 196) (by decide +kernel) kX11_good lX11_214 rfl rfl (by decide) rfl rfl (by decide +kernel) (Nat.le_of_ble_eq_true rfl) (Nat.le_refl _) hm rfl (fun v78 iv74 rv75 lv76 hq => ?_)
      obtain ⟨hT77, h⟩ := h v78 iv74 rv75 lv76 hq
      exact Z_iret (ty := .int) (by decide +kernel) rfl rfl rfl ⟨_, rfl, h⟩
    replace h := h.2
    replace h := h hk0 hk1 hk2 hk3 hk4 hk5 hk6 hk7
    have hout : x1.toInt < 0 ∨ 7 < x1.toInt := by
      rcases Int.lt_or_le x1.toInt 0 with h1 | h1
      · exact Or.inl h1
      rcases Int.lt_or_le 7 x1.toInt with h2 | h2
      · exact Or.inr h2
      exfalso
      rcases (show x1.toInt = 0 ∨ x1.toInt = 1 ∨ x1.toInt = 2 ∨ x1.toInt = 3 ∨ x1.toInt = 4 ∨ x1.toInt = 5 ∨ x1.toInt = 6 ∨ x1.toInt = 7 by omega) with h3 | h3 | h3 | h3 | h3 | h3 | h3 | h3
      · exact hk0 (zeqI h3)
      · exact hk1 (zeqI h3)
      · exact hk2 (zeqI h3)
      · exact hk3 (zeqI h3)
      · exact hk4 (zeqI h3)
      · exact hk5 (zeqI h3)
      · exact hk6 (zeqI h3)
      · exact hk7 (zeqI h3)
    refine Z_tableOut (q := 197) (by decide +kernel : decode mX11_about.2.1 59 = .ok (.tableswitch 138 0 7 #[45, 56, 67, 76, 82, 94, 103, 117], 45)) hout (by decide) ?_
    refine Z_aload_n (a := 0) (q := 198) (by decide +kernel) rfl rfl ?_
    refine Z_iconst (a := 1) (v := 1) (q := 199) (by decide +kernel) (by decide +kernel) rfl ?_
    obtain ⟨Q79, hm, h⟩ := h
    refine Z_callVi (M2 := mX11_refused) (idx := 201) (d2 := d) (ci := 11) (As := [.int _]) (q := 202) (by decide +kernel) kX11_refused lX11_201 rfl rfl (by decide) rfl rfl (by decide +kernel) (Nat.le_of_ble_eq_true rfl) (Nat.le_refl _) hm rfl (fun v84 iv80 rv81 lv82 hq => ?_)
    obtain ⟨hT83, h⟩ := h v84 iv80 rv81 lv82 hq
    exact Z_iret (ty := .int) (by decide +kernel) rfl rfl rfl ⟨_, rfl, h⟩
  · replace h := h.2 hc
    refine Z_iload_n (a := 2) (q := 33) (by decide +kernel) rfl rfl ?_
    refine Z_aload_n (a := 0) (q := 34) (by decide +kernel) rfl rfl ?_
    refine g11_14 (idx := 17) (q := 37) (by decide +kernel) fX11_17 rfl (by decide) (t11_14 hT) rfl ?_
    refine Z_bipush (a := 12) (v := 12) (q := 39) (by decide +kernel) (by decide +kernel) rfl ?_
    refine Z_iload_n (a := 3) (q := 40) (by decide +kernel) rfl rfl ?_
    refine Z_iadd (q := 41) (by decide +kernel) rfl ?_
    obtain ⟨hin85, h⟩ := h
    refine Z_iald (len := 35) (q := 42) (by decide +kernel) rfl (by decide) hin85 rfl ?_
    refine Z_if_le (t := 49) (off := 7) (q := 45) (by decide +kernel) (by decide) rfl (fun hc => ?_) (fun hc => ?_)
    · replace h := h.1 hc
      refine Z_iconst (a := 0) (v := 0) (q := 50) (by decide +kernel) (by decide +kernel) rfl ?_
      refine Z_iadd (q := 51) (by decide +kernel) rfl ?_
      refine Z_istore_n (a := 2) (loc2 := [_, _, _, _]) (q := 52) (by decide +kernel) (by decide +kernel) rfl rfl rfl ?_
      refine Z_iinc (a := 3) (b := 1) (v := _ + 1) (loc2 := [_, _, _, _]) (q := 55) (by decide +kernel) rfl (zinc _) (by decide +kernel) rfl rfl rfl ?_
      refine Z_goto (q := 22) (off := -33) (by decide +kernel) (by decide) ?_
      exact h
    · replace h := h.2 hc
      refine Z_iconst (a := 1) (v := 1) (q := 46) (by decide +kernel) (by decide +kernel) rfl ?_
      refine Z_goto (q := 50) (off := 4) (by decide +kernel) (by decide) ?_
      refine Z_iadd (q := 51) (by decide +kernel) rfl ?_
      refine Z_istore_n (a := 2) (loc2 := [_, _, _, _]) (q := 52) (by decide +kernel) (by decide +kernel) rfl rfl rfl ?_
      refine Z_iinc (a := 3) (b := 1) (v := _ + 1) (loc2 := [_, _, _, _]) (q := 55) (by decide +kernel) rfl (zinc _) (by decide +kernel) rfl rfl rfl ?_
      refine Z_goto (q := 22) (off := -33) (by decide +kernel) (by decide) ?_
      exact h
theorem eX11_apartFrom {d : Nat} (x1 : Int32) {iv : zI} {rv : zR} {lv : zJ} {Q : Int32 → zI → zR → zJ → Prop} (h : Zi mX11_apartFrom (d + 1) 0 [some (.ref 174), some (.int x1), none, none] [] iv rv lv Q) : Ci mX11_apartFrom (d + 1) [.ref 174, .int x1] iv rv lv Q := Ci.of (by decide +kernel) (by simp [Value.category]) (Nat.le_of_ble_eq_true rfl) rfl h
set_option maxRecDepth 4000 in
theorem bX11_apartFrom_0 {d : Nat} (x1 : Int32) {iv : zI} {rv : zR} {lv : zJ} {Q : Int32 → zI → zR → zJ → Prop} (hT : zTop rv) 
    (h : Zi mX11_apartFrom (d + 1) 4 [some (.ref 174), some (.int x1), some (.int (0 : Int32)), some (.int (0 : Int32))] [] iv rv lv Q) :
    Zi mX11_apartFrom (d + 1) 0 [some (.ref 174), some (.int x1), none, none] [] iv rv lv Q := by
  unfold Zi
  refine Z_iconst (a := 0) (v := 0) (q := 1) (by decide +kernel) (by decide +kernel) rfl ?_
  refine Z_istore_n (a := 2) (loc2 := [_, _, _, _]) (q := 2) (by decide +kernel) (by decide +kernel) rfl rfl rfl ?_
  refine Z_iconst (a := 0) (v := 0) (q := 3) (by decide +kernel) (by decide +kernel) rfl ?_
  refine Z_istore_n (a := 3) (loc2 := [_, _, _, _]) (q := 4) (by decide +kernel) (by decide +kernel) rfl rfl rfl ?_
  exact h
set_option maxRecDepth 4000 in
theorem bX11_apartFrom_4 {d : Nat} (x1 : Int32) (x2 : Int32) (x3 : Int32) {iv : zI} {rv : zR} {lv : zJ} {Q : Int32 → zI → zR → zJ → Prop} (hT : zTop rv) 
    (h : ((iv 176 0) ≤ x3 → Q x2 iv rv lv) ∧ (¬ (iv 176 0) ≤ x3 → (x3 = x1 → Zi mX11_apartFrom (d + 1) 4 [some (.ref 174), some (.int x1), some (.int (x2 ||| (0 : Int32))), some (.int (x3 + 1))] [] iv rv lv Q) ∧ (¬ x3 = x1 → ∃ Q1 : Int32 → zI → zR → zJ → Prop, Ci mX11_pairOf d [.ref 176, .int x1, .int x3] iv rv lv Q1 ∧ ∀ (v6 : Int32) (iv2 : zI) (rv3 : zR) (lv4 : zJ), Q1 v6 iv2 rv3 lv4 → zTop rv3 ∧ ((v6 = (-1 : Int32) → Zi mX11_apartFrom (d + 1) 4 [some (.ref 174), some (.int x1), some (.int (x2 ||| (0 : Int32))), some (.int (x3 + 1))] [] iv2 rv3 lv4 Q) ∧ (¬ v6 = (-1 : Int32) → Zi mX11_apartFrom (d + 1) 4 [some (.ref 174), some (.int x1), some (.int (x2 ||| ((1 : Int32) <<< (x3 &&& 31)))), some (.int (x3 + 1))] [] iv2 rv3 lv4 Q))))) :
    Zi mX11_apartFrom (d + 1) 4 [some (.ref 174), some (.int x1), some (.int x2), some (.int x3)] [] iv rv lv Q := by
  unfold Zi
  refine Z_iload_n (a := 3) (q := 5) (by decide +kernel) rfl rfl ?_
  refine Z_aload_n (a := 0) (q := 6) (by decide +kernel) rfl rfl ?_
  refine g11_14 (idx := 17) (q := 9) (by decide +kernel) fX11_17 rfl (by decide) (t11_14 hT) rfl ?_
  refine Z_iconst (a := 0) (v := 0) (q := 10) (by decide +kernel) (by decide +kernel) rfl ?_
  refine Z_iald (len := 35) (q := 11) (by decide +kernel) rfl (by decide) (by unfold vp_in; decide) rfl ?_
  refine Z_icmp_ge (t := 48) (off := 37) (q := 14) (by decide +kernel) (by decide) rfl (fun hc => ?_) (fun hc => ?_)
  · replace h := h.1 hc
    refine Z_iload_n (a := 2) (q := 49) (by decide +kernel) rfl rfl ?_
    exact Z_iret (ty := .int) (by decide +kernel) rfl rfl rfl ⟨_, rfl, h⟩
  · replace h := h.2 hc
    refine Z_iload_n (a := 2) (q := 15) (by decide +kernel) rfl rfl ?_
    refine Z_iload_n (a := 3) (q := 16) (by decide +kernel) rfl rfl ?_
    refine Z_iload_n (a := 1) (q := 17) (by decide +kernel) rfl rfl ?_
    refine Z_icmp_eq (t := 39) (off := 22) (q := 20) (by decide +kernel) (by decide) rfl (fun hc => ?_) (fun hc => ?_)
    · replace h := h.1 hc
      refine Z_iconst (a := 0) (v := 0) (q := 40) (by decide +kernel) (by decide +kernel) rfl ?_
      refine Z_ior (q := 41) (by decide +kernel) rfl ?_
      refine Z_istore_n (a := 2) (loc2 := [_, _, _, _]) (q := 42) (by decide +kernel) (by decide +kernel) rfl rfl rfl ?_
      refine Z_iinc (a := 3) (b := 1) (v := _ + 1) (loc2 := [_, _, _, _]) (q := 45) (by decide +kernel) rfl (zinc _) (by decide +kernel) rfl rfl rfl ?_
      refine Z_goto (q := 4) (off := -41) (by decide +kernel) (by decide) ?_
      exact h
    · replace h := h.2 hc
      refine Z_aload_n (a := 0) (q := 21) (by decide +kernel) rfl rfl ?_
      refine g11_14 (idx := 17) (q := 24) (by decide +kernel) fX11_17 rfl (by decide) (t11_14 hT) rfl ?_
      refine Z_iload_n (a := 1) (q := 25) (by decide +kernel) rfl rfl ?_
      refine Z_iload_n (a := 3) (q := 26) (by decide +kernel) rfl rfl ?_
      obtain ⟨Q1, hm, h⟩ := h
      refine Z_callSi (M2 := mX11_pairOf) (idx := 176) (d2 := d) (As := [.ref _, .int _, .int _]) (q := 29) (by decide +kernel) kX11_pairOf lX11_176 rfl rfl (by decide +kernel) (Nat.le_of_ble_eq_true rfl) (Nat.le_refl _) hm rfl (fun v6 iv2 rv3 lv4 hq => ?_)
      obtain ⟨hT5, h⟩ := h v6 iv2 rv3 lv4 hq
      refine Z_iconst (a := -1) (v := -1) (q := 30) (by decide +kernel) (by decide +kernel) rfl ?_
      refine Z_icmp_eq (t := 39) (off := 9) (q := 33) (by decide +kernel) (by decide) rfl (fun hc => ?_) (fun hc => ?_)
      · replace h := h.1 hc
        refine Z_iconst (a := 0) (v := 0) (q := 40) (by decide +kernel) (by decide +kernel) rfl ?_
        refine Z_ior (q := 41) (by decide +kernel) rfl ?_
        refine Z_istore_n (a := 2) (loc2 := [_, _, _, _]) (q := 42) (by decide +kernel) (by decide +kernel) rfl rfl rfl ?_
        refine Z_iinc (a := 3) (b := 1) (v := _ + 1) (loc2 := [_, _, _, _]) (q := 45) (by decide +kernel) rfl (zinc _) (by decide +kernel) rfl rfl rfl ?_
        refine Z_goto (q := 4) (off := -41) (by decide +kernel) (by decide) ?_
        exact h
      · replace h := h.2 hc
        refine Z_iconst (a := 1) (v := 1) (q := 34) (by decide +kernel) (by decide +kernel) rfl ?_
        refine Z_iload_n (a := 3) (q := 35) (by decide +kernel) rfl rfl ?_
        refine Z_ishl (q := 36) (by decide +kernel) rfl ?_
        refine Z_goto (q := 40) (off := 4) (by decide +kernel) (by decide) ?_
        refine Z_ior (q := 41) (by decide +kernel) rfl ?_
        refine Z_istore_n (a := 2) (loc2 := [_, _, _, _]) (q := 42) (by decide +kernel) (by decide +kernel) rfl rfl rfl ?_
        refine Z_iinc (a := 3) (b := 1) (v := _ + 1) (loc2 := [_, _, _, _]) (q := 45) (by decide +kernel) rfl (zinc _) (by decide +kernel) rfl rfl rfl ?_
        refine Z_goto (q := 4) (off := -41) (by decide +kernel) (by decide) ?_
        exact h
theorem eX11_number {d : Nat} (x1 : Int32) (x2 : Int32) {iv : zI} {rv : zR} {lv : zJ} {Q : Int32 → zI → zR → zJ → Prop} (h : Zi mX11_number (d + 1) 0 [some (.ref 174), some (.int x1), some (.int x2)] [] iv rv lv Q) : Ci mX11_number (d + 1) [.ref 174, .int x1, .int x2] iv rv lv Q := Ci.of (by decide +kernel) (by simp [Value.category]) (Nat.le_of_ble_eq_true rfl) rfl h
set_option maxRecDepth 4000 in
theorem bX11_number_0 {d : Nat} (x1 : Int32) (x2 : Int32) {iv : zI} {rv : zR} {lv : zJ} {Q : Int32 → zI → zR → zJ → Prop} (hT : zTop rv) 
    (h : ∀ iv1 : zI, iv1 = zu iv 174 0 (0 : Int32) → ∃ Q2 : Int32 → zI → zR → zJ → Prop, Ci mX11_isNumber d [.ref 174, .int x1] iv1 rv lv Q2 ∧ ∀ (v7 : Int32) (iv3 : zI) (rv4 : zR) (lv5 : zJ), Q2 v7 iv3 rv4 lv5 → zTop rv4 ∧ ((v7 = 0 → ∃ Q8 : Int32 → zI → zR → zJ → Prop, Ci mX11_refused d [.ref 174, .int (1 : Int32)] iv3 rv4 lv5 Q8 ∧ ∀ (v13 : Int32) (iv9 : zI) (rv10 : zR) (lv11 : zJ), Q8 v13 iv9 rv10 lv11 → zTop rv10 ∧ (Q v13 iv9 rv10 lv11)) ∧ (¬ v7 = 0 → ∃ Q14 : Int32 → zI → zR → zJ → Prop, Ci mX11_in d [.int x2, .int (0 : Int32), .int (3 : Int32)] iv3 rv4 lv5 Q14 ∧ ∀ (v19 : Int32) (iv15 : zI) (rv16 : zR) (lv17 : zJ), Q14 v19 iv15 rv16 lv17 → zTop rv16 ∧ ((¬ v19 = 0 → (x2 = 0 → ∃ Q20 : Int32 → zI → zR → zJ → Prop, Ci mX11_value d [.ref 174, .int x1] iv15 rv16 lv17 Q20 ∧ ∀ (v25 : Int32) (iv21 : zI) (rv22 : zR) (lv23 : zJ), Q20 v25 iv21 rv22 lv23 → zTop rv22 ∧ (∃ Q26 : Int32 → zI → zR → zJ → Prop, Ci mX11_good d [.ref 174, .int v25] iv21 rv22 lv23 Q26 ∧ ∀ (v31 : Int32) (iv27 : zI) (rv28 : zR) (lv29 : zJ), Q26 v31 iv27 rv28 lv29 → zTop rv28 ∧ (Q v31 iv27 rv28 lv29))) ∧ (x2 = 1 → ∃ Q32 : Int32 → zI → zR → zJ → Prop, Ci mX11_rank d [.ref 174, .int x1] iv15 rv16 lv17 Q32 ∧ ∀ (v37 : Int32) (iv33 : zI) (rv34 : zR) (lv35 : zJ), Q32 v37 iv33 rv34 lv35 → zTop rv34 ∧ (∃ Q38 : Int32 → zI → zR → zJ → Prop, Ci mX11_good d [.ref 174, .int v37] iv33 rv34 lv35 Q38 ∧ ∀ (v43 : Int32) (iv39 : zI) (rv40 : zR) (lv41 : zJ), Q38 v43 iv39 rv40 lv41 → zTop rv40 ∧ (Q v43 iv39 rv40 lv41))) ∧ (x2 = 2 → vp_in ((12 : Int32) + x1) 35 ∧ ((¬ (iv15 176 ((12 : Int32) + x1).toNatClampNeg) = 0 → ∃ Q45 : Int32 → zI → zR → zJ → Prop, Ci mX11_good d [.ref 174, .int ((iv15 176 ((12 : Int32) + x1).toNatClampNeg) - (1 : Int32))] iv15 rv16 lv17 Q45 ∧ ∀ (v50 : Int32) (iv46 : zI) (rv47 : zR) (lv48 : zJ), Q45 v50 iv46 rv47 lv48 → zTop rv47 ∧ (Q v50 iv46 rv47 lv48)) ∧ ((iv15 176 ((12 : Int32) + x1).toNatClampNeg) = 0 → ∃ Q51 : Int32 → zI → zR → zJ → Prop, Ci mX11_good d [.ref 174, .int (-2 : Int32)] iv15 rv16 lv17 Q51 ∧ ∀ (v56 : Int32) (iv52 : zI) (rv53 : zR) (lv54 : zJ), Q51 v56 iv52 rv53 lv54 → zTop rv53 ∧ (Q v56 iv52 rv53 lv54)))) ∧ (¬ x2 = 0 → ¬ x2 = 1 → ¬ x2 = 2 → ∃ Q57 : Int32 → zI → zR → zJ → Prop, Ci mX11_apartFrom d [.ref 174, .int x1] iv15 rv16 lv17 Q57 ∧ ∀ (v62 : Int32) (iv58 : zI) (rv59 : zR) (lv60 : zJ), Q57 v62 iv58 rv59 lv60 → zTop rv59 ∧ (∃ Q63 : Int32 → zI → zR → zJ → Prop, Ci mX11_good d [.ref 174, .int v62] iv58 rv59 lv60 Q63 ∧ ∀ (v68 : Int32) (iv64 : zI) (rv65 : zR) (lv66 : zJ), Q63 v68 iv64 rv65 lv66 → zTop rv65 ∧ (Q v68 iv64 rv65 lv66)))) ∧ (v19 = 0 → ∃ Q69 : Int32 → zI → zR → zJ → Prop, Ci mX11_refused d [.ref 174, .int (1 : Int32)] iv15 rv16 lv17 Q69 ∧ ∀ (v74 : Int32) (iv70 : zI) (rv71 : zR) (lv72 : zJ), Q69 v74 iv70 rv71 lv72 → zTop rv71 ∧ (Q v74 iv70 rv71 lv72)))))) :
    Zi mX11_number (d + 1) 0 [some (.ref 174), some (.int x1), some (.int x2)] [] iv rv lv Q := by
  unfold Zi
  refine Z_aload_n (a := 0) (q := 1) (by decide +kernel) rfl rfl ?_
  refine Z_iconst (a := 0) (v := 0) (q := 2) (by decide +kernel) (by decide +kernel) rfl ?_
  refine p11_0 (idx := 87) (q := 5) (by decide +kernel) fX11_87 rfl (by decide) rfl ?_
  replace h := h _ rfl
  refine Z_aload_n (a := 0) (q := 6) (by decide +kernel) rfl rfl ?_
  refine Z_iload_n (a := 1) (q := 7) (by decide +kernel) rfl rfl ?_
  obtain ⟨Q2, hm, h⟩ := h
  refine Z_callVi (M2 := mX11_isNumber) (idx := 229) (d2 := d) (ci := 11) (As := [.int _]) (q := 10) (by decide +kernel) kX11_isNumber lX11_229 rfl rfl (by decide) rfl rfl (by decide +kernel) (Nat.le_of_ble_eq_true rfl) (Nat.le_refl _) hm rfl (fun v7 iv3 rv4 lv5 hq => ?_)
  obtain ⟨hT6, h⟩ := h v7 iv3 rv4 lv5 hq
  refine Z_if_eq (t := 22) (off := 12) (q := 13) (by decide +kernel) (by decide) rfl (fun hc => ?_) (fun hc => ?_)
  · replace h := h.1 hc
    refine Z_aload_n (a := 0) (q := 23) (by decide +kernel) rfl rfl ?_
    refine Z_iconst (a := 1) (v := 1) (q := 24) (by decide +kernel) (by decide +kernel) rfl ?_
    obtain ⟨Q8, hm, h⟩ := h
    refine Z_callVi (M2 := mX11_refused) (idx := 201) (d2 := d) (ci := 11) (As := [.int _]) (q := 27) (by decide +kernel) kX11_refused lX11_201 rfl rfl (by decide) rfl rfl (by decide +kernel) (Nat.le_of_ble_eq_true rfl) (Nat.le_refl _) hm rfl (fun v13 iv9 rv10 lv11 hq => ?_)
    obtain ⟨hT12, h⟩ := h v13 iv9 rv10 lv11 hq
    exact Z_iret (ty := .int) (by decide +kernel) rfl rfl rfl ⟨_, rfl, h⟩
  · replace h := h.2 hc
    refine Z_iload_n (a := 2) (q := 14) (by decide +kernel) rfl rfl ?_
    refine Z_iconst (a := 0) (v := 0) (q := 15) (by decide +kernel) (by decide +kernel) rfl ?_
    refine Z_iconst (a := 3) (v := 3) (q := 16) (by decide +kernel) (by decide +kernel) rfl ?_
    obtain ⟨Q14, hm, h⟩ := h
    refine Z_callSi (M2 := mX11_in) (idx := 112) (d2 := d) (As := [.int _, .int _, .int _]) (q := 19) (by decide +kernel) kX11_in lX11_112 rfl rfl (by decide +kernel) (Nat.le_of_ble_eq_true rfl) (Nat.le_refl _) hm rfl (fun v19 iv15 rv16 lv17 hq => ?_)
    obtain ⟨hT18, h⟩ := h v19 iv15 rv16 lv17 hq
    refine Z_if_ne (t := 28) (off := 9) (q := 22) (by decide +kernel) (by decide) rfl (fun hc => ?_) (fun hc => ?_)
    · replace h := h.1 hc
      refine Z_iload_n (a := 2) (q := 29) (by decide +kernel) rfl rfl ?_
      by_cases hk0 : x2 = 0
      · replace h := h.1 hk0
        refine Z_tableIn (q := 56) (off := 27) (by decide +kernel : decode mX11_number.2.1 29 = .ok (.tableswitch 80 0 2 #[27, 37, 47], 27)) (by rw [hk0]; decide) (by rw [hk0]; decide) (by rw [hk0]; rfl) (by decide) ?_
        refine Z_aload_n (a := 0) (q := 57) (by decide +kernel) rfl rfl ?_
        refine Z_aload_n (a := 0) (q := 58) (by decide +kernel) rfl rfl ?_
        refine Z_iload_n (a := 1) (q := 59) (by decide +kernel) rfl rfl ?_
        obtain ⟨Q20, hm, h⟩ := h
        refine Z_callVi (M2 := mX11_value) (idx := 217) (d2 := d) (ci := 11) (As := [.int _]) (q := 62) (by decide +kernel) kX11_value lX11_217 rfl rfl (by decide) rfl rfl (by decide +kernel) (Nat.le_of_ble_eq_true rfl) (Nat.le_refl _) hm rfl (fun v25 iv21 rv22 lv23 hq => ?_)
        obtain ⟨hT24, h⟩ := h v25 iv21 rv22 lv23 hq
        obtain ⟨Q26, hm, h⟩ := h
        refine Z_callVi (M2 := mX11_good) (idx := 214) (d2 := d) (ci := 11) (As := [.int _]) (q := 65) (by decide +kernel) kX11_good lX11_214 rfl rfl (by decide) rfl rfl (by decide +kernel) (Nat.le_of_ble_eq_true rfl) (Nat.le_refl _) hm rfl (fun v31 iv27 rv28 lv29 hq => ?_)
        obtain ⟨hT30, h⟩ := h v31 iv27 rv28 lv29 hq
        exact Z_iret (ty := .int) (by decide +kernel) rfl rfl rfl ⟨_, rfl, h⟩
      replace h := h.2
      by_cases hk1 : x2 = 1
      · replace h := h.1 hk1
        refine Z_tableIn (q := 66) (off := 37) (by decide +kernel : decode mX11_number.2.1 29 = .ok (.tableswitch 80 0 2 #[27, 37, 47], 27)) (by rw [hk1]; decide) (by rw [hk1]; decide) (by rw [hk1]; rfl) (by decide) ?_
        refine Z_aload_n (a := 0) (q := 67) (by decide +kernel) rfl rfl ?_
        refine Z_aload_n (a := 0) (q := 68) (by decide +kernel) rfl rfl ?_
        refine Z_iload_n (a := 1) (q := 69) (by decide +kernel) rfl rfl ?_
        obtain ⟨Q32, hm, h⟩ := h
        refine Z_callVi (M2 := mX11_rank) (idx := 220) (d2 := d) (ci := 11) (As := [.int _]) (q := 72) (by decide +kernel) kX11_rank lX11_220 rfl rfl (by decide) rfl rfl (by decide +kernel) (Nat.le_of_ble_eq_true rfl) (Nat.le_refl _) hm rfl (fun v37 iv33 rv34 lv35 hq => ?_)
        obtain ⟨hT36, h⟩ := h v37 iv33 rv34 lv35 hq
        obtain ⟨Q38, hm, h⟩ := h
        refine Z_callVi (M2 := mX11_good) (idx := 214) (d2 := d) (ci := 11) (As := [.int _]) (q := 75) (by decide +kernel) kX11_good lX11_214 rfl rfl (by decide) rfl rfl (by decide +kernel) (Nat.le_of_ble_eq_true rfl) (Nat.le_refl _) hm rfl (fun v43 iv39 rv40 lv41 hq => ?_)
        obtain ⟨hT42, h⟩ := h v43 iv39 rv40 lv41 hq
        exact Z_iret (ty := .int) (by decide +kernel) rfl rfl rfl ⟨_, rfl, h⟩
      replace h := h.2
      by_cases hk2 : x2 = 2
      · replace h := h.1 hk2
        refine Z_tableIn (q := 76) (off := 47) (by decide +kernel : decode mX11_number.2.1 29 = .ok (.tableswitch 80 0 2 #[27, 37, 47], 27)) (by rw [hk2]; decide) (by rw [hk2]; decide) (by rw [hk2]; rfl) (by decide) ?_
        refine Z_aload_n (a := 0) (q := 77) (by decide +kernel) rfl rfl ?_
        refine Z_aload_n (a := 0) (q := 78) (by decide +kernel) rfl rfl ?_
        refine g11_14 (idx := 17) (q := 81) (by decide +kernel) fX11_17 rfl (by decide) (t11_14 hT18) rfl ?_
        refine Z_bipush (a := 12) (v := 12) (q := 83) (by decide +kernel) (by decide +kernel) rfl ?_
        refine Z_iload_n (a := 1) (q := 84) (by decide +kernel) rfl rfl ?_
        refine Z_iadd (q := 85) (by decide +kernel) rfl ?_
        obtain ⟨hin44, h⟩ := h
        refine Z_iald (len := 35) (q := 86) (by decide +kernel) rfl (by decide) hin44 rfl ?_
        refine Z_if_ne (t := 94) (off := 8) (q := 89) (by decide +kernel) (by decide) rfl (fun hc => ?_) (fun hc => ?_)
        · replace h := h.1 hc
          refine Z_aload_n (a := 0) (q := 95) (by decide +kernel) rfl rfl ?_
          refine g11_14 (idx := 17) (q := 98) (by decide +kernel) fX11_17 rfl (by decide) (t11_14 hT18) rfl ?_
          refine Z_bipush (a := 12) (v := 12) (q := 100) (by decide +kernel) (by decide +kernel) rfl ?_
          refine Z_iload_n (a := 1) (q := 101) (by decide +kernel) rfl rfl ?_
          refine Z_iadd (q := 102) (by decide +kernel) rfl ?_
          refine Z_iald (len := 35) (q := 103) (by decide +kernel) rfl (by decide) hin44 rfl ?_
          refine Z_iconst (a := 1) (v := 1) (q := 104) (by decide +kernel) (by decide +kernel) rfl ?_
          refine Z_isub (q := 105) (by decide +kernel) rfl ?_
          obtain ⟨Q45, hm, h⟩ := h
          refine Z_callVi (M2 := mX11_good) (idx := 214) (d2 := d) (ci := 11) (As := [.int _]) (q := 108) (by decide +kernel) kX11_good lX11_214 rfl rfl (by decide) rfl rfl (by decide +kernel) (Nat.le_of_ble_eq_true rfl) (Nat.le_refl _) hm rfl (fun v50 iv46 rv47 lv48 hq => ?_)
          obtain ⟨hT49, h⟩ := h v50 iv46 rv47 lv48 hq
          exact Z_iret (ty := .int) (by decide +kernel) rfl rfl rfl ⟨_, rfl, h⟩
        · replace h := h.2 hc
          refine Z_bipush (a := -2) (v := -2) (q := 91) (by decide +kernel) (by decide +kernel) rfl ?_
          refine Z_goto (q := 105) (off := 14) (by decide +kernel) (by decide) ?_
          obtain ⟨Q51, hm, h⟩ := h
          refine Z_callVi (M2 := mX11_good) (idx := 214) (d2 := d) (ci := 11) (As := [.int _]) (q := 108) (by decide +kernel) kX11_good lX11_214 rfl rfl (by decide) rfl rfl (by decide +kernel) (Nat.le_of_ble_eq_true rfl) (Nat.le_refl _) hm rfl (fun v56 iv52 rv53 lv54 hq => ?_)
          obtain ⟨hT55, h⟩ := h v56 iv52 rv53 lv54 hq
          exact Z_iret (ty := .int) (by decide +kernel) rfl rfl rfl ⟨_, rfl, h⟩
      replace h := h.2
      replace h := h hk0 hk1 hk2
      have hout : x2.toInt < 0 ∨ 2 < x2.toInt := by
        rcases Int.lt_or_le x2.toInt 0 with h1 | h1
        · exact Or.inl h1
        rcases Int.lt_or_le 2 x2.toInt with h2 | h2
        · exact Or.inr h2
        exfalso
        rcases (show x2.toInt = 0 ∨ x2.toInt = 1 ∨ x2.toInt = 2 by omega) with h3 | h3 | h3
        · exact hk0 (zeqI h3)
        · exact hk1 (zeqI h3)
        · exact hk2 (zeqI h3)
      refine Z_tableOut (q := 109) (by decide +kernel : decode mX11_number.2.1 29 = .ok (.tableswitch 80 0 2 #[27, 37, 47], 27)) hout (by decide) ?_
      refine Z_aload_n (a := 0) (q := 110) (by decide +kernel) rfl rfl ?_
      refine Z_aload_n (a := 0) (q := 111) (by decide +kernel) rfl rfl ?_
      refine Z_iload_n (a := 1) (q := 112) (by decide +kernel) rfl rfl ?_
      obtain ⟨Q57, hm, h⟩ := h
      refine Z_callVi (M2 := mX11_apartFrom) (idx := 232) (d2 := d) (ci := 11) (As := [.int _]) (q := 115) (by decide +kernel) kX11_apartFrom lX11_232 rfl rfl (by decide) rfl rfl (by decide +kernel) (Nat.le_of_ble_eq_true rfl) (Nat.le_refl _) hm rfl (fun v62 iv58 rv59 lv60 hq => ?_)
      obtain ⟨hT61, h⟩ := h v62 iv58 rv59 lv60 hq
      obtain ⟨Q63, hm, h⟩ := h
      refine Z_callVi (M2 := mX11_good) (idx := 214) (d2 := d) (ci := 11) (As := [.int _]) (q := 118) (by decide +kernel) kX11_good lX11_214 rfl rfl (by decide) rfl rfl (by decide +kernel) (Nat.le_of_ble_eq_true rfl) (Nat.le_refl _) hm rfl (fun v68 iv64 rv65 lv66 hq => ?_)
      obtain ⟨hT67, h⟩ := h v68 iv64 rv65 lv66 hq
      exact Z_iret (ty := .int) (by decide +kernel) rfl rfl rfl ⟨_, rfl, h⟩
    · replace h := h.2 hc
      refine Z_aload_n (a := 0) (q := 23) (by decide +kernel) rfl rfl ?_
      refine Z_iconst (a := 1) (v := 1) (q := 24) (by decide +kernel) (by decide +kernel) rfl ?_
      obtain ⟨Q69, hm, h⟩ := h
      refine Z_callVi (M2 := mX11_refused) (idx := 201) (d2 := d) (ci := 11) (As := [.int _]) (q := 27) (by decide +kernel) kX11_refused lX11_201 rfl rfl (by decide) rfl rfl (by decide +kernel) (Nat.le_of_ble_eq_true rfl) (Nat.le_refl _) hm rfl (fun v74 iv70 rv71 lv72 hq => ?_)
      obtain ⟨hT73, h⟩ := h v74 iv70 rv71 lv72 hq
      exact Z_iret (ty := .int) (by decide +kernel) rfl rfl rfl ⟨_, rfl, h⟩
theorem eX11_sized {d : Nat} (x1 : Int32) {iv : zI} {rv : zR} {lv : zJ} {Q : Int32 → zI → zR → zJ → Prop} (h : Zi mX11_sized (d + 1) 0 [some (.ref 174), some (.int x1)] [] iv rv lv Q) : Ci mX11_sized (d + 1) [.ref 174, .int x1] iv rv lv Q := Ci.of (by decide +kernel) (by simp [Value.category]) (Nat.le_of_ble_eq_true rfl) rfl h
set_option maxRecDepth 4000 in
theorem bX11_sized_0 {d : Nat} (x1 : Int32) {iv : zI} {rv : zR} {lv : zJ} {Q : Int32 → zI → zR → zJ → Prop} (hT : zTop rv) 
    (h : ∀ iv1 : zI, iv1 = zu iv 174 0 (0 : Int32) → ∃ Q2 : Int32 → zI → zR → zJ → Prop, Ci mX11_isNumber d [.ref 174, .int x1] iv1 rv lv Q2 ∧ ∀ (v7 : Int32) (iv3 : zI) (rv4 : zR) (lv5 : zJ), Q2 v7 iv3 rv4 lv5 → zTop rv4 ∧ ((v7 = 0 → ∃ Q8 : Int32 → zI → zR → zJ → Prop, Ci mX11_refused d [.ref 174, .int (1 : Int32)] iv3 rv4 lv5 Q8 ∧ ∀ (v13 : Int32) (iv9 : zI) (rv10 : zR) (lv11 : zJ), Q8 v13 iv9 rv10 lv11 → zTop rv10 ∧ (Q v13 iv9 rv10 lv11)) ∧ (¬ v7 = 0 → ∃ Q14 : Int32 → zI → zR → zJ → Prop, Ci mX11_ranked d [.ref 174, .int x1] iv3 rv4 lv5 Q14 ∧ ∀ (v19 : Int32) (iv15 : zI) (rv16 : zR) (lv17 : zJ), Q14 v19 iv15 rv16 lv17 → zTop rv16 ∧ (∃ Q20 : Int32 → zI → zR → zJ → Prop, Ci mX11_good d [.ref 174, .int v19] iv15 rv16 lv17 Q20 ∧ ∀ (v25 : Int32) (iv21 : zI) (rv22 : zR) (lv23 : zJ), Q20 v25 iv21 rv22 lv23 → zTop rv22 ∧ (Q v25 iv21 rv22 lv23))))) :
    Zi mX11_sized (d + 1) 0 [some (.ref 174), some (.int x1)] [] iv rv lv Q := by
  unfold Zi
  refine Z_aload_n (a := 0) (q := 1) (by decide +kernel) rfl rfl ?_
  refine Z_iconst (a := 0) (v := 0) (q := 2) (by decide +kernel) (by decide +kernel) rfl ?_
  refine p11_0 (idx := 87) (q := 5) (by decide +kernel) fX11_87 rfl (by decide) rfl ?_
  replace h := h _ rfl
  refine Z_aload_n (a := 0) (q := 6) (by decide +kernel) rfl rfl ?_
  refine Z_iload_n (a := 1) (q := 7) (by decide +kernel) rfl rfl ?_
  obtain ⟨Q2, hm, h⟩ := h
  refine Z_callVi (M2 := mX11_isNumber) (idx := 229) (d2 := d) (ci := 11) (As := [.int _]) (q := 10) (by decide +kernel) kX11_isNumber lX11_229 rfl rfl (by decide) rfl rfl (by decide +kernel) (Nat.le_of_ble_eq_true rfl) (Nat.le_refl _) hm rfl (fun v7 iv3 rv4 lv5 hq => ?_)
  obtain ⟨hT6, h⟩ := h v7 iv3 rv4 lv5 hq
  refine Z_if_eq (t := 25) (off := 15) (q := 13) (by decide +kernel) (by decide) rfl (fun hc => ?_) (fun hc => ?_)
  · replace h := h.1 hc
    refine Z_aload_n (a := 0) (q := 26) (by decide +kernel) rfl rfl ?_
    refine Z_iconst (a := 1) (v := 1) (q := 27) (by decide +kernel) (by decide +kernel) rfl ?_
    obtain ⟨Q8, hm, h⟩ := h
    refine Z_callVi (M2 := mX11_refused) (idx := 201) (d2 := d) (ci := 11) (As := [.int _]) (q := 30) (by decide +kernel) kX11_refused lX11_201 rfl rfl (by decide) rfl rfl (by decide +kernel) (Nat.le_of_ble_eq_true rfl) (Nat.le_refl _) hm rfl (fun v13 iv9 rv10 lv11 hq => ?_)
    obtain ⟨hT12, h⟩ := h v13 iv9 rv10 lv11 hq
    exact Z_iret (ty := .int) (by decide +kernel) rfl rfl rfl ⟨_, rfl, h⟩
  · replace h := h.2 hc
    refine Z_aload_n (a := 0) (q := 14) (by decide +kernel) rfl rfl ?_
    refine Z_aload_n (a := 0) (q := 15) (by decide +kernel) rfl rfl ?_
    refine Z_iload_n (a := 1) (q := 16) (by decide +kernel) rfl rfl ?_
    obtain ⟨Q14, hm, h⟩ := h
    refine Z_callVi (M2 := mX11_ranked) (idx := 226) (d2 := d) (ci := 11) (As := [.int _]) (q := 19) (by decide +kernel) kX11_ranked lX11_226 rfl rfl (by decide) rfl rfl (by decide +kernel) (Nat.le_of_ble_eq_true rfl) (Nat.le_refl _) hm rfl (fun v19 iv15 rv16 lv17 hq => ?_)
    obtain ⟨hT18, h⟩ := h v19 iv15 rv16 lv17 hq
    obtain ⟨Q20, hm, h⟩ := h
    refine Z_callVi (M2 := mX11_good) (idx := 214) (d2 := d) (ci := 11) (As := [.int _]) (q := 22) (by decide +kernel) kX11_good lX11_214 rfl rfl (by decide) rfl rfl (by decide +kernel) (Nat.le_of_ble_eq_true rfl) (Nat.le_refl _) hm rfl (fun v25 iv21 rv22 lv23 hq => ?_)
    obtain ⟨hT24, h⟩ := h v25 iv21 rv22 lv23 hq
    refine Z_goto (q := 30) (off := 8) (by decide +kernel) (by decide) ?_
    exact Z_iret (ty := .int) (by decide +kernel) rfl rfl rfl ⟨_, rfl, h⟩
theorem eX11_sums0 {d : Nat} (x1 : Int32) {iv : zI} {rv : zR} {lv : zJ} {Q : zI → zR → zJ → Prop} (h : Zv mX11_sums0 (d + 1) 0 [some (.ref 174), some (.int x1), none] [] iv rv lv Q) : Cv mX11_sums0 (d + 1) [.ref 174, .int x1] iv rv lv Q := Cv.of (by decide +kernel) (by simp [Value.category]) (Nat.le_of_ble_eq_true rfl) rfl h
set_option maxRecDepth 4000 in
theorem bX11_sums0_0 {d : Nat} (x1 : Int32) {iv : zI} {rv : zR} {lv : zJ} {Q : zI → zR → zJ → Prop} (hT : zTop rv) 
    (h : Zv mX11_sums0 (d + 1) 2 [some (.ref 174), some (.int x1), some (.int (0 : Int32))] [] iv rv lv Q) :
    Zv mX11_sums0 (d + 1) 0 [some (.ref 174), some (.int x1), none] [] iv rv lv Q := by
  unfold Zv
  refine Z_iconst (a := 0) (v := 0) (q := 1) (by decide +kernel) (by decide +kernel) rfl ?_
  refine Z_istore_n (a := 2) (loc2 := [_, _, _]) (q := 2) (by decide +kernel) (by decide +kernel) rfl rfl rfl ?_
  exact h
set_option maxRecDepth 4000 in
theorem bX11_sums0_2 {d : Nat} (x1 : Int32) (x2 : Int32) {iv : zI} {rv : zR} {lv : zJ} {Q : zI → zR → zJ → Prop} (hT : zTop rv) 
    (h : ((4 : Int32) ≤ x2 → Zv mX11_sums0 (d + 1) 22 [some (.ref 174), some (.int x1), some (.int (0 : Int32))] [] iv rv lv Q) ∧ (¬ (4 : Int32) ≤ x2 → vp_in x2 4 ∧ (∀ iv2 : zI, iv2 = zu iv 182 x2.toNatClampNeg (0 : Int32) → Zv mX11_sums0 (d + 1) 2 [some (.ref 174), some (.int x1), some (.int (x2 + 1))] [] iv2 rv lv Q))) :
    Zv mX11_sums0 (d + 1) 2 [some (.ref 174), some (.int x1), some (.int x2)] [] iv rv lv Q := by
  unfold Zv
  refine Z_iload_n (a := 2) (q := 3) (by decide +kernel) rfl rfl ?_
  refine Z_iconst (a := 4) (v := 4) (q := 4) (by decide +kernel) (by decide +kernel) rfl ?_
  refine Z_icmp_ge (t := 20) (off := 16) (q := 7) (by decide +kernel) (by decide) rfl (fun hc => ?_) (fun hc => ?_)
  · replace h := h.1 hc
    refine Z_iconst (a := 0) (v := 0) (q := 21) (by decide +kernel) (by decide +kernel) rfl ?_
    refine Z_istore_n (a := 2) (loc2 := [_, _, _]) (q := 22) (by decide +kernel) (by decide +kernel) rfl rfl rfl ?_
    exact h
  · replace h := h.2 hc
    refine Z_aload_n (a := 0) (q := 8) (by decide +kernel) rfl rfl ?_
    refine g11_23 (idx := 36) (q := 11) (by decide +kernel) fX11_36 rfl (by decide) (t11_23 hT) rfl ?_
    refine Z_iload_n (a := 2) (q := 12) (by decide +kernel) rfl rfl ?_
    refine Z_iconst (a := 0) (v := 0) (q := 13) (by decide +kernel) (by decide +kernel) rfl ?_
    obtain ⟨hin1, h⟩ := h
    refine Z_iast (len := 4) (q := 14) (by decide +kernel) rfl (by decide) hin1 rfl ?_
    replace h := h _ rfl
    refine Z_iinc (a := 2) (b := 1) (v := _ + 1) (loc2 := [_, _, _]) (q := 17) (by decide +kernel) rfl (zinc _) (by decide +kernel) rfl rfl rfl ?_
    refine Z_goto (q := 2) (off := -15) (by decide +kernel) (by decide) ?_
    exact h
set_option maxRecDepth 4000 in
theorem bX11_sums0_22 {d : Nat} (x1 : Int32) (x2 : Int32) {iv : zI} {rv : zR} {lv : zJ} {Q : zI → zR → zJ → Prop} (hT : zTop rv) 
    (h : ((iv 176 0) ≤ x2 → Q iv rv lv) ∧ (¬ (iv 176 0) ≤ x2 → vp_in x2 10 ∧ (vp_in (iv 181 x2.toNatClampNeg) 4 ∧ (∃ Q3 : Int32 → zI → zR → zJ → Prop, Ci mX11_value d [.ref 174, .int x2] iv rv lv Q3 ∧ ∀ (v8 : Int32) (iv4 : zI) (rv5 : zR) (lv6 : zJ), Q3 v8 iv4 rv5 lv6 → zTop rv5 ∧ (∀ iv9 : zI, iv9 = zu iv4 182 (iv 181 x2.toNatClampNeg).toNatClampNeg ((iv 182 (iv 181 x2.toNatClampNeg).toNatClampNeg) + v8) → Zv mX11_sums0 (d + 1) 22 [some (.ref 174), some (.int x1), some (.int (x2 + 1))] [] iv9 rv5 lv6 Q))))) :
    Zv mX11_sums0 (d + 1) 22 [some (.ref 174), some (.int x1), some (.int x2)] [] iv rv lv Q := by
  unfold Zv
  refine Z_iload_n (a := 2) (q := 23) (by decide +kernel) rfl rfl ?_
  refine Z_aload_n (a := 0) (q := 24) (by decide +kernel) rfl rfl ?_
  refine g11_14 (idx := 17) (q := 27) (by decide +kernel) fX11_17 rfl (by decide) (t11_14 hT) rfl ?_
  refine Z_iconst (a := 0) (v := 0) (q := 28) (by decide +kernel) (by decide +kernel) rfl ?_
  refine Z_iald (len := 35) (q := 29) (by decide +kernel) rfl (by decide) (by unfold vp_in; decide) rfl ?_
  refine Z_icmp_ge (t := 57) (off := 28) (q := 32) (by decide +kernel) (by decide) rfl (fun hc => ?_) (fun hc => ?_)
  · replace h := h.1 hc
    exact Z_vret (by decide +kernel) rfl rfl ⟨rfl, h⟩
  · replace h := h.2 hc
    refine Z_aload_n (a := 0) (q := 33) (by decide +kernel) rfl rfl ?_
    refine g11_23 (idx := 36) (q := 36) (by decide +kernel) fX11_36 rfl (by decide) (t11_23 hT) rfl ?_
    refine Z_aload_n (a := 0) (q := 37) (by decide +kernel) rfl rfl ?_
    refine g11_22 (idx := 33) (q := 40) (by decide +kernel) fX11_33 rfl (by decide) (t11_22 hT) rfl ?_
    refine Z_iload_n (a := 2) (q := 41) (by decide +kernel) rfl rfl ?_
    obtain ⟨hin1, h⟩ := h
    refine Z_iald (len := 10) (q := 42) (by decide +kernel) rfl (by decide) hin1 rfl ?_
    refine Z_dup2 (q := 43) (by decide +kernel) rfl rfl rfl ?_
    obtain ⟨hin2, h⟩ := h
    refine Z_iald (len := 4) (q := 44) (by decide +kernel) rfl (by decide) hin2 rfl ?_
    refine Z_aload_n (a := 0) (q := 45) (by decide +kernel) rfl rfl ?_
    refine Z_iload_n (a := 2) (q := 46) (by decide +kernel) rfl rfl ?_
    obtain ⟨Q3, hm, h⟩ := h
    refine Z_callVi (M2 := mX11_value) (idx := 217) (d2 := d) (ci := 11) (As := [.int _]) (q := 49) (by decide +kernel) kX11_value lX11_217 rfl rfl (by decide) rfl rfl (by decide +kernel) (Nat.le_of_ble_eq_true rfl) (Nat.le_refl _) hm rfl (fun v8 iv4 rv5 lv6 hq => ?_)
    obtain ⟨hT7, h⟩ := h v8 iv4 rv5 lv6 hq
    refine Z_iadd (q := 50) (by decide +kernel) rfl ?_
    refine Z_iast (len := 4) (q := 51) (by decide +kernel) rfl (by decide) hin2 rfl ?_
    replace h := h _ rfl
    refine Z_iinc (a := 2) (b := 1) (v := _ + 1) (loc2 := [_, _, _]) (q := 54) (by decide +kernel) rfl (zinc _) (by decide +kernel) rfl rfl rfl ?_
    refine Z_goto (q := 22) (off := -32) (by decide +kernel) (by decide) ?_
    exact h
theorem eX11_spread {d : Nat} (x1 : Int32) {iv : zI} {rv : zR} {lv : zJ} {Q : Int32 → zI → zR → zJ → Prop} (h : Zi mX11_spread (d + 1) 0 [some (.ref 174), some (.int x1), none, none] [] iv rv lv Q) : Ci mX11_spread (d + 1) [.ref 174, .int x1] iv rv lv Q := Ci.of (by decide +kernel) (by simp [Value.category]) (Nat.le_of_ble_eq_true rfl) rfl h
set_option maxRecDepth 4000 in
theorem bX11_spread_0 {d : Nat} (x1 : Int32) {iv : zI} {rv : zR} {lv : zJ} {Q : Int32 → zI → zR → zJ → Prop} (hT : zTop rv) 
    (h : Zi mX11_spread (d + 1) 9 [some (.ref 174), some (.int x1), some (.int (iv 182 0)), some (.int (1 : Int32))] [] iv rv lv Q) :
    Zi mX11_spread (d + 1) 0 [some (.ref 174), some (.int x1), none, none] [] iv rv lv Q := by
  unfold Zi
  refine Z_aload_n (a := 0) (q := 1) (by decide +kernel) rfl rfl ?_
  refine g11_23 (idx := 36) (q := 4) (by decide +kernel) fX11_36 rfl (by decide) (t11_23 hT) rfl ?_
  refine Z_iconst (a := 0) (v := 0) (q := 5) (by decide +kernel) (by decide +kernel) rfl ?_
  refine Z_iald (len := 4) (q := 6) (by decide +kernel) rfl (by decide) (by unfold vp_in; decide) rfl ?_
  refine Z_istore_n (a := 2) (loc2 := [_, _, _, _]) (q := 7) (by decide +kernel) (by decide +kernel) rfl rfl rfl ?_
  refine Z_iconst (a := 1) (v := 1) (q := 8) (by decide +kernel) (by decide +kernel) rfl ?_
  refine Z_istore_n (a := 3) (loc2 := [_, _, _, _]) (q := 9) (by decide +kernel) (by decide +kernel) rfl rfl rfl ?_
  exact h
set_option maxRecDepth 4000 in
theorem bX11_spread_9 {d : Nat} (x1 : Int32) (x2 : Int32) (x3 : Int32) {iv : zI} {rv : zR} {lv : zJ} {Q : Int32 → zI → zR → zJ → Prop} (hT : zTop rv) 
    (h : (x1 ≤ x3 → ∃ Q1 : Int32 → zI → zR → zJ → Prop, Ci mX11_top d [.ref 174, .int x1] iv rv lv Q1 ∧ ∀ (v6 : Int32) (iv2 : zI) (rv3 : zR) (lv4 : zJ), Q1 v6 iv2 rv3 lv4 → zTop rv3 ∧ (Q (v6 - x2) iv2 rv3 lv4)) ∧ (¬ x1 ≤ x3 → vp_in x3 4 ∧ ((x2 ≤ (iv 182 x3.toNatClampNeg) → Zi mX11_spread (d + 1) 9 [some (.ref 174), some (.int x1), some (.int x2), some (.int (x3 + 1))] [] iv rv lv Q) ∧ (¬ x2 ≤ (iv 182 x3.toNatClampNeg) → Zi mX11_spread (d + 1) 9 [some (.ref 174), some (.int x1), some (.int (iv 182 x3.toNatClampNeg)), some (.int (x3 + 1))] [] iv rv lv Q)))) :
    Zi mX11_spread (d + 1) 9 [some (.ref 174), some (.int x1), some (.int x2), some (.int x3)] [] iv rv lv Q := by
  unfold Zi
  refine Z_iload_n (a := 3) (q := 10) (by decide +kernel) rfl rfl ?_
  refine Z_iload_n (a := 1) (q := 11) (by decide +kernel) rfl rfl ?_
  refine Z_icmp_ge (t := 41) (off := 30) (q := 14) (by decide +kernel) (by decide) rfl (fun hc => ?_) (fun hc => ?_)
  · replace h := h.1 hc
    refine Z_aload_n (a := 0) (q := 42) (by decide +kernel) rfl rfl ?_
    refine Z_iload_n (a := 1) (q := 43) (by decide +kernel) rfl rfl ?_
    obtain ⟨Q1, hm, h⟩ := h
    refine Z_callVi (M2 := mX11_top) (idx := 235) (d2 := d) (ci := 11) (As := [.int _]) (q := 46) (by decide +kernel) kX11_top lX11_235 rfl rfl (by decide) rfl rfl (by decide +kernel) (Nat.le_of_ble_eq_true rfl) (Nat.le_refl _) hm rfl (fun v6 iv2 rv3 lv4 hq => ?_)
    obtain ⟨hT5, h⟩ := h v6 iv2 rv3 lv4 hq
    refine Z_iload_n (a := 2) (q := 47) (by decide +kernel) rfl rfl ?_
    refine Z_isub (q := 48) (by decide +kernel) rfl ?_
    exact Z_iret (ty := .int) (by decide +kernel) rfl rfl rfl ⟨_, rfl, h⟩
  · replace h := h.2 hc
    refine Z_aload_n (a := 0) (q := 15) (by decide +kernel) rfl rfl ?_
    refine g11_23 (idx := 36) (q := 18) (by decide +kernel) fX11_36 rfl (by decide) (t11_23 hT) rfl ?_
    refine Z_iload_n (a := 3) (q := 19) (by decide +kernel) rfl rfl ?_
    obtain ⟨hin7, h⟩ := h
    refine Z_iald (len := 4) (q := 20) (by decide +kernel) rfl (by decide) hin7 rfl ?_
    refine Z_iload_n (a := 2) (q := 21) (by decide +kernel) rfl rfl ?_
    refine Z_icmp_ge (t := 33) (off := 12) (q := 24) (by decide +kernel) (by decide) rfl (fun hc => ?_) (fun hc => ?_)
    · replace h := h.1 hc
      refine Z_iload_n (a := 2) (q := 34) (by decide +kernel) rfl rfl ?_
      refine Z_istore_n (a := 2) (loc2 := [_, _, _, _]) (q := 35) (by decide +kernel) (by decide +kernel) rfl rfl rfl ?_
      refine Z_iinc (a := 3) (b := 1) (v := _ + 1) (loc2 := [_, _, _, _]) (q := 38) (by decide +kernel) rfl (zinc _) (by decide +kernel) rfl rfl rfl ?_
      refine Z_goto (q := 9) (off := -29) (by decide +kernel) (by decide) ?_
      exact h
    · replace h := h.2 hc
      refine Z_aload_n (a := 0) (q := 25) (by decide +kernel) rfl rfl ?_
      refine g11_23 (idx := 36) (q := 28) (by decide +kernel) fX11_36 rfl (by decide) (t11_23 hT) rfl ?_
      refine Z_iload_n (a := 3) (q := 29) (by decide +kernel) rfl rfl ?_
      refine Z_iald (len := 4) (q := 30) (by decide +kernel) rfl (by decide) hin7 rfl ?_
      refine Z_goto (q := 34) (off := 4) (by decide +kernel) (by decide) ?_
      refine Z_istore_n (a := 2) (loc2 := [_, _, _, _]) (q := 35) (by decide +kernel) (by decide +kernel) rfl rfl rfl ?_
      refine Z_iinc (a := 3) (b := 1) (v := _ + 1) (loc2 := [_, _, _, _]) (q := 38) (by decide +kernel) rfl (zinc _) (by decide +kernel) rfl rfl rfl ?_
      refine Z_goto (q := 9) (off := -29) (by decide +kernel) (by decide) ?_
      exact h
theorem eX11_top {d : Nat} (x1 : Int32) {iv : zI} {rv : zR} {lv : zJ} {Q : Int32 → zI → zR → zJ → Prop} (h : Zi mX11_top d 0 [some (.ref 174), some (.int x1), none, none] [] iv rv lv Q) : Ci mX11_top d [.ref 174, .int x1] iv rv lv Q := Ci.of (by decide +kernel) (by simp [Value.category]) (Nat.le_of_ble_eq_true rfl) rfl h
set_option maxRecDepth 4000 in
theorem bX11_top_0 {d : Nat} (x1 : Int32) {iv : zI} {rv : zR} {lv : zJ} {Q : Int32 → zI → zR → zJ → Prop} (hT : zTop rv) 
    (h : Zi mX11_top d 9 [some (.ref 174), some (.int x1), some (.int (iv 182 0)), some (.int (1 : Int32))] [] iv rv lv Q) :
    Zi mX11_top d 0 [some (.ref 174), some (.int x1), none, none] [] iv rv lv Q := by
  unfold Zi
  refine Z_aload_n (a := 0) (q := 1) (by decide +kernel) rfl rfl ?_
  refine g11_23 (idx := 36) (q := 4) (by decide +kernel) fX11_36 rfl (by decide) (t11_23 hT) rfl ?_
  refine Z_iconst (a := 0) (v := 0) (q := 5) (by decide +kernel) (by decide +kernel) rfl ?_
  refine Z_iald (len := 4) (q := 6) (by decide +kernel) rfl (by decide) (by unfold vp_in; decide) rfl ?_
  refine Z_istore_n (a := 2) (loc2 := [_, _, _, _]) (q := 7) (by decide +kernel) (by decide +kernel) rfl rfl rfl ?_
  refine Z_iconst (a := 1) (v := 1) (q := 8) (by decide +kernel) (by decide +kernel) rfl ?_
  refine Z_istore_n (a := 3) (loc2 := [_, _, _, _]) (q := 9) (by decide +kernel) (by decide +kernel) rfl rfl rfl ?_
  exact h
set_option maxRecDepth 4000 in
theorem bX11_top_9 {d : Nat} (x1 : Int32) (x2 : Int32) (x3 : Int32) {iv : zI} {rv : zR} {lv : zJ} {Q : Int32 → zI → zR → zJ → Prop} (hT : zTop rv) 
    (h : (x1 ≤ x3 → Q x2 iv rv lv) ∧ (¬ x1 ≤ x3 → vp_in x3 4 ∧ (((iv 182 x3.toNatClampNeg) ≤ x2 → Zi mX11_top d 9 [some (.ref 174), some (.int x1), some (.int x2), some (.int (x3 + 1))] [] iv rv lv Q) ∧ (¬ (iv 182 x3.toNatClampNeg) ≤ x2 → Zi mX11_top d 9 [some (.ref 174), some (.int x1), some (.int (iv 182 x3.toNatClampNeg)), some (.int (x3 + 1))] [] iv rv lv Q)))) :
    Zi mX11_top d 9 [some (.ref 174), some (.int x1), some (.int x2), some (.int x3)] [] iv rv lv Q := by
  unfold Zi
  refine Z_iload_n (a := 3) (q := 10) (by decide +kernel) rfl rfl ?_
  refine Z_iload_n (a := 1) (q := 11) (by decide +kernel) rfl rfl ?_
  refine Z_icmp_ge (t := 41) (off := 30) (q := 14) (by decide +kernel) (by decide) rfl (fun hc => ?_) (fun hc => ?_)
  · replace h := h.1 hc
    refine Z_iload_n (a := 2) (q := 42) (by decide +kernel) rfl rfl ?_
    exact Z_iret (ty := .int) (by decide +kernel) rfl rfl rfl ⟨_, rfl, h⟩
  · replace h := h.2 hc
    refine Z_aload_n (a := 0) (q := 15) (by decide +kernel) rfl rfl ?_
    refine g11_23 (idx := 36) (q := 18) (by decide +kernel) fX11_36 rfl (by decide) (t11_23 hT) rfl ?_
    refine Z_iload_n (a := 3) (q := 19) (by decide +kernel) rfl rfl ?_
    obtain ⟨hin1, h⟩ := h
    refine Z_iald (len := 4) (q := 20) (by decide +kernel) rfl (by decide) hin1 rfl ?_
    refine Z_iload_n (a := 2) (q := 21) (by decide +kernel) rfl rfl ?_
    refine Z_icmp_le (t := 33) (off := 12) (q := 24) (by decide +kernel) (by decide) rfl (fun hc => ?_) (fun hc => ?_)
    · replace h := h.1 hc
      refine Z_iload_n (a := 2) (q := 34) (by decide +kernel) rfl rfl ?_
      refine Z_istore_n (a := 2) (loc2 := [_, _, _, _]) (q := 35) (by decide +kernel) (by decide +kernel) rfl rfl rfl ?_
      refine Z_iinc (a := 3) (b := 1) (v := _ + 1) (loc2 := [_, _, _, _]) (q := 38) (by decide +kernel) rfl (zinc _) (by decide +kernel) rfl rfl rfl ?_
      refine Z_goto (q := 9) (off := -29) (by decide +kernel) (by decide) ?_
      exact h
    · replace h := h.2 hc
      refine Z_aload_n (a := 0) (q := 25) (by decide +kernel) rfl rfl ?_
      refine g11_23 (idx := 36) (q := 28) (by decide +kernel) fX11_36 rfl (by decide) (t11_23 hT) rfl ?_
      refine Z_iload_n (a := 3) (q := 29) (by decide +kernel) rfl rfl ?_
      refine Z_iald (len := 4) (q := 30) (by decide +kernel) rfl (by decide) hin1 rfl ?_
      refine Z_goto (q := 34) (off := 4) (by decide +kernel) (by decide) ?_
      refine Z_istore_n (a := 2) (loc2 := [_, _, _, _]) (q := 35) (by decide +kernel) (by decide +kernel) rfl rfl rfl ?_
      refine Z_iinc (a := 3) (b := 1) (v := _ + 1) (loc2 := [_, _, _, _]) (q := 38) (by decide +kernel) rfl (zinc _) (by decide +kernel) rfl rfl rfl ?_
      refine Z_goto (q := 9) (off := -29) (by decide +kernel) (by decide) ?_
      exact h
theorem eX11_fills {d : Nat} (x1 : Int32) {iv : zI} {rv : zR} {lv : zJ} {Q : zI → zR → zJ → Prop} (h : Zv mX11_fills (d + 1) 0 [some (.ref 174), some (.int x1), none, none, none, none] [] iv rv lv Q) : Cv mX11_fills (d + 1) [.ref 174, .int x1] iv rv lv Q := Cv.of (by decide +kernel) (by simp [Value.category]) (Nat.le_of_ble_eq_true rfl) rfl h
set_option maxRecDepth 4000 in
theorem bX11_fills_0 {d : Nat} (x1 : Int32) {iv : zI} {rv : zR} {lv : zJ} {Q : zI → zR → zJ → Prop} (hT : zTop rv) 
    (h : Zv mX11_fills (d + 1) 2 [some (.ref 174), some (.int x1), some (.int (0 : Int32)), none, none, none] [] iv rv lv Q) :
    Zv mX11_fills (d + 1) 0 [some (.ref 174), some (.int x1), none, none, none, none] [] iv rv lv Q := by
  unfold Zv
  refine Z_iconst (a := 0) (v := 0) (q := 1) (by decide +kernel) (by decide +kernel) rfl ?_
  refine Z_istore_n (a := 2) (loc2 := [_, _, _, _, _, _]) (q := 2) (by decide +kernel) (by decide +kernel) rfl rfl rfl ?_
  exact h
set_option maxRecDepth 4000 in
theorem bX11_fills_2 {d : Nat} (x1 : Int32) (x2 : Int32) {iv : zI} {rv : zR} {lv : zJ} {Q : zI → zR → zJ → Prop} (hT : zTop rv) 
    (h : ((4 : Int32) ≤ x2 → Zv mX11_fills (d + 1) 22 [some (.ref 174), some (.int x1), some (.int (0 : Int32)), none, none, none] [] iv rv lv Q) ∧ (¬ (4 : Int32) ≤ x2 → vp_in x2 4 ∧ (∀ iv2 : zI, iv2 = zu iv 182 x2.toNatClampNeg (0 : Int32) → Zv mX11_fills (d + 1) 2 [some (.ref 174), some (.int x1), some (.int (x2 + 1)), none, none, none] [] iv2 rv lv Q))) :
    Zv mX11_fills (d + 1) 2 [some (.ref 174), some (.int x1), some (.int x2), none, none, none] [] iv rv lv Q := by
  unfold Zv
  refine Z_iload_n (a := 2) (q := 3) (by decide +kernel) rfl rfl ?_
  refine Z_iconst (a := 4) (v := 4) (q := 4) (by decide +kernel) (by decide +kernel) rfl ?_
  refine Z_icmp_ge (t := 20) (off := 16) (q := 7) (by decide +kernel) (by decide) rfl (fun hc => ?_) (fun hc => ?_)
  · replace h := h.1 hc
    refine Z_iconst (a := 0) (v := 0) (q := 21) (by decide +kernel) (by decide +kernel) rfl ?_
    refine Z_istore_n (a := 2) (loc2 := [_, _, _, _, _, _]) (q := 22) (by decide +kernel) (by decide +kernel) rfl rfl rfl ?_
    exact h
  · replace h := h.2 hc
    refine Z_aload_n (a := 0) (q := 8) (by decide +kernel) rfl rfl ?_
    refine g11_23 (idx := 36) (q := 11) (by decide +kernel) fX11_36 rfl (by decide) (t11_23 hT) rfl ?_
    refine Z_iload_n (a := 2) (q := 12) (by decide +kernel) rfl rfl ?_
    refine Z_iconst (a := 0) (v := 0) (q := 13) (by decide +kernel) (by decide +kernel) rfl ?_
    obtain ⟨hin1, h⟩ := h
    refine Z_iast (len := 4) (q := 14) (by decide +kernel) rfl (by decide) hin1 rfl ?_
    replace h := h _ rfl
    refine Z_iinc (a := 2) (b := 1) (v := _ + 1) (loc2 := [_, _, _, _, _, _]) (q := 17) (by decide +kernel) rfl (zinc _) (by decide +kernel) rfl rfl rfl ?_
    refine Z_goto (q := 2) (off := -15) (by decide +kernel) (by decide) ?_
    exact h
set_option maxRecDepth 4000 in
theorem bX11_fills_22 {d : Nat} (x1 : Int32) (x2 : Int32) {iv : zI} {rv : zR} {lv : zJ} {Q : zI → zR → zJ → Prop} (hT : zTop rv) 
    (h : ((iv 176 0) ≤ x2 → Q iv rv lv) ∧ (¬ (iv 176 0) ≤ x2 → ∃ Q1 : Int32 → zI → zR → zJ → Prop, Ci mX11_ranked d [.ref 174, .int x2] iv rv lv Q1 ∧ ∀ (v6 : Int32) (iv2 : zI) (rv3 : zR) (lv4 : zJ), Q1 v6 iv2 rv3 lv4 → zTop rv3 ∧ (Zv mX11_fills (d + 1) 44 [some (.ref 174), some (.int x1), some (.int x2), some (.int v6), some (.int (0 : Int32)), some (.int (1 : Int32))] [] iv2 rv3 lv4 Q))) :
    Zv mX11_fills (d + 1) 22 [some (.ref 174), some (.int x1), some (.int x2), none, none, none] [] iv rv lv Q := by
  unfold Zv
  refine Z_iload_n (a := 2) (q := 23) (by decide +kernel) rfl rfl ?_
  refine Z_aload_n (a := 0) (q := 24) (by decide +kernel) rfl rfl ?_
  refine g11_14 (idx := 17) (q := 27) (by decide +kernel) fX11_17 rfl (by decide) (t11_14 hT) rfl ?_
  refine Z_iconst (a := 0) (v := 0) (q := 28) (by decide +kernel) (by decide +kernel) rfl ?_
  refine Z_iald (len := 35) (q := 29) (by decide +kernel) rfl (by decide) (by unfold vp_in; decide) rfl ?_
  refine Z_icmp_ge (t := 111) (off := 82) (q := 32) (by decide +kernel) (by decide) rfl (fun hc => ?_) (fun hc => ?_)
  · replace h := h.1 hc
    exact Z_vret (by decide +kernel) rfl rfl ⟨rfl, h⟩
  · replace h := h.2 hc
    refine Z_aload_n (a := 0) (q := 33) (by decide +kernel) rfl rfl ?_
    refine Z_iload_n (a := 2) (q := 34) (by decide +kernel) rfl rfl ?_
    obtain ⟨Q1, hm, h⟩ := h
    refine Z_callVi (M2 := mX11_ranked) (idx := 226) (d2 := d) (ci := 11) (As := [.int _]) (q := 37) (by decide +kernel) kX11_ranked lX11_226 rfl rfl (by decide) rfl rfl (by decide +kernel) (Nat.le_of_ble_eq_true rfl) (Nat.le_refl _) hm rfl (fun v6 iv2 rv3 lv4 hq => ?_)
    obtain ⟨hT5, h⟩ := h v6 iv2 rv3 lv4 hq
    refine Z_istore_n (a := 3) (loc2 := [_, _, _, _, _, _]) (q := 38) (by decide +kernel) (by decide +kernel) rfl rfl rfl ?_
    refine Z_iconst (a := 0) (v := 0) (q := 39) (by decide +kernel) (by decide +kernel) rfl ?_
    refine Z_istore (a := 4) (loc2 := [_, _, _, _, _, _]) (q := 41) (by decide +kernel) (by decide +kernel) rfl rfl rfl ?_
    refine Z_iconst (a := 1) (v := 1) (q := 42) (by decide +kernel) (by decide +kernel) rfl ?_
    refine Z_istore (a := 5) (loc2 := [_, _, _, _, _, _]) (q := 44) (by decide +kernel) (by decide +kernel) rfl rfl rfl ?_
    exact h
set_option maxRecDepth 4000 in
theorem bX11_fills_44 {d : Nat} (x1 : Int32) (x2 : Int32) (x3 : Int32) (x4 : Int32) (x5 : Int32) {iv : zI} {rv : zR} {lv : zJ} {Q : zI → zR → zJ → Prop} (hT : zTop rv) 
    (h : (x1 ≤ x5 → vp_in x3 10 ∧ (∀ iv2 : zI, iv2 = zu iv 181 x3.toNatClampNeg x4 → vp_in x4 4 ∧ (∃ Q4 : Int32 → zI → zR → zJ → Prop, Ci mX11_value d [.ref 174, .int x3] iv2 rv lv Q4 ∧ ∀ (v9 : Int32) (iv5 : zI) (rv6 : zR) (lv7 : zJ), Q4 v9 iv5 rv6 lv7 → zTop rv6 ∧ (∀ iv10 : zI, iv10 = zu iv5 182 x4.toNatClampNeg ((iv2 182 x4.toNatClampNeg) + v9) → Zv mX11_fills (d + 1) 22 [some (.ref 174), some (.int x1), some (.int (x2 + 1)), none, none, none] [] iv10 rv6 lv7 Q)))) ∧ (¬ x1 ≤ x5 → vp_in x5 4 ∧ (vp_in x4 4 ∧ (((iv 182 x4.toNatClampNeg) ≤ (iv 182 x5.toNatClampNeg) → Zv mX11_fills (d + 1) 44 [some (.ref 174), some (.int x1), some (.int x2), some (.int x3), some (.int x4), some (.int (x5 + 1))] [] iv rv lv Q) ∧ (¬ (iv 182 x4.toNatClampNeg) ≤ (iv 182 x5.toNatClampNeg) → Zv mX11_fills (d + 1) 44 [some (.ref 174), some (.int x1), some (.int x2), some (.int x3), some (.int x5), some (.int (x5 + 1))] [] iv rv lv Q))))) :
    Zv mX11_fills (d + 1) 44 [some (.ref 174), some (.int x1), some (.int x2), some (.int x3), some (.int x4), some (.int x5)] [] iv rv lv Q := by
  unfold Zv
  refine Z_iload (a := 5) (q := 46) (by decide +kernel) rfl rfl ?_
  refine Z_iload_n (a := 1) (q := 47) (by decide +kernel) rfl rfl ?_
  refine Z_icmp_ge (t := 82) (off := 35) (q := 50) (by decide +kernel) (by decide) rfl (fun hc => ?_) (fun hc => ?_)
  · replace h := h.1 hc
    refine Z_aload_n (a := 0) (q := 83) (by decide +kernel) rfl rfl ?_
    refine g11_22 (idx := 33) (q := 86) (by decide +kernel) fX11_33 rfl (by decide) (t11_22 hT) rfl ?_
    refine Z_iload_n (a := 3) (q := 87) (by decide +kernel) rfl rfl ?_
    refine Z_iload (a := 4) (q := 89) (by decide +kernel) rfl rfl ?_
    obtain ⟨hin1, h⟩ := h
    refine Z_iast (len := 10) (q := 90) (by decide +kernel) rfl (by decide) hin1 rfl ?_
    replace h := h _ rfl
    refine Z_aload_n (a := 0) (q := 91) (by decide +kernel) rfl rfl ?_
    refine g11_23 (idx := 36) (q := 94) (by decide +kernel) fX11_36 rfl (by decide) (t11_23 hT) rfl ?_
    refine Z_iload (a := 4) (q := 96) (by decide +kernel) rfl rfl ?_
    refine Z_dup2 (q := 97) (by decide +kernel) rfl rfl rfl ?_
    obtain ⟨hin3, h⟩ := h
    refine Z_iald (len := 4) (q := 98) (by decide +kernel) rfl (by decide) hin3 rfl ?_
    refine Z_aload_n (a := 0) (q := 99) (by decide +kernel) rfl rfl ?_
    refine Z_iload_n (a := 3) (q := 100) (by decide +kernel) rfl rfl ?_
    obtain ⟨Q4, hm, h⟩ := h
    refine Z_callVi (M2 := mX11_value) (idx := 217) (d2 := d) (ci := 11) (As := [.int _]) (q := 103) (by decide +kernel) kX11_value lX11_217 rfl rfl (by decide) rfl rfl (by decide +kernel) (Nat.le_of_ble_eq_true rfl) (Nat.le_refl _) hm rfl (fun v9 iv5 rv6 lv7 hq => ?_)
    obtain ⟨hT8, h⟩ := h v9 iv5 rv6 lv7 hq
    refine Z_iadd (q := 104) (by decide +kernel) rfl ?_
    refine Z_iast (len := 4) (q := 105) (by decide +kernel) rfl (by decide) hin3 rfl ?_
    replace h := h _ rfl
    refine Z_iinc (a := 2) (b := 1) (v := _ + 1) (loc2 := [_, _, _, _, _, _]) (q := 108) (by decide +kernel) rfl (zinc _) (by decide +kernel) rfl rfl rfl ?_
    refine Z_goto (q := 22) (off := -86) (by decide +kernel) (by decide) ?_
    exact Z_forget h (And.intro rfl (And.intro rfl (And.intro rfl trivial)))
  · replace h := h.2 hc
    refine Z_aload_n (a := 0) (q := 51) (by decide +kernel) rfl rfl ?_
    refine g11_23 (idx := 36) (q := 54) (by decide +kernel) fX11_36 rfl (by decide) (t11_23 hT) rfl ?_
    refine Z_iload (a := 5) (q := 56) (by decide +kernel) rfl rfl ?_
    obtain ⟨hin11, h⟩ := h
    refine Z_iald (len := 4) (q := 57) (by decide +kernel) rfl (by decide) hin11 rfl ?_
    refine Z_aload_n (a := 0) (q := 58) (by decide +kernel) rfl rfl ?_
    refine g11_23 (idx := 36) (q := 61) (by decide +kernel) fX11_36 rfl (by decide) (t11_23 hT) rfl ?_
    refine Z_iload (a := 4) (q := 63) (by decide +kernel) rfl rfl ?_
    obtain ⟨hin12, h⟩ := h
    refine Z_iald (len := 4) (q := 64) (by decide +kernel) rfl (by decide) hin12 rfl ?_
    refine Z_icmp_ge (t := 72) (off := 8) (q := 67) (by decide +kernel) (by decide) rfl (fun hc => ?_) (fun hc => ?_)
    · replace h := h.1 hc
      refine Z_iload (a := 4) (q := 74) (by decide +kernel) rfl rfl ?_
      refine Z_istore (a := 4) (loc2 := [_, _, _, _, _, _]) (q := 76) (by decide +kernel) (by decide +kernel) rfl rfl rfl ?_
      refine Z_iinc (a := 5) (b := 1) (v := _ + 1) (loc2 := [_, _, _, _, _, _]) (q := 79) (by decide +kernel) rfl (zinc _) (by decide +kernel) rfl rfl rfl ?_
      refine Z_goto (q := 44) (off := -35) (by decide +kernel) (by decide) ?_
      exact h
    · replace h := h.2 hc
      refine Z_iload (a := 5) (q := 69) (by decide +kernel) rfl rfl ?_
      refine Z_goto (q := 74) (off := 5) (by decide +kernel) (by decide) ?_
      refine Z_istore (a := 4) (loc2 := [_, _, _, _, _, _]) (q := 76) (by decide +kernel) (by decide +kernel) rfl rfl rfl ?_
      refine Z_iinc (a := 5) (b := 1) (v := _ + 1) (loc2 := [_, _, _, _, _, _]) (q := 79) (by decide +kernel) rfl (zinc _) (by decide +kernel) rfl rfl rfl ?_
      refine Z_goto (q := 44) (off := -35) (by decide +kernel) (by decide) ?_
      exact h
theorem eX11_greedy {d : Nat} (x1 : Int32) (x2 : Int32) {iv : zI} {rv : zR} {lv : zJ} {Q : Int32 → zI → zR → zJ → Prop} (h : Zi mX11_greedy (d + 1) 0 [some (.ref 174), some (.int x1), some (.int x2)] [] iv rv lv Q) : Ci mX11_greedy (d + 1) [.ref 174, .int x1, .int x2] iv rv lv Q := Ci.of (by decide +kernel) (by simp [Value.category]) (Nat.le_of_ble_eq_true rfl) rfl h
set_option maxRecDepth 4000 in
theorem bX11_greedy_0 {d : Nat} (x1 : Int32) (x2 : Int32) {iv : zI} {rv : zR} {lv : zJ} {Q : Int32 → zI → zR → zJ → Prop} (hT : zTop rv) 
    (h : ∀ iv1 : zI, iv1 = zu iv 174 0 (0 : Int32) → ((iv1 174 19) = 0 → ∃ Q2 : Int32 → zI → zR → zJ → Prop, Ci mX11_refused d [.ref 174, .int (1 : Int32)] iv1 rv lv Q2 ∧ ∀ (v7 : Int32) (iv3 : zI) (rv4 : zR) (lv5 : zJ), Q2 v7 iv3 rv4 lv5 → zTop rv4 ∧ (Q v7 iv3 rv4 lv5)) ∧ (¬ (iv1 174 19) = 0 → ∃ Q8 : Int32 → zI → zR → zJ → Prop, Ci mX11_in d [.int x2, .int (0 : Int32), .int (1 : Int32)] iv1 rv lv Q8 ∧ ∀ (v13 : Int32) (iv9 : zI) (rv10 : zR) (lv11 : zJ), Q8 v13 iv9 rv10 lv11 → zTop rv10 ∧ ((¬ v13 = 0 → ∃ Q14 : Int32 → zI → zR → zJ → Prop, Ci mX11_isK d [.int x1] iv9 rv10 lv11 Q14 ∧ ∀ (v19 : Int32) (iv15 : zI) (rv16 : zR) (lv17 : zJ), Q14 v19 iv15 rv16 lv17 → zTop rv16 ∧ ((¬ v19 = 0 → ∃ Q20 : zI → zR → zJ → Prop, Cv mX11_fills d [.ref 174, .int x1] iv15 rv16 lv17 Q20 ∧ ∀ (iv21 : zI) (rv22 : zR) (lv23 : zJ), Q20 iv21 rv22 lv23 → zTop rv22 ∧ ((¬ x2 = 0 → ∃ Q26 : Int32 → zI → zR → zJ → Prop, Ci mX11_top d [.ref 174, .int x1] iv21 rv22 lv23 Q26 ∧ ∀ (v31 : Int32) (iv27 : zI) (rv28 : zR) (lv29 : zJ), Q26 v31 iv27 rv28 lv29 → zTop rv28 ∧ (∃ Q32 : Int32 → zI → zR → zJ → Prop, Ci mX11_good d [.ref 174, .int v31] iv27 rv28 lv29 Q32 ∧ ∀ (v37 : Int32) (iv33 : zI) (rv34 : zR) (lv35 : zJ), Q32 v37 iv33 rv34 lv35 → zTop rv34 ∧ (Q v37 iv33 rv34 lv35))) ∧ (x2 = 0 → ∃ Q38 : Int32 → zI → zR → zJ → Prop, Ci mX11_spread d [.ref 174, .int x1] iv21 rv22 lv23 Q38 ∧ ∀ (v43 : Int32) (iv39 : zI) (rv40 : zR) (lv41 : zJ), Q38 v43 iv39 rv40 lv41 → zTop rv40 ∧ (∃ Q44 : Int32 → zI → zR → zJ → Prop, Ci mX11_good d [.ref 174, .int v43] iv39 rv40 lv41 Q44 ∧ ∀ (v49 : Int32) (iv45 : zI) (rv46 : zR) (lv47 : zJ), Q44 v49 iv45 rv46 lv47 → zTop rv46 ∧ (Q v49 iv45 rv46 lv47))))) ∧ (v19 = 0 → ∃ Q50 : Int32 → zI → zR → zJ → Prop, Ci mX11_refused d [.ref 174, .int (2 : Int32)] iv15 rv16 lv17 Q50 ∧ ∀ (v55 : Int32) (iv51 : zI) (rv52 : zR) (lv53 : zJ), Q50 v55 iv51 rv52 lv53 → zTop rv52 ∧ (Q v55 iv51 rv52 lv53)))) ∧ (v13 = 0 → ∃ Q56 : Int32 → zI → zR → zJ → Prop, Ci mX11_refused d [.ref 174, .int (1 : Int32)] iv9 rv10 lv11 Q56 ∧ ∀ (v61 : Int32) (iv57 : zI) (rv58 : zR) (lv59 : zJ), Q56 v61 iv57 rv58 lv59 → zTop rv58 ∧ (Q v61 iv57 rv58 lv59))))) :
    Zi mX11_greedy (d + 1) 0 [some (.ref 174), some (.int x1), some (.int x2)] [] iv rv lv Q := by
  unfold Zi
  refine Z_aload_n (a := 0) (q := 1) (by decide +kernel) rfl rfl ?_
  refine Z_iconst (a := 0) (v := 0) (q := 2) (by decide +kernel) (by decide +kernel) rfl ?_
  refine p11_0 (idx := 87) (q := 5) (by decide +kernel) fX11_87 rfl (by decide) rfl ?_
  replace h := h _ rfl
  refine Z_aload_n (a := 0) (q := 6) (by decide +kernel) rfl rfl ?_
  refine g11_19 (idx := 211) (q := 9) (by decide +kernel) fX11_211 rfl (by decide) rfl ?_
  refine Z_if_eq (t := 21) (off := 12) (q := 12) (by decide +kernel) (by decide) rfl (fun hc => ?_) (fun hc => ?_)
  · replace h := h.1 hc
    refine Z_aload_n (a := 0) (q := 22) (by decide +kernel) rfl rfl ?_
    refine Z_iconst (a := 1) (v := 1) (q := 23) (by decide +kernel) (by decide +kernel) rfl ?_
    obtain ⟨Q2, hm, h⟩ := h
    refine Z_callVi (M2 := mX11_refused) (idx := 201) (d2 := d) (ci := 11) (As := [.int _]) (q := 26) (by decide +kernel) kX11_refused lX11_201 rfl rfl (by decide) rfl rfl (by decide +kernel) (Nat.le_of_ble_eq_true rfl) (Nat.le_refl _) hm rfl (fun v7 iv3 rv4 lv5 hq => ?_)
    obtain ⟨hT6, h⟩ := h v7 iv3 rv4 lv5 hq
    exact Z_iret (ty := .int) (by decide +kernel) rfl rfl rfl ⟨_, rfl, h⟩
  · replace h := h.2 hc
    refine Z_iload_n (a := 2) (q := 13) (by decide +kernel) rfl rfl ?_
    refine Z_iconst (a := 0) (v := 0) (q := 14) (by decide +kernel) (by decide +kernel) rfl ?_
    refine Z_iconst (a := 1) (v := 1) (q := 15) (by decide +kernel) (by decide +kernel) rfl ?_
    obtain ⟨Q8, hm, h⟩ := h
    refine Z_callSi (M2 := mX11_in) (idx := 112) (d2 := d) (As := [.int _, .int _, .int _]) (q := 18) (by decide +kernel) kX11_in lX11_112 rfl rfl (by decide +kernel) (Nat.le_of_ble_eq_true rfl) (Nat.le_refl _) hm rfl (fun v13 iv9 rv10 lv11 hq => ?_)
    obtain ⟨hT12, h⟩ := h v13 iv9 rv10 lv11 hq
    refine Z_if_ne (t := 27) (off := 9) (q := 21) (by decide +kernel) (by decide) rfl (fun hc => ?_) (fun hc => ?_)
    · replace h := h.1 hc
      refine Z_iload_n (a := 1) (q := 28) (by decide +kernel) rfl rfl ?_
      obtain ⟨Q14, hm, h⟩ := h
      refine Z_callSi (M2 := mX11_isK) (idx := 238) (d2 := d) (As := [.int _]) (q := 31) (by decide +kernel) kX11_isK lX11_238 rfl rfl (by decide +kernel) (Nat.le_of_ble_eq_true rfl) (Nat.le_refl _) hm rfl (fun v19 iv15 rv16 lv17 hq => ?_)
      obtain ⟨hT18, h⟩ := h v19 iv15 rv16 lv17 hq
      refine Z_if_ne (t := 40) (off := 9) (q := 34) (by decide +kernel) (by decide) rfl (fun hc => ?_) (fun hc => ?_)
      · replace h := h.1 hc
        refine Z_aload_n (a := 0) (q := 41) (by decide +kernel) rfl rfl ?_
        refine Z_iload_n (a := 1) (q := 42) (by decide +kernel) rfl rfl ?_
        obtain ⟨Q20, hm, h⟩ := h
        refine Z_callVv (M2 := mX11_fills) (idx := 241) (d2 := d) (ci := 11) (As := [.int _]) (q := 45) (by decide +kernel) kX11_fills lX11_241 rfl rfl (by decide) rfl rfl (by decide +kernel) (Nat.le_of_ble_eq_true rfl) (Nat.le_refl _) hm rfl (fun iv21 rv22 lv23 hq => ?_)
        obtain ⟨hT24, h⟩ := h iv21 rv22 lv23 hq
        refine Z_aload_n (a := 0) (q := 46) (by decide +kernel) rfl rfl ?_
        refine Z_iload_n (a := 2) (q := 47) (by decide +kernel) rfl rfl ?_
        refine Z_if_ne (t := 58) (off := 11) (q := 50) (by decide +kernel) (by decide) rfl (fun hc => ?_) (fun hc => ?_)
        · replace h := h.1 hc
          refine Z_aload_n (a := 0) (q := 59) (by decide +kernel) rfl rfl ?_
          refine Z_iload_n (a := 1) (q := 60) (by decide +kernel) rfl rfl ?_
          obtain ⟨Q26, hm, h⟩ := h
          refine Z_callVi (M2 := mX11_top) (idx := 235) (d2 := d) (ci := 11) (As := [.int _]) (q := 63) (by decide +kernel) kX11_top lX11_235 rfl rfl (by decide) rfl rfl (by decide +kernel) (Nat.le_of_ble_eq_true rfl) (Nat.le_refl _) hm rfl (fun v31 iv27 rv28 lv29 hq => ?_)
          obtain ⟨hT30, h⟩ := h v31 iv27 rv28 lv29 hq
          obtain ⟨Q32, hm, h⟩ := h
          refine Z_callVi (M2 := mX11_good) (idx := 214) (d2 := d) (ci := 11) (As := [.int _]) (q := 66) (by decide +kernel) kX11_good lX11_214 rfl rfl (by decide) rfl rfl (by decide +kernel) (Nat.le_of_ble_eq_true rfl) (Nat.le_refl _) hm rfl (fun v37 iv33 rv34 lv35 hq => ?_)
          obtain ⟨hT36, h⟩ := h v37 iv33 rv34 lv35 hq
          exact Z_iret (ty := .int) (by decide +kernel) rfl rfl rfl ⟨_, rfl, h⟩
        · replace h := h.2 hc
          refine Z_aload_n (a := 0) (q := 51) (by decide +kernel) rfl rfl ?_
          refine Z_iload_n (a := 1) (q := 52) (by decide +kernel) rfl rfl ?_
          obtain ⟨Q38, hm, h⟩ := h
          refine Z_callVi (M2 := mX11_spread) (idx := 244) (d2 := d) (ci := 11) (As := [.int _]) (q := 55) (by decide +kernel) kX11_spread lX11_244 rfl rfl (by decide) rfl rfl (by decide +kernel) (Nat.le_of_ble_eq_true rfl) (Nat.le_refl _) hm rfl (fun v43 iv39 rv40 lv41 hq => ?_)
          obtain ⟨hT42, h⟩ := h v43 iv39 rv40 lv41 hq
          refine Z_goto (q := 63) (off := 8) (by decide +kernel) (by decide) ?_
          obtain ⟨Q44, hm, h⟩ := h
          refine Z_callVi (M2 := mX11_good) (idx := 214) (d2 := d) (ci := 11) (As := [.int _]) (q := 66) (by decide +kernel) kX11_good lX11_214 rfl rfl (by decide) rfl rfl (by decide +kernel) (Nat.le_of_ble_eq_true rfl) (Nat.le_refl _) hm rfl (fun v49 iv45 rv46 lv47 hq => ?_)
          obtain ⟨hT48, h⟩ := h v49 iv45 rv46 lv47 hq
          exact Z_iret (ty := .int) (by decide +kernel) rfl rfl rfl ⟨_, rfl, h⟩
      · replace h := h.2 hc
        refine Z_aload_n (a := 0) (q := 35) (by decide +kernel) rfl rfl ?_
        refine Z_iconst (a := 2) (v := 2) (q := 36) (by decide +kernel) (by decide +kernel) rfl ?_
        obtain ⟨Q50, hm, h⟩ := h
        refine Z_callVi (M2 := mX11_refused) (idx := 201) (d2 := d) (ci := 11) (As := [.int _]) (q := 39) (by decide +kernel) kX11_refused lX11_201 rfl rfl (by decide) rfl rfl (by decide +kernel) (Nat.le_of_ble_eq_true rfl) (Nat.le_refl _) hm rfl (fun v55 iv51 rv52 lv53 hq => ?_)
        obtain ⟨hT54, h⟩ := h v55 iv51 rv52 lv53 hq
        exact Z_iret (ty := .int) (by decide +kernel) rfl rfl rfl ⟨_, rfl, h⟩
    · replace h := h.2 hc
      refine Z_aload_n (a := 0) (q := 22) (by decide +kernel) rfl rfl ?_
      refine Z_iconst (a := 1) (v := 1) (q := 23) (by decide +kernel) (by decide +kernel) rfl ?_
      obtain ⟨Q56, hm, h⟩ := h
      refine Z_callVi (M2 := mX11_refused) (idx := 201) (d2 := d) (ci := 11) (As := [.int _]) (q := 26) (by decide +kernel) kX11_refused lX11_201 rfl rfl (by decide) rfl rfl (by decide +kernel) (Nat.le_of_ble_eq_true rfl) (Nat.le_refl _) hm rfl (fun v61 iv57 rv58 lv59 hq => ?_)
      obtain ⟨hT60, h⟩ := h v61 iv57 rv58 lv59 hq
      exact Z_iret (ty := .int) (by decide +kernel) rfl rfl rfl ⟨_, rfl, h⟩
theorem eX11_greedyOf {d : Nat} (x1 : Int32) (x2 : Int32) {iv : zI} {rv : zR} {lv : zJ} {Q : Int32 → zI → zR → zJ → Prop} (h : Zi mX11_greedyOf (d + 1) 0 [some (.ref 174), some (.int x1), some (.int x2)] [] iv rv lv Q) : Ci mX11_greedyOf (d + 1) [.ref 174, .int x1, .int x2] iv rv lv Q := Ci.of (by decide +kernel) (by simp [Value.category]) (Nat.le_of_ble_eq_true rfl) rfl h
set_option maxRecDepth 4000 in
theorem bX11_greedyOf_0 {d : Nat} (x1 : Int32) (x2 : Int32) {iv : zI} {rv : zR} {lv : zJ} {Q : Int32 → zI → zR → zJ → Prop} (hT : zTop rv) 
    (h : ∀ iv1 : zI, iv1 = zu iv 174 0 (0 : Int32) → ∃ Q2 : Int32 → zI → zR → zJ → Prop, Ci mX11_isNumber d [.ref 174, .int x2] iv1 rv lv Q2 ∧ ∀ (v7 : Int32) (iv3 : zI) (rv4 : zR) (lv5 : zJ), Q2 v7 iv3 rv4 lv5 → zTop rv4 ∧ ((¬ v7 = 0 → ∃ Q8 : Int32 → zI → zR → zJ → Prop, Ci mX11_isK d [.int x1] iv3 rv4 lv5 Q8 ∧ ∀ (v13 : Int32) (iv9 : zI) (rv10 : zR) (lv11 : zJ), Q8 v13 iv9 rv10 lv11 → zTop rv10 ∧ ((¬ v13 = 0 → ∃ Q14 : zI → zR → zJ → Prop, Cv mX11_fills d [.ref 174, .int x1] iv9 rv10 lv11 Q14 ∧ ∀ (iv15 : zI) (rv16 : zR) (lv17 : zJ), Q14 iv15 rv16 lv17 → zTop rv16 ∧ (vp_in x2 10 ∧ (∃ Q21 : Int32 → zI → zR → zJ → Prop, Ci mX11_good d [.ref 174, .int (iv15 181 x2.toNatClampNeg)] iv15 rv16 lv17 Q21 ∧ ∀ (v26 : Int32) (iv22 : zI) (rv23 : zR) (lv24 : zJ), Q21 v26 iv22 rv23 lv24 → zTop rv23 ∧ (Q v26 iv22 rv23 lv24)))) ∧ (v13 = 0 → ∃ Q27 : Int32 → zI → zR → zJ → Prop, Ci mX11_refused d [.ref 174, .int (2 : Int32)] iv9 rv10 lv11 Q27 ∧ ∀ (v32 : Int32) (iv28 : zI) (rv29 : zR) (lv30 : zJ), Q27 v32 iv28 rv29 lv30 → zTop rv29 ∧ (Q v32 iv28 rv29 lv30)))) ∧ (v7 = 0 → ∃ Q33 : Int32 → zI → zR → zJ → Prop, Ci mX11_refused d [.ref 174, .int (1 : Int32)] iv3 rv4 lv5 Q33 ∧ ∀ (v38 : Int32) (iv34 : zI) (rv35 : zR) (lv36 : zJ), Q33 v38 iv34 rv35 lv36 → zTop rv35 ∧ (Q v38 iv34 rv35 lv36)))) :
    Zi mX11_greedyOf (d + 1) 0 [some (.ref 174), some (.int x1), some (.int x2)] [] iv rv lv Q := by
  unfold Zi
  refine Z_aload_n (a := 0) (q := 1) (by decide +kernel) rfl rfl ?_
  refine Z_iconst (a := 0) (v := 0) (q := 2) (by decide +kernel) (by decide +kernel) rfl ?_
  refine p11_0 (idx := 87) (q := 5) (by decide +kernel) fX11_87 rfl (by decide) rfl ?_
  replace h := h _ rfl
  refine Z_aload_n (a := 0) (q := 6) (by decide +kernel) rfl rfl ?_
  refine Z_iload_n (a := 2) (q := 7) (by decide +kernel) rfl rfl ?_
  obtain ⟨Q2, hm, h⟩ := h
  refine Z_callVi (M2 := mX11_isNumber) (idx := 229) (d2 := d) (ci := 11) (As := [.int _]) (q := 10) (by decide +kernel) kX11_isNumber lX11_229 rfl rfl (by decide) rfl rfl (by decide +kernel) (Nat.le_of_ble_eq_true rfl) (Nat.le_refl _) hm rfl (fun v7 iv3 rv4 lv5 hq => ?_)
  obtain ⟨hT6, h⟩ := h v7 iv3 rv4 lv5 hq
  refine Z_if_ne (t := 19) (off := 9) (q := 13) (by decide +kernel) (by decide) rfl (fun hc => ?_) (fun hc => ?_)
  · replace h := h.1 hc
    refine Z_iload_n (a := 1) (q := 20) (by decide +kernel) rfl rfl ?_
    obtain ⟨Q8, hm, h⟩ := h
    refine Z_callSi (M2 := mX11_isK) (idx := 238) (d2 := d) (As := [.int _]) (q := 23) (by decide +kernel) kX11_isK lX11_238 rfl rfl (by decide +kernel) (Nat.le_of_ble_eq_true rfl) (Nat.le_refl _) hm rfl (fun v13 iv9 rv10 lv11 hq => ?_)
    obtain ⟨hT12, h⟩ := h v13 iv9 rv10 lv11 hq
    refine Z_if_ne (t := 32) (off := 9) (q := 26) (by decide +kernel) (by decide) rfl (fun hc => ?_) (fun hc => ?_)
    · replace h := h.1 hc
      refine Z_aload_n (a := 0) (q := 33) (by decide +kernel) rfl rfl ?_
      refine Z_iload_n (a := 1) (q := 34) (by decide +kernel) rfl rfl ?_
      obtain ⟨Q14, hm, h⟩ := h
      refine Z_callVv (M2 := mX11_fills) (idx := 241) (d2 := d) (ci := 11) (As := [.int _]) (q := 37) (by decide +kernel) kX11_fills lX11_241 rfl rfl (by decide) rfl rfl (by decide +kernel) (Nat.le_of_ble_eq_true rfl) (Nat.le_refl _) hm rfl (fun iv15 rv16 lv17 hq => ?_)
      obtain ⟨hT18, h⟩ := h iv15 rv16 lv17 hq
      refine Z_aload_n (a := 0) (q := 38) (by decide +kernel) rfl rfl ?_
      refine Z_aload_n (a := 0) (q := 39) (by decide +kernel) rfl rfl ?_
      refine g11_22 (idx := 33) (q := 42) (by decide +kernel) fX11_33 rfl (by decide) (t11_22 hT18) rfl ?_
      refine Z_iload_n (a := 2) (q := 43) (by decide +kernel) rfl rfl ?_
      obtain ⟨hin20, h⟩ := h
      refine Z_iald (len := 10) (q := 44) (by decide +kernel) rfl (by decide) hin20 rfl ?_
      obtain ⟨Q21, hm, h⟩ := h
      refine Z_callVi (M2 := mX11_good) (idx := 214) (d2 := d) (ci := 11) (As := [.int _]) (q := 47) (by decide +kernel) kX11_good lX11_214 rfl rfl (by decide) rfl rfl (by decide +kernel) (Nat.le_of_ble_eq_true rfl) (Nat.le_refl _) hm rfl (fun v26 iv22 rv23 lv24 hq => ?_)
      obtain ⟨hT25, h⟩ := h v26 iv22 rv23 lv24 hq
      exact Z_iret (ty := .int) (by decide +kernel) rfl rfl rfl ⟨_, rfl, h⟩
    · replace h := h.2 hc
      refine Z_aload_n (a := 0) (q := 27) (by decide +kernel) rfl rfl ?_
      refine Z_iconst (a := 2) (v := 2) (q := 28) (by decide +kernel) (by decide +kernel) rfl ?_
      obtain ⟨Q27, hm, h⟩ := h
      refine Z_callVi (M2 := mX11_refused) (idx := 201) (d2 := d) (ci := 11) (As := [.int _]) (q := 31) (by decide +kernel) kX11_refused lX11_201 rfl rfl (by decide) rfl rfl (by decide +kernel) (Nat.le_of_ble_eq_true rfl) (Nat.le_refl _) hm rfl (fun v32 iv28 rv29 lv30 hq => ?_)
      obtain ⟨hT31, h⟩ := h v32 iv28 rv29 lv30 hq
      exact Z_iret (ty := .int) (by decide +kernel) rfl rfl rfl ⟨_, rfl, h⟩
  · replace h := h.2 hc
    refine Z_aload_n (a := 0) (q := 14) (by decide +kernel) rfl rfl ?_
    refine Z_iconst (a := 1) (v := 1) (q := 15) (by decide +kernel) (by decide +kernel) rfl ?_
    obtain ⟨Q33, hm, h⟩ := h
    refine Z_callVi (M2 := mX11_refused) (idx := 201) (d2 := d) (ci := 11) (As := [.int _]) (q := 18) (by decide +kernel) kX11_refused lX11_201 rfl rfl (by decide) rfl rfl (by decide +kernel) (Nat.le_of_ble_eq_true rfl) (Nat.le_refl _) hm rfl (fun v38 iv34 rv35 lv36 hq => ?_)
    obtain ⟨hT37, h⟩ := h v38 iv34 rv35 lv36 hq
    exact Z_iret (ty := .int) (by decide +kernel) rfl rfl rfl ⟨_, rfl, h⟩
theorem eX11_isAhead {d : Nat} (x1 : Int32) (x2 : Int32) (x3 : Int32) {iv : zI} {rv : zR} {lv : zJ} {Q : Int32 → zI → zR → zJ → Prop} (h : Zi mX11_isAhead (d + 1) 0 [some (.ref 174), some (.int x1), some (.int x2), some (.int x3)] [] iv rv lv Q) : Ci mX11_isAhead (d + 1) [.ref 174, .int x1, .int x2, .int x3] iv rv lv Q := Ci.of (by decide +kernel) (by simp [Value.category]) (Nat.le_of_ble_eq_true rfl) rfl h
set_option maxRecDepth 4000 in
theorem bX11_isAhead_0 {d : Nat} (x1 : Int32) (x2 : Int32) (x3 : Int32) {iv : zI} {rv : zR} {lv : zJ} {Q : Int32 → zI → zR → zJ → Prop} (hT : zTop rv) 
    (h : vp_in x3 120 ∧ (((iv 185 x3.toNatClampNeg) < x1 → Q (1 : Int32) iv rv lv) ∧ (¬ (iv 185 x3.toNatClampNeg) < x1 → (¬ x1 = (iv 185 x3.toNatClampNeg) → Q (0 : Int32) iv rv lv) ∧ (x1 = (iv 185 x3.toNatClampNeg) → ∃ Q2 : Int32 → zI → zR → zJ → Prop, Ci mX11_lowest d [.int x2] iv rv lv Q2 ∧ ∀ (v7 : Int32) (iv3 : zI) (rv4 : zR) (lv5 : zJ), Q2 v7 iv3 rv4 lv5 → zTop rv4 ∧ (∃ Q8 : Int32 → zI → zR → zJ → Prop, Ci mX11_lowest d [.int ((iv3 186 x3.toNatClampNeg) ||| (iv3 187 x3.toNatClampNeg))] iv3 rv4 lv5 Q8 ∧ ∀ (v13 : Int32) (iv9 : zI) (rv10 : zR) (lv11 : zJ), Q8 v13 iv9 rv10 lv11 → zTop rv10 ∧ ((v13 ≤ v7 → Q (0 : Int32) iv9 rv10 lv11) ∧ (¬ v13 ≤ v7 → Q (1 : Int32) iv9 rv10 lv11))))))) :
    Zi mX11_isAhead (d + 1) 0 [some (.ref 174), some (.int x1), some (.int x2), some (.int x3)] [] iv rv lv Q := by
  unfold Zi
  refine Z_iload_n (a := 1) (q := 1) (by decide +kernel) rfl rfl ?_
  refine Z_aload_n (a := 0) (q := 2) (by decide +kernel) rfl rfl ?_
  refine g11_26 (idx := 45) (q := 5) (by decide +kernel) fX11_45 rfl (by decide) (t11_26 hT) rfl ?_
  refine Z_iload_n (a := 3) (q := 6) (by decide +kernel) rfl rfl ?_
  obtain ⟨hin1, h⟩ := h
  refine Z_iald (len := 120) (q := 7) (by decide +kernel) rfl (by decide) hin1 rfl ?_
  refine Z_icmp_gt (t := 43) (off := 36) (q := 10) (by decide +kernel) (by decide) rfl (fun hc => ?_) (fun hc => ?_)
  · replace h := h.1 hc
    refine Z_iconst (a := 1) (v := 1) (q := 44) (by decide +kernel) (by decide +kernel) rfl ?_
    refine Z_goto (q := 48) (off := 4) (by decide +kernel) (by decide) ?_
    exact Z_iret (ty := .boolean) (by decide +kernel) rfl rfl rfl ⟨_, rfl, h⟩
  · replace h := h.2 hc
    refine Z_iload_n (a := 1) (q := 11) (by decide +kernel) rfl rfl ?_
    refine Z_aload_n (a := 0) (q := 12) (by decide +kernel) rfl rfl ?_
    refine g11_26 (idx := 45) (q := 15) (by decide +kernel) fX11_45 rfl (by decide) (t11_26 hT) rfl ?_
    refine Z_iload_n (a := 3) (q := 16) (by decide +kernel) rfl rfl ?_
    refine Z_iald (len := 120) (q := 17) (by decide +kernel) rfl (by decide) hin1 rfl ?_
    refine Z_icmp_ne (t := 47) (off := 30) (q := 20) (by decide +kernel) (by decide) rfl (fun hc => ?_) (fun hc => ?_)
    · replace h := h.1 hc
      refine Z_iconst (a := 0) (v := 0) (q := 48) (by decide +kernel) (by decide +kernel) rfl ?_
      exact Z_iret (ty := .boolean) (by decide +kernel) rfl rfl rfl ⟨_, rfl, h⟩
    · replace h := h.2 hc
      refine Z_iload_n (a := 2) (q := 21) (by decide +kernel) rfl rfl ?_
      obtain ⟨Q2, hm, h⟩ := h
      refine Z_callSi (M2 := mX11_lowest) (idx := 247) (d2 := d) (As := [.int _]) (q := 24) (by decide +kernel) kX11_lowest lX11_247 rfl rfl (by decide +kernel) (Nat.le_of_ble_eq_true rfl) (Nat.le_refl _) hm rfl (fun v7 iv3 rv4 lv5 hq => ?_)
      obtain ⟨hT6, h⟩ := h v7 iv3 rv4 lv5 hq
      refine Z_aload_n (a := 0) (q := 25) (by decide +kernel) rfl rfl ?_
      refine g11_27 (idx := 48) (q := 28) (by decide +kernel) fX11_48 rfl (by decide) (t11_27 hT6) rfl ?_
      refine Z_iload_n (a := 3) (q := 29) (by decide +kernel) rfl rfl ?_
      refine Z_iald (len := 120) (q := 30) (by decide +kernel) rfl (by decide) hin1 rfl ?_
      refine Z_aload_n (a := 0) (q := 31) (by decide +kernel) rfl rfl ?_
      refine g11_28 (idx := 51) (q := 34) (by decide +kernel) fX11_51 rfl (by decide) (t11_28 hT6) rfl ?_
      refine Z_iload_n (a := 3) (q := 35) (by decide +kernel) rfl rfl ?_
      refine Z_iald (len := 120) (q := 36) (by decide +kernel) rfl (by decide) hin1 rfl ?_
      refine Z_ior (q := 37) (by decide +kernel) rfl ?_
      obtain ⟨Q8, hm, h⟩ := h
      refine Z_callSi (M2 := mX11_lowest) (idx := 247) (d2 := d) (As := [.int _]) (q := 40) (by decide +kernel) kX11_lowest lX11_247 rfl rfl (by decide +kernel) (Nat.le_of_ble_eq_true rfl) (Nat.le_refl _) hm rfl (fun v13 iv9 rv10 lv11 hq => ?_)
      obtain ⟨hT12, h⟩ := h v13 iv9 rv10 lv11 hq
      refine Z_icmp_ge (t := 47) (off := 7) (q := 43) (by decide +kernel) (by decide) rfl (fun hc => ?_) (fun hc => ?_)
      · replace h := h.1 hc
        refine Z_iconst (a := 0) (v := 0) (q := 48) (by decide +kernel) (by decide +kernel) rfl ?_
        exact Z_iret (ty := .boolean) (by decide +kernel) rfl rfl rfl ⟨_, rfl, h⟩
      · replace h := h.2 hc
        refine Z_iconst (a := 1) (v := 1) (q := 44) (by decide +kernel) (by decide +kernel) rfl ?_
        refine Z_goto (q := 48) (off := 4) (by decide +kernel) (by decide) ?_
        exact Z_iret (ty := .boolean) (by decide +kernel) rfl rfl rfl ⟨_, rfl, h⟩
theorem eX11_comes {d : Nat} (x1 : Int32) (x2 : Int32) (x3 : Int32) (x4 : Int32) {iv : zI} {rv : zR} {lv : zJ} {Q : zI → zR → zJ → Prop} (h : Zv mX11_comes (d + 1) 0 [some (.ref 174), some (.int x1), some (.int x2), some (.int x3), some (.int x4), none, none] [] iv rv lv Q) : Cv mX11_comes (d + 1) [.ref 174, .int x1, .int x2, .int x3, .int x4] iv rv lv Q := Cv.of (by decide +kernel) (by simp [Value.category]) (Nat.le_of_ble_eq_true rfl) rfl h
set_option maxRecDepth 4000 in
theorem bX11_comes_0 {d : Nat} (x1 : Int32) (x2 : Int32) (x3 : Int32) (x4 : Int32) {iv : zI} {rv : zR} {lv : zJ} {Q : zI → zR → zJ → Prop} (hT : zTop rv) 
    (h : vp_in x1 12 ∧ (Zv mX11_comes (d + 1) 14 [some (.ref 174), some (.int x1), some (.int x2), some (.int x3), some (.int x4), some (.int ((10 : Int32) * x1)), some (.int (iv 184 x1.toNatClampNeg))] [] iv rv lv Q)) :
    Zv mX11_comes (d + 1) 0 [some (.ref 174), some (.int x1), some (.int x2), some (.int x3), some (.int x4), none, none] [] iv rv lv Q := by
  unfold Zv
  refine Z_bipush (a := 10) (v := 10) (q := 2) (by decide +kernel) (by decide +kernel) rfl ?_
  refine Z_iload_n (a := 1) (q := 3) (by decide +kernel) rfl rfl ?_
  refine Z_imul (q := 4) (by decide +kernel) rfl ?_
  refine Z_istore (a := 5) (loc2 := [_, _, _, _, _, _, _]) (q := 6) (by decide +kernel) (by decide +kernel) rfl rfl rfl ?_
  refine Z_aload_n (a := 0) (q := 7) (by decide +kernel) rfl rfl ?_
  refine g11_25 (idx := 42) (q := 10) (by decide +kernel) fX11_42 rfl (by decide) (t11_25 hT) rfl ?_
  refine Z_iload_n (a := 1) (q := 11) (by decide +kernel) rfl rfl ?_
  obtain ⟨hin1, h⟩ := h
  refine Z_iald (len := 12) (q := 12) (by decide +kernel) rfl (by decide) hin1 rfl ?_
  refine Z_istore (a := 6) (loc2 := [_, _, _, _, _, _, _]) (q := 14) (by decide +kernel) (by decide +kernel) rfl rfl rfl ?_
  exact h
set_option maxRecDepth 4000 in
theorem bX11_comes_14 {d : Nat} (x1 : Int32) (x2 : Int32) (x3 : Int32) (x4 : Int32) (x5 : Int32) (x6 : Int32) {iv : zI} {rv : zR} {lv : zJ} {Q : zI → zR → zJ → Prop} (hT : zTop rv) 
    (h : (x6 ≤ 0 → Zv mX11_comes (d + 1) 110 [some (.ref 174), some (.int x1), some (.int x2), some (.int x3), some (.int x4), some (.int x5), some (.int x6)] [] iv rv lv Q) ∧ (¬ x6 ≤ 0 → ∃ Q1 : Int32 → zI → zR → zJ → Prop, Ci mX11_isAhead d [.ref 174, .int x2, .int (x3 ||| x4), .int ((x5 + x6) - (1 : Int32))] iv rv lv Q1 ∧ ∀ (v6 : Int32) (iv2 : zI) (rv3 : zR) (lv4 : zJ), Q1 v6 iv2 rv3 lv4 → zTop rv3 ∧ ((v6 = 0 → Zv mX11_comes (d + 1) 110 [some (.ref 174), some (.int x1), some (.int x2), some (.int x3), some (.int x4), some (.int x5), some (.int x6)] [] iv2 rv3 lv4 Q) ∧ (¬ v6 = 0 → vp_in ((x5 + x6) - (1 : Int32)) 120 ∧ (vp_in (x5 + x6) 120 ∧ (∀ iv9 : zI, iv9 = zu iv2 185 (x5 + x6).toNatClampNeg (iv2 185 ((x5 + x6) - (1 : Int32)).toNatClampNeg) → ∀ iv10 : zI, iv10 = zu iv9 186 (x5 + x6).toNatClampNeg (iv9 186 ((x5 + x6) - (1 : Int32)).toNatClampNeg) → ∀ iv11 : zI, iv11 = zu iv10 187 (x5 + x6).toNatClampNeg (iv10 187 ((x5 + x6) - (1 : Int32)).toNatClampNeg) → Zv mX11_comes (d + 1) 14 [some (.ref 174), some (.int x1), some (.int x2), some (.int x3), some (.int x4), some (.int x5), some (.int (x6 + -1))] [] iv11 rv3 lv4 Q)))))) :
    Zv mX11_comes (d + 1) 14 [some (.ref 174), some (.int x1), some (.int x2), some (.int x3), some (.int x4), some (.int x5), some (.int x6)] [] iv rv lv Q := by
  unfold Zv
  refine Z_iload (a := 6) (q := 16) (by decide +kernel) rfl rfl ?_
  refine Z_if_le (t := 110) (off := 94) (q := 19) (by decide +kernel) (by decide) rfl (fun hc => ?_) (fun hc => ?_)
  · replace h := h.1 hc
    exact h
  · replace h := h.2 hc
    refine Z_aload_n (a := 0) (q := 20) (by decide +kernel) rfl rfl ?_
    refine Z_iload_n (a := 2) (q := 21) (by decide +kernel) rfl rfl ?_
    refine Z_iload_n (a := 3) (q := 22) (by decide +kernel) rfl rfl ?_
    refine Z_iload (a := 4) (q := 24) (by decide +kernel) rfl rfl ?_
    refine Z_ior (q := 25) (by decide +kernel) rfl ?_
    refine Z_iload (a := 5) (q := 27) (by decide +kernel) rfl rfl ?_
    refine Z_iload (a := 6) (q := 29) (by decide +kernel) rfl rfl ?_
    refine Z_iadd (q := 30) (by decide +kernel) rfl ?_
    refine Z_iconst (a := 1) (v := 1) (q := 31) (by decide +kernel) (by decide +kernel) rfl ?_
    refine Z_isub (q := 32) (by decide +kernel) rfl ?_
    obtain ⟨Q1, hm, h⟩ := h
    refine Z_callVi (M2 := mX11_isAhead) (idx := 250) (d2 := d) (ci := 11) (As := [.int _, .int _, .int _]) (q := 35) (by decide +kernel) kX11_isAhead lX11_250 rfl rfl (by decide) rfl rfl (by decide +kernel) (Nat.le_of_ble_eq_true rfl) (Nat.le_refl _) hm rfl (fun v6 iv2 rv3 lv4 hq => ?_)
    obtain ⟨hT5, h⟩ := h v6 iv2 rv3 lv4 hq
    refine Z_if_eq (t := 110) (off := 75) (q := 38) (by decide +kernel) (by decide) rfl (fun hc => ?_) (fun hc => ?_)
    · replace h := h.1 hc
      exact h
    · replace h := h.2 hc
      refine Z_aload_n (a := 0) (q := 39) (by decide +kernel) rfl rfl ?_
      refine g11_26 (idx := 45) (q := 42) (by decide +kernel) fX11_45 rfl (by decide) (t11_26 hT5) rfl ?_
      refine Z_iload (a := 5) (q := 44) (by decide +kernel) rfl rfl ?_
      refine Z_iload (a := 6) (q := 46) (by decide +kernel) rfl rfl ?_
      refine Z_iadd (q := 47) (by decide +kernel) rfl ?_
      refine Z_aload_n (a := 0) (q := 48) (by decide +kernel) rfl rfl ?_
      refine g11_26 (idx := 45) (q := 51) (by decide +kernel) fX11_45 rfl (by decide) (t11_26 hT5) rfl ?_
      refine Z_iload (a := 5) (q := 53) (by decide +kernel) rfl rfl ?_
      refine Z_iload (a := 6) (q := 55) (by decide +kernel) rfl rfl ?_
      refine Z_iadd (q := 56) (by decide +kernel) rfl ?_
      refine Z_iconst (a := 1) (v := 1) (q := 57) (by decide +kernel) (by decide +kernel) rfl ?_
      refine Z_isub (q := 58) (by decide +kernel) rfl ?_
      obtain ⟨hin7, h⟩ := h
      refine Z_iald (len := 120) (q := 59) (by decide +kernel) rfl (by decide) hin7 rfl ?_
      obtain ⟨hin8, h⟩ := h
      refine Z_iast (len := 120) (q := 60) (by decide +kernel) rfl (by decide) hin8 rfl ?_
      replace h := h _ rfl
      refine Z_aload_n (a := 0) (q := 61) (by decide +kernel) rfl rfl ?_
      refine g11_27 (idx := 48) (q := 64) (by decide +kernel) fX11_48 rfl (by decide) (t11_27 hT5) rfl ?_
      refine Z_iload (a := 5) (q := 66) (by decide +kernel) rfl rfl ?_
      refine Z_iload (a := 6) (q := 68) (by decide +kernel) rfl rfl ?_
      refine Z_iadd (q := 69) (by decide +kernel) rfl ?_
      refine Z_aload_n (a := 0) (q := 70) (by decide +kernel) rfl rfl ?_
      refine g11_27 (idx := 48) (q := 73) (by decide +kernel) fX11_48 rfl (by decide) (t11_27 hT5) rfl ?_
      refine Z_iload (a := 5) (q := 75) (by decide +kernel) rfl rfl ?_
      refine Z_iload (a := 6) (q := 77) (by decide +kernel) rfl rfl ?_
      refine Z_iadd (q := 78) (by decide +kernel) rfl ?_
      refine Z_iconst (a := 1) (v := 1) (q := 79) (by decide +kernel) (by decide +kernel) rfl ?_
      refine Z_isub (q := 80) (by decide +kernel) rfl ?_
      refine Z_iald (len := 120) (q := 81) (by decide +kernel) rfl (by decide) hin7 rfl ?_
      refine Z_iast (len := 120) (q := 82) (by decide +kernel) rfl (by decide) hin8 rfl ?_
      replace h := h _ rfl
      refine Z_aload_n (a := 0) (q := 83) (by decide +kernel) rfl rfl ?_
      refine g11_28 (idx := 51) (q := 86) (by decide +kernel) fX11_51 rfl (by decide) (t11_28 hT5) rfl ?_
      refine Z_iload (a := 5) (q := 88) (by decide +kernel) rfl rfl ?_
      refine Z_iload (a := 6) (q := 90) (by decide +kernel) rfl rfl ?_
      refine Z_iadd (q := 91) (by decide +kernel) rfl ?_
      refine Z_aload_n (a := 0) (q := 92) (by decide +kernel) rfl rfl ?_
      refine g11_28 (idx := 51) (q := 95) (by decide +kernel) fX11_51 rfl (by decide) (t11_28 hT5) rfl ?_
      refine Z_iload (a := 5) (q := 97) (by decide +kernel) rfl rfl ?_
      refine Z_iload (a := 6) (q := 99) (by decide +kernel) rfl rfl ?_
      refine Z_iadd (q := 100) (by decide +kernel) rfl ?_
      refine Z_iconst (a := 1) (v := 1) (q := 101) (by decide +kernel) (by decide +kernel) rfl ?_
      refine Z_isub (q := 102) (by decide +kernel) rfl ?_
      refine Z_iald (len := 120) (q := 103) (by decide +kernel) rfl (by decide) hin7 rfl ?_
      refine Z_iast (len := 120) (q := 104) (by decide +kernel) rfl (by decide) hin8 rfl ?_
      replace h := h _ rfl
      refine Z_iinc (a := 6) (b := -1) (v := _ + -1) (loc2 := [_, _, _, _, _, _, _]) (q := 107) (by decide +kernel) rfl (zdec _) (by decide +kernel) rfl rfl rfl ?_
      refine Z_goto (q := 14) (off := -93) (by decide +kernel) (by decide) ?_
      exact h
set_option maxRecDepth 4000 in
theorem bX11_comes_110 {d : Nat} (x1 : Int32) (x2 : Int32) (x3 : Int32) (x4 : Int32) (x5 : Int32) (x6 : Int32) {iv : zI} {rv : zR} {lv : zJ} {Q : zI → zR → zJ → Prop} (hT : zTop rv) 
    (h : vp_in (x5 + x6) 120 ∧ (∀ iv2 : zI, iv2 = zu iv 185 (x5 + x6).toNatClampNeg x2 → ∀ iv3 : zI, iv3 = zu iv2 186 (x5 + x6).toNatClampNeg x3 → ∀ iv4 : zI, iv4 = zu iv3 187 (x5 + x6).toNatClampNeg x4 → vp_in x1 12 ∧ (∀ iv6 : zI, iv6 = zu iv4 184 x1.toNatClampNeg ((iv4 184 x1.toNatClampNeg) + (1 : Int32)) → Q iv6 rv lv))) :
    Zv mX11_comes (d + 1) 110 [some (.ref 174), some (.int x1), some (.int x2), some (.int x3), some (.int x4), some (.int x5), some (.int x6)] [] iv rv lv Q := by
  unfold Zv
  refine Z_aload_n (a := 0) (q := 111) (by decide +kernel) rfl rfl ?_
  refine g11_26 (idx := 45) (q := 114) (by decide +kernel) fX11_45 rfl (by decide) (t11_26 hT) rfl ?_
  refine Z_iload (a := 5) (q := 116) (by decide +kernel) rfl rfl ?_
  refine Z_iload (a := 6) (q := 118) (by decide +kernel) rfl rfl ?_
  refine Z_iadd (q := 119) (by decide +kernel) rfl ?_
  refine Z_iload_n (a := 2) (q := 120) (by decide +kernel) rfl rfl ?_
  obtain ⟨hin1, h⟩ := h
  refine Z_iast (len := 120) (q := 121) (by decide +kernel) rfl (by decide) hin1 rfl ?_
  replace h := h _ rfl
  refine Z_aload_n (a := 0) (q := 122) (by decide +kernel) rfl rfl ?_
  refine g11_27 (idx := 48) (q := 125) (by decide +kernel) fX11_48 rfl (by decide) (t11_27 hT) rfl ?_
  refine Z_iload (a := 5) (q := 127) (by decide +kernel) rfl rfl ?_
  refine Z_iload (a := 6) (q := 129) (by decide +kernel) rfl rfl ?_
  refine Z_iadd (q := 130) (by decide +kernel) rfl ?_
  refine Z_iload_n (a := 3) (q := 131) (by decide +kernel) rfl rfl ?_
  refine Z_iast (len := 120) (q := 132) (by decide +kernel) rfl (by decide) hin1 rfl ?_
  replace h := h _ rfl
  refine Z_aload_n (a := 0) (q := 133) (by decide +kernel) rfl rfl ?_
  refine g11_28 (idx := 51) (q := 136) (by decide +kernel) fX11_51 rfl (by decide) (t11_28 hT) rfl ?_
  refine Z_iload (a := 5) (q := 138) (by decide +kernel) rfl rfl ?_
  refine Z_iload (a := 6) (q := 140) (by decide +kernel) rfl rfl ?_
  refine Z_iadd (q := 141) (by decide +kernel) rfl ?_
  refine Z_iload (a := 4) (q := 143) (by decide +kernel) rfl rfl ?_
  refine Z_iast (len := 120) (q := 144) (by decide +kernel) rfl (by decide) hin1 rfl ?_
  replace h := h _ rfl
  refine Z_aload_n (a := 0) (q := 145) (by decide +kernel) rfl rfl ?_
  refine g11_25 (idx := 42) (q := 148) (by decide +kernel) fX11_42 rfl (by decide) (t11_25 hT) rfl ?_
  refine Z_iload_n (a := 1) (q := 149) (by decide +kernel) rfl rfl ?_
  refine Z_dup2 (q := 150) (by decide +kernel) rfl rfl rfl ?_
  obtain ⟨hin5, h⟩ := h
  refine Z_iald (len := 12) (q := 151) (by decide +kernel) rfl (by decide) hin5 rfl ?_
  refine Z_iconst (a := 1) (v := 1) (q := 152) (by decide +kernel) (by decide +kernel) rfl ?_
  refine Z_iadd (q := 153) (by decide +kernel) rfl ?_
  refine Z_iast (len := 12) (q := 154) (by decide +kernel) rfl (by decide) hin5 rfl ?_
  replace h := h _ rfl
  exact Z_vret (by decide +kernel) rfl rfl ⟨rfl, h⟩
theorem eX11_begins {d : Nat}  {iv : zI} {rv : zR} {lv : zJ} {Q : zI → zR → zJ → Prop} (h : Zv mX11_begins (d + 1) 0 [some (.ref 174), none] [] iv rv lv Q) : Cv mX11_begins (d + 1) [.ref 174] iv rv lv Q := Cv.of (by decide +kernel) (by simp [Value.category]) (Nat.le_of_ble_eq_true rfl) rfl h
set_option maxRecDepth 4000 in
theorem bX11_begins_0 {d : Nat}  {iv : zI} {rv : zR} {lv : zJ} {Q : zI → zR → zJ → Prop} (hT : zTop rv) 
    (h : ∀ iv1 : zI, iv1 = zu iv 184 0 (0 : Int32) → Zv mX11_begins (d + 1) 9 [some (.ref 174), some (.int (0 : Int32))] [] iv1 rv lv Q) :
    Zv mX11_begins (d + 1) 0 [some (.ref 174), none] [] iv rv lv Q := by
  unfold Zv
  refine Z_aload_n (a := 0) (q := 1) (by decide +kernel) rfl rfl ?_
  refine g11_25 (idx := 42) (q := 4) (by decide +kernel) fX11_42 rfl (by decide) (t11_25 hT) rfl ?_
  refine Z_iconst (a := 0) (v := 0) (q := 5) (by decide +kernel) (by decide +kernel) rfl ?_
  refine Z_iconst (a := 0) (v := 0) (q := 6) (by decide +kernel) (by decide +kernel) rfl ?_
  refine Z_iast (len := 12) (q := 7) (by decide +kernel) rfl (by decide) (by unfold vp_in; decide) rfl ?_
  replace h := h _ rfl
  refine Z_iconst (a := 0) (v := 0) (q := 8) (by decide +kernel) (by decide +kernel) rfl ?_
  refine Z_istore_n (a := 1) (loc2 := [_, _]) (q := 9) (by decide +kernel) (by decide +kernel) rfl rfl rfl ?_
  exact h
set_option maxRecDepth 4000 in
theorem bX11_begins_9 {d : Nat} (x1 : Int32) {iv : zI} {rv : zR} {lv : zJ} {Q : zI → zR → zJ → Prop} (hT : zTop rv) 
    (h : ((iv 176 0) ≤ x1 → Q iv rv lv) ∧ (¬ (iv 176 0) ≤ x1 → ∃ Q1 : Int32 → zI → zR → zJ → Prop, Ci mX11_value d [.ref 174, .int x1] iv rv lv Q1 ∧ ∀ (v6 : Int32) (iv2 : zI) (rv3 : zR) (lv4 : zJ), Q1 v6 iv2 rv3 lv4 → zTop rv3 ∧ (∃ Q7 : zI → zR → zJ → Prop, Cv mX11_comes d [.ref 174, .int (0 : Int32), .int v6, .int ((1 : Int32) <<< (x1 &&& 31)), .int (0 : Int32)] iv2 rv3 lv4 Q7 ∧ ∀ (iv8 : zI) (rv9 : zR) (lv10 : zJ), Q7 iv8 rv9 lv10 → zTop rv9 ∧ (Zv mX11_begins (d + 1) 9 [some (.ref 174), some (.int (x1 + 1))] [] iv8 rv9 lv10 Q)))) :
    Zv mX11_begins (d + 1) 9 [some (.ref 174), some (.int x1)] [] iv rv lv Q := by
  unfold Zv
  refine Z_iload_n (a := 1) (q := 10) (by decide +kernel) rfl rfl ?_
  refine Z_aload_n (a := 0) (q := 11) (by decide +kernel) rfl rfl ?_
  refine g11_14 (idx := 17) (q := 14) (by decide +kernel) fX11_17 rfl (by decide) (t11_14 hT) rfl ?_
  refine Z_iconst (a := 0) (v := 0) (q := 15) (by decide +kernel) (by decide +kernel) rfl ?_
  refine Z_iald (len := 35) (q := 16) (by decide +kernel) rfl (by decide) (by unfold vp_in; decide) rfl ?_
  refine Z_icmp_ge (t := 39) (off := 23) (q := 19) (by decide +kernel) (by decide) rfl (fun hc => ?_) (fun hc => ?_)
  · replace h := h.1 hc
    exact Z_vret (by decide +kernel) rfl rfl ⟨rfl, h⟩
  · replace h := h.2 hc
    refine Z_aload_n (a := 0) (q := 20) (by decide +kernel) rfl rfl ?_
    refine Z_iconst (a := 0) (v := 0) (q := 21) (by decide +kernel) (by decide +kernel) rfl ?_
    refine Z_aload_n (a := 0) (q := 22) (by decide +kernel) rfl rfl ?_
    refine Z_iload_n (a := 1) (q := 23) (by decide +kernel) rfl rfl ?_
    obtain ⟨Q1, hm, h⟩ := h
    refine Z_callVi (M2 := mX11_value) (idx := 217) (d2 := d) (ci := 11) (As := [.int _]) (q := 26) (by decide +kernel) kX11_value lX11_217 rfl rfl (by decide) rfl rfl (by decide +kernel) (Nat.le_of_ble_eq_true rfl) (Nat.le_refl _) hm rfl (fun v6 iv2 rv3 lv4 hq => ?_)
    obtain ⟨hT5, h⟩ := h v6 iv2 rv3 lv4 hq
    refine Z_iconst (a := 1) (v := 1) (q := 27) (by decide +kernel) (by decide +kernel) rfl ?_
    refine Z_iload_n (a := 1) (q := 28) (by decide +kernel) rfl rfl ?_
    refine Z_ishl (q := 29) (by decide +kernel) rfl ?_
    refine Z_iconst (a := 0) (v := 0) (q := 30) (by decide +kernel) (by decide +kernel) rfl ?_
    obtain ⟨Q7, hm, h⟩ := h
    refine Z_callVv (M2 := mX11_comes) (idx := 253) (d2 := d) (ci := 11) (As := [.int _, .int _, .int _, .int _]) (q := 33) (by decide +kernel) kX11_comes lX11_253 rfl rfl (by decide) rfl rfl (by decide +kernel) (Nat.le_of_ble_eq_true rfl) (Nat.le_refl _) hm rfl (fun iv8 rv9 lv10 hq => ?_)
    obtain ⟨hT11, h⟩ := h iv8 rv9 lv10 hq
    refine Z_iinc (a := 1) (b := 1) (v := _ + 1) (loc2 := [_, _]) (q := 36) (by decide +kernel) rfl (zinc _) (by decide +kernel) rfl rfl rfl ?_
    refine Z_goto (q := 9) (off := -27) (by decide +kernel) (by decide) ?_
    exact h
theorem eX11_joins {d : Nat} (x1 : Int32) (x2 : Int32) {iv : zI} {rv : zR} {lv : zJ} {Q : zI → zR → zJ → Prop} (h : Zv mX11_joins (d + 1) 0 [some (.ref 174), some (.int x1), some (.int x2), none, none] [] iv rv lv Q) : Cv mX11_joins (d + 1) [.ref 174, .int x1, .int x2] iv rv lv Q := Cv.of (by decide +kernel) (by simp [Value.category]) (Nat.le_of_ble_eq_true rfl) rfl h
set_option maxRecDepth 4000 in
theorem bX11_joins_0 {d : Nat} (x1 : Int32) (x2 : Int32) {iv : zI} {rv : zR} {lv : zJ} {Q : zI → zR → zJ → Prop} (hT : zTop rv) 
    (h : vp_in (x1 + (1 : Int32)) 12 ∧ (∀ iv2 : zI, iv2 = zu iv 184 (x1 + (1 : Int32)).toNatClampNeg (0 : Int32) → Zv mX11_joins (d + 1) 17 [some (.ref 174), some (.int x1), some (.int x2), some (.int ((10 : Int32) * x1)), some (.int (2 : Int32))] [] iv2 rv lv Q)) :
    Zv mX11_joins (d + 1) 0 [some (.ref 174), some (.int x1), some (.int x2), none, none] [] iv rv lv Q := by
  unfold Zv
  refine Z_bipush (a := 10) (v := 10) (q := 2) (by decide +kernel) (by decide +kernel) rfl ?_
  refine Z_iload_n (a := 1) (q := 3) (by decide +kernel) rfl rfl ?_
  refine Z_imul (q := 4) (by decide +kernel) rfl ?_
  refine Z_istore_n (a := 3) (loc2 := [_, _, _, _, _]) (q := 5) (by decide +kernel) (by decide +kernel) rfl rfl rfl ?_
  refine Z_aload_n (a := 0) (q := 6) (by decide +kernel) rfl rfl ?_
  refine g11_25 (idx := 42) (q := 9) (by decide +kernel) fX11_42 rfl (by decide) (t11_25 hT) rfl ?_
  refine Z_iload_n (a := 1) (q := 10) (by decide +kernel) rfl rfl ?_
  refine Z_iconst (a := 1) (v := 1) (q := 11) (by decide +kernel) (by decide +kernel) rfl ?_
  refine Z_iadd (q := 12) (by decide +kernel) rfl ?_
  refine Z_iconst (a := 0) (v := 0) (q := 13) (by decide +kernel) (by decide +kernel) rfl ?_
  obtain ⟨hin1, h⟩ := h
  refine Z_iast (len := 12) (q := 14) (by decide +kernel) rfl (by decide) hin1 rfl ?_
  replace h := h _ rfl
  refine Z_iconst (a := 2) (v := 2) (q := 15) (by decide +kernel) (by decide +kernel) rfl ?_
  refine Z_istore (a := 4) (loc2 := [_, _, _, _, _]) (q := 17) (by decide +kernel) (by decide +kernel) rfl rfl rfl ?_
  exact h
set_option maxRecDepth 4000 in
theorem bX11_joins_17 {d : Nat} (x1 : Int32) (x2 : Int32) (x3 : Int32) (x4 : Int32) {iv : zI} {rv : zR} {lv : zJ} {Q : zI → zR → zJ → Prop} (hT : zTop rv) 
    (h : vp_in x1 12 ∧ (((iv 184 x1.toNatClampNeg) ≤ x4 → (x2 = 0 → vp_in x3 120 ∧ (vp_in (x3 + (1 : Int32)) 120 ∧ (∃ Q4 : zI → zR → zJ → Prop, Cv mX11_comes d [.ref 174, .int (x1 + (1 : Int32)), .int ((iv 185 x3.toNatClampNeg) + (iv 185 (x3 + (1 : Int32)).toNatClampNeg)), .int ((iv 186 x3.toNatClampNeg) ||| (iv 186 (x3 + (1 : Int32)).toNatClampNeg)), .int ((iv 187 x3.toNatClampNeg) ||| (iv 187 (x3 + (1 : Int32)).toNatClampNeg))] iv rv lv Q4 ∧ ∀ (iv5 : zI) (rv6 : zR) (lv7 : zJ), Q4 iv5 rv6 lv7 → zTop rv6 ∧ (Q iv5 rv6 lv7)))) ∧ (¬ x2 = 0 → vp_in x3 120 ∧ (vp_in (x3 + (1 : Int32)) 120 ∧ (∃ Q12 : zI → zR → zJ → Prop, Cv mX11_comes d [.ref 174, .int (x1 + (1 : Int32)), .int ((iv 185 x3.toNatClampNeg) - (iv 185 (x3 + (1 : Int32)).toNatClampNeg)), .int ((iv 186 x3.toNatClampNeg) ||| (iv 187 (x3 + (1 : Int32)).toNatClampNeg)), .int ((iv 187 x3.toNatClampNeg) ||| (iv 186 (x3 + (1 : Int32)).toNatClampNeg))] iv rv lv Q12 ∧ ∀ (iv13 : zI) (rv14 : zR) (lv15 : zJ), Q12 iv13 rv14 lv15 → zTop rv14 ∧ (Q iv13 rv14 lv15))))) ∧ (¬ (iv 184 x1.toNatClampNeg) ≤ x4 → vp_in (x3 + x4) 120 ∧ (∃ Q19 : zI → zR → zJ → Prop, Cv mX11_comes d [.ref 174, .int (x1 + (1 : Int32)), .int (iv 185 (x3 + x4).toNatClampNeg), .int (iv 186 (x3 + x4).toNatClampNeg), .int (iv 187 (x3 + x4).toNatClampNeg)] iv rv lv Q19 ∧ ∀ (iv20 : zI) (rv21 : zR) (lv22 : zJ), Q19 iv20 rv21 lv22 → zTop rv21 ∧ (Zv mX11_joins (d + 1) 17 [some (.ref 174), some (.int x1), some (.int x2), some (.int x3), some (.int (x4 + 1))] [] iv20 rv21 lv22 Q))))) :
    Zv mX11_joins (d + 1) 17 [some (.ref 174), some (.int x1), some (.int x2), some (.int x3), some (.int x4)] [] iv rv lv Q := by
  unfold Zv
  refine Z_iload (a := 4) (q := 19) (by decide +kernel) rfl rfl ?_
  refine Z_aload_n (a := 0) (q := 20) (by decide +kernel) rfl rfl ?_
  refine g11_25 (idx := 42) (q := 23) (by decide +kernel) fX11_42 rfl (by decide) (t11_25 hT) rfl ?_
  refine Z_iload_n (a := 1) (q := 24) (by decide +kernel) rfl rfl ?_
  obtain ⟨hin1, h⟩ := h
  refine Z_iald (len := 12) (q := 25) (by decide +kernel) rfl (by decide) hin1 rfl ?_
  refine Z_icmp_ge (t := 68) (off := 43) (q := 28) (by decide +kernel) (by decide) rfl (fun hc => ?_) (fun hc => ?_)
  · replace h := h.1 hc
    refine Z_iload_n (a := 2) (q := 69) (by decide +kernel) rfl rfl ?_
    refine Z_if_eq (t := 127) (off := 58) (q := 72) (by decide +kernel) (by decide) rfl (fun hc => ?_) (fun hc => ?_)
    · replace h := h.1 hc
      refine Z_aload_n (a := 0) (q := 128) (by decide +kernel) rfl rfl ?_
      refine Z_iload_n (a := 1) (q := 129) (by decide +kernel) rfl rfl ?_
      refine Z_iconst (a := 1) (v := 1) (q := 130) (by decide +kernel) (by decide +kernel) rfl ?_
      refine Z_iadd (q := 131) (by decide +kernel) rfl ?_
      refine Z_aload_n (a := 0) (q := 132) (by decide +kernel) rfl rfl ?_
      refine g11_26 (idx := 45) (q := 135) (by decide +kernel) fX11_45 rfl (by decide) (t11_26 hT) rfl ?_
      refine Z_iload_n (a := 3) (q := 136) (by decide +kernel) rfl rfl ?_
      obtain ⟨hin2, h⟩ := h
      refine Z_iald (len := 120) (q := 137) (by decide +kernel) rfl (by decide) hin2 rfl ?_
      refine Z_aload_n (a := 0) (q := 138) (by decide +kernel) rfl rfl ?_
      refine g11_26 (idx := 45) (q := 141) (by decide +kernel) fX11_45 rfl (by decide) (t11_26 hT) rfl ?_
      refine Z_iload_n (a := 3) (q := 142) (by decide +kernel) rfl rfl ?_
      refine Z_iconst (a := 1) (v := 1) (q := 143) (by decide +kernel) (by decide +kernel) rfl ?_
      refine Z_iadd (q := 144) (by decide +kernel) rfl ?_
      obtain ⟨hin3, h⟩ := h
      refine Z_iald (len := 120) (q := 145) (by decide +kernel) rfl (by decide) hin3 rfl ?_
      refine Z_iadd (q := 146) (by decide +kernel) rfl ?_
      refine Z_aload_n (a := 0) (q := 147) (by decide +kernel) rfl rfl ?_
      refine g11_27 (idx := 48) (q := 150) (by decide +kernel) fX11_48 rfl (by decide) (t11_27 hT) rfl ?_
      refine Z_iload_n (a := 3) (q := 151) (by decide +kernel) rfl rfl ?_
      refine Z_iald (len := 120) (q := 152) (by decide +kernel) rfl (by decide) hin2 rfl ?_
      refine Z_aload_n (a := 0) (q := 153) (by decide +kernel) rfl rfl ?_
      refine g11_27 (idx := 48) (q := 156) (by decide +kernel) fX11_48 rfl (by decide) (t11_27 hT) rfl ?_
      refine Z_iload_n (a := 3) (q := 157) (by decide +kernel) rfl rfl ?_
      refine Z_iconst (a := 1) (v := 1) (q := 158) (by decide +kernel) (by decide +kernel) rfl ?_
      refine Z_iadd (q := 159) (by decide +kernel) rfl ?_
      refine Z_iald (len := 120) (q := 160) (by decide +kernel) rfl (by decide) hin3 rfl ?_
      refine Z_ior (q := 161) (by decide +kernel) rfl ?_
      refine Z_aload_n (a := 0) (q := 162) (by decide +kernel) rfl rfl ?_
      refine g11_28 (idx := 51) (q := 165) (by decide +kernel) fX11_51 rfl (by decide) (t11_28 hT) rfl ?_
      refine Z_iload_n (a := 3) (q := 166) (by decide +kernel) rfl rfl ?_
      refine Z_iald (len := 120) (q := 167) (by decide +kernel) rfl (by decide) hin2 rfl ?_
      refine Z_aload_n (a := 0) (q := 168) (by decide +kernel) rfl rfl ?_
      refine g11_28 (idx := 51) (q := 171) (by decide +kernel) fX11_51 rfl (by decide) (t11_28 hT) rfl ?_
      refine Z_iload_n (a := 3) (q := 172) (by decide +kernel) rfl rfl ?_
      refine Z_iconst (a := 1) (v := 1) (q := 173) (by decide +kernel) (by decide +kernel) rfl ?_
      refine Z_iadd (q := 174) (by decide +kernel) rfl ?_
      refine Z_iald (len := 120) (q := 175) (by decide +kernel) rfl (by decide) hin3 rfl ?_
      refine Z_ior (q := 176) (by decide +kernel) rfl ?_
      obtain ⟨Q4, hm, h⟩ := h
      refine Z_callVv (M2 := mX11_comes) (idx := 253) (d2 := d) (ci := 11) (As := [.int _, .int _, .int _, .int _]) (q := 179) (by decide +kernel) kX11_comes lX11_253 rfl rfl (by decide) rfl rfl (by decide +kernel) (Nat.le_of_ble_eq_true rfl) (Nat.le_refl _) hm rfl (fun iv5 rv6 lv7 hq => ?_)
      obtain ⟨hT8, h⟩ := h iv5 rv6 lv7 hq
      exact Z_vret (by decide +kernel) rfl rfl ⟨rfl, h⟩
    · replace h := h.2 hc
      refine Z_aload_n (a := 0) (q := 73) (by decide +kernel) rfl rfl ?_
      refine Z_iload_n (a := 1) (q := 74) (by decide +kernel) rfl rfl ?_
      refine Z_iconst (a := 1) (v := 1) (q := 75) (by decide +kernel) (by decide +kernel) rfl ?_
      refine Z_iadd (q := 76) (by decide +kernel) rfl ?_
      refine Z_aload_n (a := 0) (q := 77) (by decide +kernel) rfl rfl ?_
      refine g11_26 (idx := 45) (q := 80) (by decide +kernel) fX11_45 rfl (by decide) (t11_26 hT) rfl ?_
      refine Z_iload_n (a := 3) (q := 81) (by decide +kernel) rfl rfl ?_
      obtain ⟨hin10, h⟩ := h
      refine Z_iald (len := 120) (q := 82) (by decide +kernel) rfl (by decide) hin10 rfl ?_
      refine Z_aload_n (a := 0) (q := 83) (by decide +kernel) rfl rfl ?_
      refine g11_26 (idx := 45) (q := 86) (by decide +kernel) fX11_45 rfl (by decide) (t11_26 hT) rfl ?_
      refine Z_iload_n (a := 3) (q := 87) (by decide +kernel) rfl rfl ?_
      refine Z_iconst (a := 1) (v := 1) (q := 88) (by decide +kernel) (by decide +kernel) rfl ?_
      refine Z_iadd (q := 89) (by decide +kernel) rfl ?_
      obtain ⟨hin11, h⟩ := h
      refine Z_iald (len := 120) (q := 90) (by decide +kernel) rfl (by decide) hin11 rfl ?_
      refine Z_isub (q := 91) (by decide +kernel) rfl ?_
      refine Z_aload_n (a := 0) (q := 92) (by decide +kernel) rfl rfl ?_
      refine g11_27 (idx := 48) (q := 95) (by decide +kernel) fX11_48 rfl (by decide) (t11_27 hT) rfl ?_
      refine Z_iload_n (a := 3) (q := 96) (by decide +kernel) rfl rfl ?_
      refine Z_iald (len := 120) (q := 97) (by decide +kernel) rfl (by decide) hin10 rfl ?_
      refine Z_aload_n (a := 0) (q := 98) (by decide +kernel) rfl rfl ?_
      refine g11_28 (idx := 51) (q := 101) (by decide +kernel) fX11_51 rfl (by decide) (t11_28 hT) rfl ?_
      refine Z_iload_n (a := 3) (q := 102) (by decide +kernel) rfl rfl ?_
      refine Z_iconst (a := 1) (v := 1) (q := 103) (by decide +kernel) (by decide +kernel) rfl ?_
      refine Z_iadd (q := 104) (by decide +kernel) rfl ?_
      refine Z_iald (len := 120) (q := 105) (by decide +kernel) rfl (by decide) hin11 rfl ?_
      refine Z_ior (q := 106) (by decide +kernel) rfl ?_
      refine Z_aload_n (a := 0) (q := 107) (by decide +kernel) rfl rfl ?_
      refine g11_28 (idx := 51) (q := 110) (by decide +kernel) fX11_51 rfl (by decide) (t11_28 hT) rfl ?_
      refine Z_iload_n (a := 3) (q := 111) (by decide +kernel) rfl rfl ?_
      refine Z_iald (len := 120) (q := 112) (by decide +kernel) rfl (by decide) hin10 rfl ?_
      refine Z_aload_n (a := 0) (q := 113) (by decide +kernel) rfl rfl ?_
      refine g11_27 (idx := 48) (q := 116) (by decide +kernel) fX11_48 rfl (by decide) (t11_27 hT) rfl ?_
      refine Z_iload_n (a := 3) (q := 117) (by decide +kernel) rfl rfl ?_
      refine Z_iconst (a := 1) (v := 1) (q := 118) (by decide +kernel) (by decide +kernel) rfl ?_
      refine Z_iadd (q := 119) (by decide +kernel) rfl ?_
      refine Z_iald (len := 120) (q := 120) (by decide +kernel) rfl (by decide) hin11 rfl ?_
      refine Z_ior (q := 121) (by decide +kernel) rfl ?_
      obtain ⟨Q12, hm, h⟩ := h
      refine Z_callVv (M2 := mX11_comes) (idx := 253) (d2 := d) (ci := 11) (As := [.int _, .int _, .int _, .int _]) (q := 124) (by decide +kernel) kX11_comes lX11_253 rfl rfl (by decide) rfl rfl (by decide +kernel) (Nat.le_of_ble_eq_true rfl) (Nat.le_refl _) hm rfl (fun iv13 rv14 lv15 hq => ?_)
      obtain ⟨hT16, h⟩ := h iv13 rv14 lv15 hq
      refine Z_goto (q := 179) (off := 55) (by decide +kernel) (by decide) ?_
      exact Z_vret (by decide +kernel) rfl rfl ⟨rfl, h⟩
  · replace h := h.2 hc
    refine Z_aload_n (a := 0) (q := 29) (by decide +kernel) rfl rfl ?_
    refine Z_iload_n (a := 1) (q := 30) (by decide +kernel) rfl rfl ?_
    refine Z_iconst (a := 1) (v := 1) (q := 31) (by decide +kernel) (by decide +kernel) rfl ?_
    refine Z_iadd (q := 32) (by decide +kernel) rfl ?_
    refine Z_aload_n (a := 0) (q := 33) (by decide +kernel) rfl rfl ?_
    refine g11_26 (idx := 45) (q := 36) (by decide +kernel) fX11_45 rfl (by decide) (t11_26 hT) rfl ?_
    refine Z_iload_n (a := 3) (q := 37) (by decide +kernel) rfl rfl ?_
    refine Z_iload (a := 4) (q := 39) (by decide +kernel) rfl rfl ?_
    refine Z_iadd (q := 40) (by decide +kernel) rfl ?_
    obtain ⟨hin18, h⟩ := h
    refine Z_iald (len := 120) (q := 41) (by decide +kernel) rfl (by decide) hin18 rfl ?_
    refine Z_aload_n (a := 0) (q := 42) (by decide +kernel) rfl rfl ?_
    refine g11_27 (idx := 48) (q := 45) (by decide +kernel) fX11_48 rfl (by decide) (t11_27 hT) rfl ?_
    refine Z_iload_n (a := 3) (q := 46) (by decide +kernel) rfl rfl ?_
    refine Z_iload (a := 4) (q := 48) (by decide +kernel) rfl rfl ?_
    refine Z_iadd (q := 49) (by decide +kernel) rfl ?_
    refine Z_iald (len := 120) (q := 50) (by decide +kernel) rfl (by decide) hin18 rfl ?_
    refine Z_aload_n (a := 0) (q := 51) (by decide +kernel) rfl rfl ?_
    refine g11_28 (idx := 51) (q := 54) (by decide +kernel) fX11_51 rfl (by decide) (t11_28 hT) rfl ?_
    refine Z_iload_n (a := 3) (q := 55) (by decide +kernel) rfl rfl ?_
    refine Z_iload (a := 4) (q := 57) (by decide +kernel) rfl rfl ?_
    refine Z_iadd (q := 58) (by decide +kernel) rfl ?_
    refine Z_iald (len := 120) (q := 59) (by decide +kernel) rfl (by decide) hin18 rfl ?_
    obtain ⟨Q19, hm, h⟩ := h
    refine Z_callVv (M2 := mX11_comes) (idx := 253) (d2 := d) (ci := 11) (As := [.int _, .int _, .int _, .int _]) (q := 62) (by decide +kernel) kX11_comes lX11_253 rfl rfl (by decide) rfl rfl (by decide +kernel) (Nat.le_of_ble_eq_true rfl) (Nat.le_refl _) hm rfl (fun iv20 rv21 lv22 hq => ?_)
    obtain ⟨hT23, h⟩ := h iv20 rv21 lv22 hq
    refine Z_iinc (a := 4) (b := 1) (v := _ + 1) (loc2 := [_, _, _, _, _]) (q := 65) (by decide +kernel) rfl (zinc _) (by decide +kernel) rfl rfl rfl ?_
    refine Z_goto (q := 17) (off := -48) (by decide +kernel) (by decide) ?_
    exact h
theorem eX11_differs {d : Nat}  {iv : zI} {rv : zR} {lv : zJ} {Q : Int32 → zI → zR → zJ → Prop} (h : Zi mX11_differs (d + 1) 0 [some (.ref 174), none] [] iv rv lv Q) : Ci mX11_differs (d + 1) [.ref 174] iv rv lv Q := Ci.of (by decide +kernel) (by simp [Value.category]) (Nat.le_of_ble_eq_true rfl) rfl h
set_option maxRecDepth 4000 in
theorem bX11_differs_0 {d : Nat}  {iv : zI} {rv : zR} {lv : zJ} {Q : Int32 → zI → zR → zJ → Prop} (hT : zTop rv) 
    (h : ∃ Q1 : zI → zR → zJ → Prop, Cv mX11_begins d [.ref 174] iv rv lv Q1 ∧ ∀ (iv2 : zI) (rv3 : zR) (lv4 : zJ), Q1 iv2 rv3 lv4 → zTop rv3 ∧ (Zi mX11_differs (d + 1) 6 [some (.ref 174), some (.int (0 : Int32))] [] iv2 rv3 lv4 Q)) :
    Zi mX11_differs (d + 1) 0 [some (.ref 174), none] [] iv rv lv Q := by
  unfold Zi
  refine Z_aload_n (a := 0) (q := 1) (by decide +kernel) rfl rfl ?_
  obtain ⟨Q1, hm, h⟩ := h
  refine Z_callVv (M2 := mX11_begins) (idx := 257) (d2 := d) (ci := 11) (As := []) (q := 4) (by decide +kernel) kX11_begins lX11_257 rfl rfl (by decide) rfl rfl (by decide +kernel) (Nat.le_of_ble_eq_true rfl) (Nat.le_refl _) hm rfl (fun iv2 rv3 lv4 hq => ?_)
  obtain ⟨hT5, h⟩ := h iv2 rv3 lv4 hq
  refine Z_iconst (a := 0) (v := 0) (q := 5) (by decide +kernel) (by decide +kernel) rfl ?_
  refine Z_istore_n (a := 1) (loc2 := [_, _]) (q := 6) (by decide +kernel) (by decide +kernel) rfl rfl rfl ?_
  exact h
set_option maxRecDepth 4000 in
theorem bX11_differs_6 {d : Nat} (x1 : Int32) {iv : zI} {rv : zR} {lv : zJ} {Q : Int32 → zI → zR → zJ → Prop} (hT : zTop rv) 
    (h : vp_in x1 12 ∧ (((iv 184 x1.toNatClampNeg) ≤ (1 : Int32) → Q x1 iv rv lv) ∧ (¬ (iv 184 x1.toNatClampNeg) ≤ (1 : Int32) → vp_in ((10 : Int32) * x1) 120 ∧ (vp_in x1 10 ∧ (∀ iv4 : zI, iv4 = zu iv 188 x1.toNatClampNeg (iv 185 ((10 : Int32) * x1).toNatClampNeg) → vp_in (((10 : Int32) * x1) + (1 : Int32)) 120 ∧ (∀ iv6 : zI, iv6 = zu iv4 189 x1.toNatClampNeg (iv4 185 (((10 : Int32) * x1) + (1 : Int32)).toNatClampNeg) → ∃ Q7 : zI → zR → zJ → Prop, Cv mX11_joins d [.ref 174, .int x1, .int (1 : Int32)] iv6 rv lv Q7 ∧ ∀ (iv8 : zI) (rv9 : zR) (lv10 : zJ), Q7 iv8 rv9 lv10 → zTop rv9 ∧ (Zi mX11_differs (d + 1) 6 [some (.ref 174), some (.int (x1 + 1))] [] iv8 rv9 lv10 Q))))))) :
    Zi mX11_differs (d + 1) 6 [some (.ref 174), some (.int x1)] [] iv rv lv Q := by
  unfold Zi
  refine Z_aload_n (a := 0) (q := 7) (by decide +kernel) rfl rfl ?_
  refine g11_25 (idx := 42) (q := 10) (by decide +kernel) fX11_42 rfl (by decide) (t11_25 hT) rfl ?_
  refine Z_iload_n (a := 1) (q := 11) (by decide +kernel) rfl rfl ?_
  obtain ⟨hin1, h⟩ := h
  refine Z_iald (len := 12) (q := 12) (by decide +kernel) rfl (by decide) hin1 rfl ?_
  refine Z_iconst (a := 1) (v := 1) (q := 13) (by decide +kernel) (by decide +kernel) rfl ?_
  refine Z_icmp_le (t := 60) (off := 47) (q := 16) (by decide +kernel) (by decide) rfl (fun hc => ?_) (fun hc => ?_)
  · replace h := h.1 hc
    refine Z_iload_n (a := 1) (q := 61) (by decide +kernel) rfl rfl ?_
    exact Z_iret (ty := .int) (by decide +kernel) rfl rfl rfl ⟨_, rfl, h⟩
  · replace h := h.2 hc
    refine Z_aload_n (a := 0) (q := 17) (by decide +kernel) rfl rfl ?_
    refine g11_29 (idx := 54) (q := 20) (by decide +kernel) fX11_54 rfl (by decide) (t11_29 hT) rfl ?_
    refine Z_iload_n (a := 1) (q := 21) (by decide +kernel) rfl rfl ?_
    refine Z_aload_n (a := 0) (q := 22) (by decide +kernel) rfl rfl ?_
    refine g11_26 (idx := 45) (q := 25) (by decide +kernel) fX11_45 rfl (by decide) (t11_26 hT) rfl ?_
    refine Z_bipush (a := 10) (v := 10) (q := 27) (by decide +kernel) (by decide +kernel) rfl ?_
    refine Z_iload_n (a := 1) (q := 28) (by decide +kernel) rfl rfl ?_
    refine Z_imul (q := 29) (by decide +kernel) rfl ?_
    obtain ⟨hin2, h⟩ := h
    refine Z_iald (len := 120) (q := 30) (by decide +kernel) rfl (by decide) hin2 rfl ?_
    obtain ⟨hin3, h⟩ := h
    refine Z_iast (len := 10) (q := 31) (by decide +kernel) rfl (by decide) hin3 rfl ?_
    replace h := h _ rfl
    refine Z_aload_n (a := 0) (q := 32) (by decide +kernel) rfl rfl ?_
    refine g11_30 (idx := 57) (q := 35) (by decide +kernel) fX11_57 rfl (by decide) (t11_30 hT) rfl ?_
    refine Z_iload_n (a := 1) (q := 36) (by decide +kernel) rfl rfl ?_
    refine Z_aload_n (a := 0) (q := 37) (by decide +kernel) rfl rfl ?_
    refine g11_26 (idx := 45) (q := 40) (by decide +kernel) fX11_45 rfl (by decide) (t11_26 hT) rfl ?_
    refine Z_bipush (a := 10) (v := 10) (q := 42) (by decide +kernel) (by decide +kernel) rfl ?_
    refine Z_iload_n (a := 1) (q := 43) (by decide +kernel) rfl rfl ?_
    refine Z_imul (q := 44) (by decide +kernel) rfl ?_
    refine Z_iconst (a := 1) (v := 1) (q := 45) (by decide +kernel) (by decide +kernel) rfl ?_
    refine Z_iadd (q := 46) (by decide +kernel) rfl ?_
    obtain ⟨hin5, h⟩ := h
    refine Z_iald (len := 120) (q := 47) (by decide +kernel) rfl (by decide) hin5 rfl ?_
    refine Z_iast (len := 10) (q := 48) (by decide +kernel) rfl (by decide) hin3 rfl ?_
    replace h := h _ rfl
    refine Z_aload_n (a := 0) (q := 49) (by decide +kernel) rfl rfl ?_
    refine Z_iload_n (a := 1) (q := 50) (by decide +kernel) rfl rfl ?_
    refine Z_iconst (a := 1) (v := 1) (q := 51) (by decide +kernel) (by decide +kernel) rfl ?_
    obtain ⟨Q7, hm, h⟩ := h
    refine Z_callVv (M2 := mX11_joins) (idx := 260) (d2 := d) (ci := 11) (As := [.int _, .int _]) (q := 54) (by decide +kernel) kX11_joins lX11_260 rfl rfl (by decide) rfl rfl (by decide +kernel) (Nat.le_of_ble_eq_true rfl) (Nat.le_refl _) hm rfl (fun iv8 rv9 lv10 hq => ?_)
    obtain ⟨hT11, h⟩ := h iv8 rv9 lv10 hq
    refine Z_iinc (a := 1) (b := 1) (v := _ + 1) (loc2 := [_, _]) (q := 57) (by decide +kernel) rfl (zinc _) (by decide +kernel) rfl rfl rfl ?_
    refine Z_goto (q := 6) (off := -51) (by decide +kernel) (by decide) ?_
    exact h
theorem eX11_difference {d : Nat}  {iv : zI} {rv : zR} {lv : zJ} {Q : Int32 → zI → zR → zJ → Prop} (h : Zi mX11_difference (d + 1) 0 [some (.ref 174), none] [] iv rv lv Q) : Ci mX11_difference (d + 1) [.ref 174] iv rv lv Q := Ci.of (by decide +kernel) (by simp [Value.category]) (Nat.le_of_ble_eq_true rfl) rfl h
set_option maxRecDepth 4000 in
theorem bX11_difference_0 {d : Nat}  {iv : zI} {rv : zR} {lv : zJ} {Q : Int32 → zI → zR → zJ → Prop} (hT : zTop rv) 
    (h : ∀ iv1 : zI, iv1 = zu iv 174 0 (0 : Int32) → (¬ (iv1 174 19) = 0 → ∃ Q2 : Int32 → zI → zR → zJ → Prop, Ci mX11_differs d [.ref 174] iv1 rv lv Q2 ∧ ∀ (v7 : Int32) (iv3 : zI) (rv4 : zR) (lv5 : zJ), Q2 v7 iv3 rv4 lv5 → zTop rv4 ∧ (vp_in ((10 : Int32) * v7) 120 ∧ (∃ Q9 : Int32 → zI → zR → zJ → Prop, Ci mX11_good d [.ref 174, .int (iv3 185 ((10 : Int32) * v7).toNatClampNeg)] iv3 rv4 lv5 Q9 ∧ ∀ (v14 : Int32) (iv10 : zI) (rv11 : zR) (lv12 : zJ), Q9 v14 iv10 rv11 lv12 → zTop rv11 ∧ (Q v14 iv10 rv11 lv12)))) ∧ ((iv1 174 19) = 0 → ∃ Q15 : Int32 → zI → zR → zJ → Prop, Ci mX11_refused d [.ref 174, .int (1 : Int32)] iv1 rv lv Q15 ∧ ∀ (v20 : Int32) (iv16 : zI) (rv17 : zR) (lv18 : zJ), Q15 v20 iv16 rv17 lv18 → zTop rv17 ∧ (Q v20 iv16 rv17 lv18))) :
    Zi mX11_difference (d + 1) 0 [some (.ref 174), none] [] iv rv lv Q := by
  unfold Zi
  refine Z_aload_n (a := 0) (q := 1) (by decide +kernel) rfl rfl ?_
  refine Z_iconst (a := 0) (v := 0) (q := 2) (by decide +kernel) (by decide +kernel) rfl ?_
  refine p11_0 (idx := 87) (q := 5) (by decide +kernel) fX11_87 rfl (by decide) rfl ?_
  replace h := h _ rfl
  refine Z_aload_n (a := 0) (q := 6) (by decide +kernel) rfl rfl ?_
  refine g11_19 (idx := 211) (q := 9) (by decide +kernel) fX11_211 rfl (by decide) rfl ?_
  refine Z_if_ne (t := 18) (off := 9) (q := 12) (by decide +kernel) (by decide) rfl (fun hc => ?_) (fun hc => ?_)
  · replace h := h.1 hc
    refine Z_aload_n (a := 0) (q := 19) (by decide +kernel) rfl rfl ?_
    obtain ⟨Q2, hm, h⟩ := h
    refine Z_callVi (M2 := mX11_differs) (idx := 264) (d2 := d) (ci := 11) (As := []) (q := 22) (by decide +kernel) kX11_differs lX11_264 rfl rfl (by decide) rfl rfl (by decide +kernel) (Nat.le_of_ble_eq_true rfl) (Nat.le_refl _) hm rfl (fun v7 iv3 rv4 lv5 hq => ?_)
    obtain ⟨hT6, h⟩ := h v7 iv3 rv4 lv5 hq
    refine Z_istore_n (a := 1) (loc2 := [_, _]) (q := 23) (by decide +kernel) (by decide +kernel) rfl rfl rfl ?_
    refine Z_aload_n (a := 0) (q := 24) (by decide +kernel) rfl rfl ?_
    refine Z_aload_n (a := 0) (q := 25) (by decide +kernel) rfl rfl ?_
    refine g11_26 (idx := 45) (q := 28) (by decide +kernel) fX11_45 rfl (by decide) (t11_26 hT6) rfl ?_
    refine Z_bipush (a := 10) (v := 10) (q := 30) (by decide +kernel) (by decide +kernel) rfl ?_
    refine Z_iload_n (a := 1) (q := 31) (by decide +kernel) rfl rfl ?_
    refine Z_imul (q := 32) (by decide +kernel) rfl ?_
    obtain ⟨hin8, h⟩ := h
    refine Z_iald (len := 120) (q := 33) (by decide +kernel) rfl (by decide) hin8 rfl ?_
    obtain ⟨Q9, hm, h⟩ := h
    refine Z_callVi (M2 := mX11_good) (idx := 214) (d2 := d) (ci := 11) (As := [.int _]) (q := 36) (by decide +kernel) kX11_good lX11_214 rfl rfl (by decide) rfl rfl (by decide +kernel) (Nat.le_of_ble_eq_true rfl) (Nat.le_refl _) hm rfl (fun v14 iv10 rv11 lv12 hq => ?_)
    obtain ⟨hT13, h⟩ := h v14 iv10 rv11 lv12 hq
    exact Z_iret (ty := .int) (by decide +kernel) rfl rfl rfl ⟨_, rfl, h⟩
  · replace h := h.2 hc
    refine Z_aload_n (a := 0) (q := 13) (by decide +kernel) rfl rfl ?_
    refine Z_iconst (a := 1) (v := 1) (q := 14) (by decide +kernel) (by decide +kernel) rfl ?_
    obtain ⟨Q15, hm, h⟩ := h
    refine Z_callVi (M2 := mX11_refused) (idx := 201) (d2 := d) (ci := 11) (As := [.int _]) (q := 17) (by decide +kernel) kX11_refused lX11_201 rfl rfl (by decide) rfl rfl (by decide +kernel) (Nat.le_of_ble_eq_true rfl) (Nat.le_refl _) hm rfl (fun v20 iv16 rv17 lv18 hq => ?_)
    obtain ⟨hT19, h⟩ := h v20 iv16 rv17 lv18 hq
    exact Z_iret (ty := .int) (by decide +kernel) rfl rfl rfl ⟨_, rfl, h⟩
theorem eX11_sideOf {d : Nat} (x0 : Int32) (x1 : Int32) {iv : zI} {rv : zR} {lv : zJ} {Q : Int32 → zI → zR → zJ → Prop} (h : Zi mX11_sideOf (d + 1) 0 [some (.int x0), some (.int x1)] [] iv rv lv Q) : Ci mX11_sideOf (d + 1) [.int x0, .int x1] iv rv lv Q := Ci.of (by decide +kernel) (by simp [Value.category]) (Nat.le_of_ble_eq_true rfl) rfl h
set_option maxRecDepth 4000 in
theorem bX11_sideOf_0 {d : Nat} (x0 : Int32) (x1 : Int32) {iv : zI} {rv : zR} {lv : zJ} {Q : Int32 → zI → zR → zJ → Prop} (hT : zTop rv) 
    (h : ∃ Q1 : Int32 → zI → zR → zJ → Prop, Ci mX11_has d [.int x0, .int x1] iv rv lv Q1 ∧ ∀ (v6 : Int32) (iv2 : zI) (rv3 : zR) (lv4 : zJ), Q1 v6 iv2 rv3 lv4 → zTop rv3 ∧ (∃ Q7 : Int32 → zI → zR → zJ → Prop, Ci mX11_has d [.int x0, .int (0 : Int32)] iv2 rv3 lv4 Q7 ∧ ∀ (v12 : Int32) (iv8 : zI) (rv9 : zR) (lv10 : zJ), Q7 v12 iv8 rv9 lv10 → zTop rv9 ∧ ((¬ v6 = v12 → Q (1 : Int32) iv8 rv9 lv10) ∧ (v6 = v12 → Q (0 : Int32) iv8 rv9 lv10)))) :
    Zi mX11_sideOf (d + 1) 0 [some (.int x0), some (.int x1)] [] iv rv lv Q := by
  unfold Zi
  refine Z_iload_n (a := 0) (q := 1) (by decide +kernel) rfl rfl ?_
  refine Z_iload_n (a := 1) (q := 2) (by decide +kernel) rfl rfl ?_
  obtain ⟨Q1, hm, h⟩ := h
  refine Z_callSi (M2 := mX11_has) (idx := 93) (d2 := d) (As := [.int _, .int _]) (q := 5) (by decide +kernel) kX11_has lX11_93 rfl rfl (by decide +kernel) (Nat.le_of_ble_eq_true rfl) (Nat.le_refl _) hm rfl (fun v6 iv2 rv3 lv4 hq => ?_)
  obtain ⟨hT5, h⟩ := h v6 iv2 rv3 lv4 hq
  refine Z_iload_n (a := 0) (q := 6) (by decide +kernel) rfl rfl ?_
  refine Z_iconst (a := 0) (v := 0) (q := 7) (by decide +kernel) (by decide +kernel) rfl ?_
  obtain ⟨Q7, hm, h⟩ := h
  refine Z_callSi (M2 := mX11_has) (idx := 93) (d2 := d) (As := [.int _, .int _]) (q := 10) (by decide +kernel) kX11_has lX11_93 rfl rfl (by decide +kernel) (Nat.le_of_ble_eq_true rfl) (Nat.le_refl _) hm rfl (fun v12 iv8 rv9 lv10 hq => ?_)
  obtain ⟨hT11, h⟩ := h v12 iv8 rv9 lv10 hq
  refine Z_icmp_ne (t := 17) (off := 7) (q := 13) (by decide +kernel) (by decide) rfl (fun hc => ?_) (fun hc => ?_)
  · replace h := h.1 hc
    refine Z_iconst (a := 1) (v := 1) (q := 18) (by decide +kernel) (by decide +kernel) rfl ?_
    exact Z_iret (ty := .int) (by decide +kernel) rfl rfl rfl ⟨_, rfl, h⟩
  · replace h := h.2 hc
    refine Z_iconst (a := 0) (v := 0) (q := 14) (by decide +kernel) (by decide +kernel) rfl ?_
    refine Z_goto (q := 18) (off := 4) (by decide +kernel) (by decide) ?_
    exact Z_iret (ty := .int) (by decide +kernel) rfl rfl rfl ⟨_, rfl, h⟩
theorem eX11_differenceOf {d : Nat} (x1 : Int32) {iv : zI} {rv : zR} {lv : zJ} {Q : Int32 → zI → zR → zJ → Prop} (h : Zi mX11_differenceOf (d + 1) 0 [some (.ref 174), some (.int x1), none] [] iv rv lv Q) : Ci mX11_differenceOf (d + 1) [.ref 174, .int x1] iv rv lv Q := Ci.of (by decide +kernel) (by simp [Value.category]) (Nat.le_of_ble_eq_true rfl) rfl h
set_option maxRecDepth 4000 in
theorem bX11_differenceOf_0 {d : Nat} (x1 : Int32) {iv : zI} {rv : zR} {lv : zJ} {Q : Int32 → zI → zR → zJ → Prop} (hT : zTop rv) 
    (h : ∀ iv1 : zI, iv1 = zu iv 174 0 (0 : Int32) → ∃ Q2 : Int32 → zI → zR → zJ → Prop, Ci mX11_isNumber d [.ref 174, .int x1] iv1 rv lv Q2 ∧ ∀ (v7 : Int32) (iv3 : zI) (rv4 : zR) (lv5 : zJ), Q2 v7 iv3 rv4 lv5 → zTop rv4 ∧ ((¬ v7 = 0 → ∃ Q8 : Int32 → zI → zR → zJ → Prop, Ci mX11_differs d [.ref 174] iv3 rv4 lv5 Q8 ∧ ∀ (v13 : Int32) (iv9 : zI) (rv10 : zR) (lv11 : zJ), Q8 v13 iv9 rv10 lv11 → zTop rv10 ∧ (vp_in ((10 : Int32) * v13) 120 ∧ (∃ Q15 : Int32 → zI → zR → zJ → Prop, Ci mX11_sideOf d [.int (iv9 186 ((10 : Int32) * v13).toNatClampNeg), .int x1] iv9 rv10 lv11 Q15 ∧ ∀ (v20 : Int32) (iv16 : zI) (rv17 : zR) (lv18 : zJ), Q15 v20 iv16 rv17 lv18 → zTop rv17 ∧ (∃ Q21 : Int32 → zI → zR → zJ → Prop, Ci mX11_good d [.ref 174, .int v20] iv16 rv17 lv18 Q21 ∧ ∀ (v26 : Int32) (iv22 : zI) (rv23 : zR) (lv24 : zJ), Q21 v26 iv22 rv23 lv24 → zTop rv23 ∧ (Q v26 iv22 rv23 lv24))))) ∧ (v7 = 0 → ∃ Q27 : Int32 → zI → zR → zJ → Prop, Ci mX11_refused d [.ref 174, .int (1 : Int32)] iv3 rv4 lv5 Q27 ∧ ∀ (v32 : Int32) (iv28 : zI) (rv29 : zR) (lv30 : zJ), Q27 v32 iv28 rv29 lv30 → zTop rv29 ∧ (Q v32 iv28 rv29 lv30)))) :
    Zi mX11_differenceOf (d + 1) 0 [some (.ref 174), some (.int x1), none] [] iv rv lv Q := by
  unfold Zi
  refine Z_aload_n (a := 0) (q := 1) (by decide +kernel) rfl rfl ?_
  refine Z_iconst (a := 0) (v := 0) (q := 2) (by decide +kernel) (by decide +kernel) rfl ?_
  refine p11_0 (idx := 87) (q := 5) (by decide +kernel) fX11_87 rfl (by decide) rfl ?_
  replace h := h _ rfl
  refine Z_aload_n (a := 0) (q := 6) (by decide +kernel) rfl rfl ?_
  refine Z_iload_n (a := 1) (q := 7) (by decide +kernel) rfl rfl ?_
  obtain ⟨Q2, hm, h⟩ := h
  refine Z_callVi (M2 := mX11_isNumber) (idx := 229) (d2 := d) (ci := 11) (As := [.int _]) (q := 10) (by decide +kernel) kX11_isNumber lX11_229 rfl rfl (by decide) rfl rfl (by decide +kernel) (Nat.le_of_ble_eq_true rfl) (Nat.le_refl _) hm rfl (fun v7 iv3 rv4 lv5 hq => ?_)
  obtain ⟨hT6, h⟩ := h v7 iv3 rv4 lv5 hq
  refine Z_if_ne (t := 19) (off := 9) (q := 13) (by decide +kernel) (by decide) rfl (fun hc => ?_) (fun hc => ?_)
  · replace h := h.1 hc
    refine Z_aload_n (a := 0) (q := 20) (by decide +kernel) rfl rfl ?_
    obtain ⟨Q8, hm, h⟩ := h
    refine Z_callVi (M2 := mX11_differs) (idx := 264) (d2 := d) (ci := 11) (As := []) (q := 23) (by decide +kernel) kX11_differs lX11_264 rfl rfl (by decide) rfl rfl (by decide +kernel) (Nat.le_of_ble_eq_true rfl) (Nat.le_refl _) hm rfl (fun v13 iv9 rv10 lv11 hq => ?_)
    obtain ⟨hT12, h⟩ := h v13 iv9 rv10 lv11 hq
    refine Z_istore_n (a := 2) (loc2 := [_, _, _]) (q := 24) (by decide +kernel) (by decide +kernel) rfl rfl rfl ?_
    refine Z_aload_n (a := 0) (q := 25) (by decide +kernel) rfl rfl ?_
    refine Z_aload_n (a := 0) (q := 26) (by decide +kernel) rfl rfl ?_
    refine g11_27 (idx := 48) (q := 29) (by decide +kernel) fX11_48 rfl (by decide) (t11_27 hT12) rfl ?_
    refine Z_bipush (a := 10) (v := 10) (q := 31) (by decide +kernel) (by decide +kernel) rfl ?_
    refine Z_iload_n (a := 2) (q := 32) (by decide +kernel) rfl rfl ?_
    refine Z_imul (q := 33) (by decide +kernel) rfl ?_
    obtain ⟨hin14, h⟩ := h
    refine Z_iald (len := 120) (q := 34) (by decide +kernel) rfl (by decide) hin14 rfl ?_
    refine Z_iload_n (a := 1) (q := 35) (by decide +kernel) rfl rfl ?_
    obtain ⟨Q15, hm, h⟩ := h
    refine Z_callSi (M2 := mX11_sideOf) (idx := 267) (d2 := d) (As := [.int _, .int _]) (q := 38) (by decide +kernel) kX11_sideOf lX11_267 rfl rfl (by decide +kernel) (Nat.le_of_ble_eq_true rfl) (Nat.le_refl _) hm rfl (fun v20 iv16 rv17 lv18 hq => ?_)
    obtain ⟨hT19, h⟩ := h v20 iv16 rv17 lv18 hq
    obtain ⟨Q21, hm, h⟩ := h
    refine Z_callVi (M2 := mX11_good) (idx := 214) (d2 := d) (ci := 11) (As := [.int _]) (q := 41) (by decide +kernel) kX11_good lX11_214 rfl rfl (by decide) rfl rfl (by decide +kernel) (Nat.le_of_ble_eq_true rfl) (Nat.le_refl _) hm rfl (fun v26 iv22 rv23 lv24 hq => ?_)
    obtain ⟨hT25, h⟩ := h v26 iv22 rv23 lv24 hq
    exact Z_iret (ty := .int) (by decide +kernel) rfl rfl rfl ⟨_, rfl, h⟩
  · replace h := h.2 hc
    refine Z_aload_n (a := 0) (q := 14) (by decide +kernel) rfl rfl ?_
    refine Z_iconst (a := 1) (v := 1) (q := 15) (by decide +kernel) (by decide +kernel) rfl ?_
    obtain ⟨Q27, hm, h⟩ := h
    refine Z_callVi (M2 := mX11_refused) (idx := 201) (d2 := d) (ci := 11) (As := [.int _]) (q := 18) (by decide +kernel) kX11_refused lX11_201 rfl rfl (by decide) rfl rfl (by decide +kernel) (Nat.le_of_ble_eq_true rfl) (Nat.le_refl _) hm rfl (fun v32 iv28 rv29 lv30 hq => ?_)
    obtain ⟨hT31, h⟩ := h v32 iv28 rv29 lv30 hq
    exact Z_iret (ty := .int) (by decide +kernel) rfl rfl rfl ⟨_, rfl, h⟩
theorem eX11_step {d : Nat} (x1 : Int32) (x2 : Int32) {iv : zI} {rv : zR} {lv : zJ} {Q : Int32 → zI → zR → zJ → Prop} (h : Zi mX11_step (d + 1) 0 [some (.ref 174), some (.int x1), some (.int x2), none] [] iv rv lv Q) : Ci mX11_step (d + 1) [.ref 174, .int x1, .int x2] iv rv lv Q := Ci.of (by decide +kernel) (by simp [Value.category]) (Nat.le_of_ble_eq_true rfl) rfl h
set_option maxRecDepth 4000 in
theorem bX11_step_0 {d : Nat} (x1 : Int32) (x2 : Int32) {iv : zI} {rv : zR} {lv : zJ} {Q : Int32 → zI → zR → zJ → Prop} (hT : zTop rv) 
    (h : ∀ iv1 : zI, iv1 = zu iv 174 0 (0 : Int32) → ((iv1 174 19) = 0 → ∃ Q2 : Int32 → zI → zR → zJ → Prop, Ci mX11_refused d [.ref 174, .int (1 : Int32)] iv1 rv lv Q2 ∧ ∀ (v7 : Int32) (iv3 : zI) (rv4 : zR) (lv5 : zJ), Q2 v7 iv3 rv4 lv5 → zTop rv4 ∧ (Q v7 iv3 rv4 lv5)) ∧ (¬ (iv1 174 19) = 0 → ∃ Q8 : Int32 → zI → zR → zJ → Prop, Ci mX11_in d [.int x1, .int (0 : Int32), .int ((iv1 176 0) - (2 : Int32))] iv1 rv lv Q8 ∧ ∀ (v13 : Int32) (iv9 : zI) (rv10 : zR) (lv11 : zJ), Q8 v13 iv9 rv10 lv11 → zTop rv10 ∧ ((v13 = 0 → ∃ Q14 : Int32 → zI → zR → zJ → Prop, Ci mX11_refused d [.ref 174, .int (1 : Int32)] iv9 rv10 lv11 Q14 ∧ ∀ (v19 : Int32) (iv15 : zI) (rv16 : zR) (lv17 : zJ), Q14 v19 iv15 rv16 lv17 → zTop rv16 ∧ (Q v19 iv15 rv16 lv17)) ∧ (¬ v13 = 0 → ∃ Q20 : Int32 → zI → zR → zJ → Prop, Ci mX11_in d [.int x2, .int (0 : Int32), .int (1 : Int32)] iv9 rv10 lv11 Q20 ∧ ∀ (v25 : Int32) (iv21 : zI) (rv22 : zR) (lv23 : zJ), Q20 v25 iv21 rv22 lv23 → zTop rv22 ∧ ((¬ v25 = 0 → ∃ Q26 : Int32 → zI → zR → zJ → Prop, Ci mX11_differs d [.ref 174] iv21 rv22 lv23 Q26 ∧ ∀ (v31 : Int32) (iv27 : zI) (rv28 : zR) (lv29 : zJ), Q26 v31 iv27 rv28 lv29 → zTop rv28 ∧ ((0 ≤ v31 → (¬ x2 = 0 → vp_in x1 10 ∧ (∃ Q33 : Int32 → zI → zR → zJ → Prop, Ci mX11_good d [.ref 174, .int (iv27 189 x1.toNatClampNeg)] iv27 rv28 lv29 Q33 ∧ ∀ (v38 : Int32) (iv34 : zI) (rv35 : zR) (lv36 : zJ), Q33 v38 iv34 rv35 lv36 → zTop rv35 ∧ (Q v38 iv34 rv35 lv36))) ∧ (x2 = 0 → vp_in x1 10 ∧ (∃ Q40 : Int32 → zI → zR → zJ → Prop, Ci mX11_good d [.ref 174, .int (iv27 188 x1.toNatClampNeg)] iv27 rv28 lv29 Q40 ∧ ∀ (v45 : Int32) (iv41 : zI) (rv42 : zR) (lv43 : zJ), Q40 v45 iv41 rv42 lv43 → zTop rv42 ∧ (Q v45 iv41 rv42 lv43)))) ∧ (¬ 0 ≤ v31 → ∃ Q46 : Int32 → zI → zR → zJ → Prop, Ci mX11_good d [.ref 174, .int (0 : Int32)] iv27 rv28 lv29 Q46 ∧ ∀ (v51 : Int32) (iv47 : zI) (rv48 : zR) (lv49 : zJ), Q46 v51 iv47 rv48 lv49 → zTop rv48 ∧ (Q v51 iv47 rv48 lv49)))) ∧ (v25 = 0 → ∃ Q52 : Int32 → zI → zR → zJ → Prop, Ci mX11_refused d [.ref 174, .int (1 : Int32)] iv21 rv22 lv23 Q52 ∧ ∀ (v57 : Int32) (iv53 : zI) (rv54 : zR) (lv55 : zJ), Q52 v57 iv53 rv54 lv55 → zTop rv54 ∧ (Q v57 iv53 rv54 lv55))))))) :
    Zi mX11_step (d + 1) 0 [some (.ref 174), some (.int x1), some (.int x2), none] [] iv rv lv Q := by
  unfold Zi
  refine Z_aload_n (a := 0) (q := 1) (by decide +kernel) rfl rfl ?_
  refine Z_iconst (a := 0) (v := 0) (q := 2) (by decide +kernel) (by decide +kernel) rfl ?_
  refine p11_0 (idx := 87) (q := 5) (by decide +kernel) fX11_87 rfl (by decide) rfl ?_
  replace h := h _ rfl
  refine Z_aload_n (a := 0) (q := 6) (by decide +kernel) rfl rfl ?_
  refine g11_19 (idx := 211) (q := 9) (by decide +kernel) fX11_211 rfl (by decide) rfl ?_
  refine Z_if_eq (t := 37) (off := 28) (q := 12) (by decide +kernel) (by decide) rfl (fun hc => ?_) (fun hc => ?_)
  · replace h := h.1 hc
    refine Z_aload_n (a := 0) (q := 38) (by decide +kernel) rfl rfl ?_
    refine Z_iconst (a := 1) (v := 1) (q := 39) (by decide +kernel) (by decide +kernel) rfl ?_
    obtain ⟨Q2, hm, h⟩ := h
    refine Z_callVi (M2 := mX11_refused) (idx := 201) (d2 := d) (ci := 11) (As := [.int _]) (q := 42) (by decide +kernel) kX11_refused lX11_201 rfl rfl (by decide) rfl rfl (by decide +kernel) (Nat.le_of_ble_eq_true rfl) (Nat.le_refl _) hm rfl (fun v7 iv3 rv4 lv5 hq => ?_)
    obtain ⟨hT6, h⟩ := h v7 iv3 rv4 lv5 hq
    exact Z_iret (ty := .int) (by decide +kernel) rfl rfl rfl ⟨_, rfl, h⟩
  · replace h := h.2 hc
    refine Z_iload_n (a := 1) (q := 13) (by decide +kernel) rfl rfl ?_
    refine Z_iconst (a := 0) (v := 0) (q := 14) (by decide +kernel) (by decide +kernel) rfl ?_
    refine Z_aload_n (a := 0) (q := 15) (by decide +kernel) rfl rfl ?_
    refine g11_14 (idx := 17) (q := 18) (by decide +kernel) fX11_17 rfl (by decide) (t11_14 hT) rfl ?_
    refine Z_iconst (a := 0) (v := 0) (q := 19) (by decide +kernel) (by decide +kernel) rfl ?_
    refine Z_iald (len := 35) (q := 20) (by decide +kernel) rfl (by decide) (by unfold vp_in; decide) rfl ?_
    refine Z_iconst (a := 2) (v := 2) (q := 21) (by decide +kernel) (by decide +kernel) rfl ?_
    refine Z_isub (q := 22) (by decide +kernel) rfl ?_
    obtain ⟨Q8, hm, h⟩ := h
    refine Z_callSi (M2 := mX11_in) (idx := 112) (d2 := d) (As := [.int _, .int _, .int _]) (q := 25) (by decide +kernel) kX11_in lX11_112 rfl rfl (by decide +kernel) (Nat.le_of_ble_eq_true rfl) (Nat.le_refl _) hm rfl (fun v13 iv9 rv10 lv11 hq => ?_)
    obtain ⟨hT12, h⟩ := h v13 iv9 rv10 lv11 hq
    refine Z_if_eq (t := 37) (off := 12) (q := 28) (by decide +kernel) (by decide) rfl (fun hc => ?_) (fun hc => ?_)
    · replace h := h.1 hc
      refine Z_aload_n (a := 0) (q := 38) (by decide +kernel) rfl rfl ?_
      refine Z_iconst (a := 1) (v := 1) (q := 39) (by decide +kernel) (by decide +kernel) rfl ?_
      obtain ⟨Q14, hm, h⟩ := h
      refine Z_callVi (M2 := mX11_refused) (idx := 201) (d2 := d) (ci := 11) (As := [.int _]) (q := 42) (by decide +kernel) kX11_refused lX11_201 rfl rfl (by decide) rfl rfl (by decide +kernel) (Nat.le_of_ble_eq_true rfl) (Nat.le_refl _) hm rfl (fun v19 iv15 rv16 lv17 hq => ?_)
      obtain ⟨hT18, h⟩ := h v19 iv15 rv16 lv17 hq
      exact Z_iret (ty := .int) (by decide +kernel) rfl rfl rfl ⟨_, rfl, h⟩
    · replace h := h.2 hc
      refine Z_iload_n (a := 2) (q := 29) (by decide +kernel) rfl rfl ?_
      refine Z_iconst (a := 0) (v := 0) (q := 30) (by decide +kernel) (by decide +kernel) rfl ?_
      refine Z_iconst (a := 1) (v := 1) (q := 31) (by decide +kernel) (by decide +kernel) rfl ?_
      obtain ⟨Q20, hm, h⟩ := h
      refine Z_callSi (M2 := mX11_in) (idx := 112) (d2 := d) (As := [.int _, .int _, .int _]) (q := 34) (by decide +kernel) kX11_in lX11_112 rfl rfl (by decide +kernel) (Nat.le_of_ble_eq_true rfl) (Nat.le_refl _) hm rfl (fun v25 iv21 rv22 lv23 hq => ?_)
      obtain ⟨hT24, h⟩ := h v25 iv21 rv22 lv23 hq
      refine Z_if_ne (t := 43) (off := 9) (q := 37) (by decide +kernel) (by decide) rfl (fun hc => ?_) (fun hc => ?_)
      · replace h := h.1 hc
        refine Z_aload_n (a := 0) (q := 44) (by decide +kernel) rfl rfl ?_
        obtain ⟨Q26, hm, h⟩ := h
        refine Z_callVi (M2 := mX11_differs) (idx := 264) (d2 := d) (ci := 11) (As := []) (q := 47) (by decide +kernel) kX11_differs lX11_264 rfl rfl (by decide) rfl rfl (by decide +kernel) (Nat.le_of_ble_eq_true rfl) (Nat.le_refl _) hm rfl (fun v31 iv27 rv28 lv29 hq => ?_)
        obtain ⟨hT30, h⟩ := h v31 iv27 rv28 lv29 hq
        refine Z_istore_n (a := 3) (loc2 := [_, _, _, _]) (q := 48) (by decide +kernel) (by decide +kernel) rfl rfl rfl ?_
        refine Z_aload_n (a := 0) (q := 49) (by decide +kernel) rfl rfl ?_
        refine Z_iload_n (a := 3) (q := 50) (by decide +kernel) rfl rfl ?_
        refine Z_if_ge (t := 57) (off := 7) (q := 53) (by decide +kernel) (by decide) rfl (fun hc => ?_) (fun hc => ?_)
        · replace h := h.1 hc
          refine Z_iload_n (a := 2) (q := 58) (by decide +kernel) rfl rfl ?_
          refine Z_if_ne (t := 70) (off := 12) (q := 61) (by decide +kernel) (by decide) rfl (fun hc => ?_) (fun hc => ?_)
          · replace h := h.1 hc
            refine Z_aload_n (a := 0) (q := 71) (by decide +kernel) rfl rfl ?_
            refine g11_30 (idx := 57) (q := 74) (by decide +kernel) fX11_57 rfl (by decide) (t11_30 hT30) rfl ?_
            refine Z_iload_n (a := 1) (q := 75) (by decide +kernel) rfl rfl ?_
            obtain ⟨hin32, h⟩ := h
            refine Z_iald (len := 10) (q := 76) (by decide +kernel) rfl (by decide) hin32 rfl ?_
            obtain ⟨Q33, hm, h⟩ := h
            refine Z_callVi (M2 := mX11_good) (idx := 214) (d2 := d) (ci := 11) (As := [.int _]) (q := 79) (by decide +kernel) kX11_good lX11_214 rfl rfl (by decide) rfl rfl (by decide +kernel) (Nat.le_of_ble_eq_true rfl) (Nat.le_refl _) hm rfl (fun v38 iv34 rv35 lv36 hq => ?_)
            obtain ⟨hT37, h⟩ := h v38 iv34 rv35 lv36 hq
            exact Z_iret (ty := .int) (by decide +kernel) rfl rfl rfl ⟨_, rfl, h⟩
          · replace h := h.2 hc
            refine Z_aload_n (a := 0) (q := 62) (by decide +kernel) rfl rfl ?_
            refine g11_29 (idx := 54) (q := 65) (by decide +kernel) fX11_54 rfl (by decide) (t11_29 hT30) rfl ?_
            refine Z_iload_n (a := 1) (q := 66) (by decide +kernel) rfl rfl ?_
            obtain ⟨hin39, h⟩ := h
            refine Z_iald (len := 10) (q := 67) (by decide +kernel) rfl (by decide) hin39 rfl ?_
            refine Z_goto (q := 76) (off := 9) (by decide +kernel) (by decide) ?_
            obtain ⟨Q40, hm, h⟩ := h
            refine Z_callVi (M2 := mX11_good) (idx := 214) (d2 := d) (ci := 11) (As := [.int _]) (q := 79) (by decide +kernel) kX11_good lX11_214 rfl rfl (by decide) rfl rfl (by decide +kernel) (Nat.le_of_ble_eq_true rfl) (Nat.le_refl _) hm rfl (fun v45 iv41 rv42 lv43 hq => ?_)
            obtain ⟨hT44, h⟩ := h v45 iv41 rv42 lv43 hq
            exact Z_iret (ty := .int) (by decide +kernel) rfl rfl rfl ⟨_, rfl, h⟩
        · replace h := h.2 hc
          refine Z_iconst (a := 0) (v := 0) (q := 54) (by decide +kernel) (by decide +kernel) rfl ?_
          refine Z_goto (q := 76) (off := 22) (by decide +kernel) (by decide) ?_
          obtain ⟨Q46, hm, h⟩ := h
          refine Z_callVi (M2 := mX11_good) (idx := 214) (d2 := d) (ci := 11) (As := [.int _]) (q := 79) (by decide +kernel) kX11_good lX11_214 rfl rfl (by decide) rfl rfl (by decide +kernel) (Nat.le_of_ble_eq_true rfl) (Nat.le_refl _) hm rfl (fun v51 iv47 rv48 lv49 hq => ?_)
          obtain ⟨hT50, h⟩ := h v51 iv47 rv48 lv49 hq
          exact Z_iret (ty := .int) (by decide +kernel) rfl rfl rfl ⟨_, rfl, h⟩
      · replace h := h.2 hc
        refine Z_aload_n (a := 0) (q := 38) (by decide +kernel) rfl rfl ?_
        refine Z_iconst (a := 1) (v := 1) (q := 39) (by decide +kernel) (by decide +kernel) rfl ?_
        obtain ⟨Q52, hm, h⟩ := h
        refine Z_callVi (M2 := mX11_refused) (idx := 201) (d2 := d) (ci := 11) (As := [.int _]) (q := 42) (by decide +kernel) kX11_refused lX11_201 rfl rfl (by decide) rfl rfl (by decide +kernel) (Nat.le_of_ble_eq_true rfl) (Nat.le_refl _) hm rfl (fun v57 iv53 rv54 lv55 hq => ?_)
        obtain ⟨hT56, h⟩ := h v57 iv53 rv54 lv55 hq
        exact Z_iret (ty := .int) (by decide +kernel) rfl rfl rfl ⟨_, rfl, h⟩
theorem eX11_visits {d : Nat} (x1 : Int32) {iv : zI} {rv : zR} {lv : zJ} {Q : zI → zR → zJ → Prop} (h : Zv mX11_visits (d + 1) 0 [some (.ref 174), some (.int x1), none, none, none] [] iv rv lv Q) : Cv mX11_visits (d + 1) [.ref 174, .int x1] iv rv lv Q := Cv.of (by decide +kernel) (by simp [Value.category]) (Nat.le_of_ble_eq_true rfl) rfl h
set_option maxRecDepth 4000 in
theorem bX11_visits_0 {d : Nat} (x1 : Int32) {iv : zI} {rv : zR} {lv : zJ} {Q : zI → zR → zJ → Prop} (hT : zTop rv) 
    (h : ((iv 174 38) = 0 → ∀ iv1 : zI, iv1 = zu iv 174 34 ((iv 174 34) + (1 : Int32)) → Zv mX11_visits (d + 1) 28 [some (.ref 174), some (.int x1), some (.int ((10 : Int32) * x1)), some (.int (0 : Int32)), some (.int (1 : Int32))] [] iv1 rv lv Q) ∧ (¬ (iv 174 38) = 0 → Q iv rv lv)) :
    Zv mX11_visits (d + 1) 0 [some (.ref 174), some (.int x1), none, none, none] [] iv rv lv Q := by
  unfold Zv
  refine Z_aload_n (a := 0) (q := 1) (by decide +kernel) rfl rfl ?_
  refine g11_38 (idx := 270) (q := 4) (by decide +kernel) fX11_270 rfl (by decide) rfl ?_
  refine Z_if_eq (t := 8) (off := 4) (q := 7) (by decide +kernel) (by decide) rfl (fun hc => ?_) (fun hc => ?_)
  · replace h := h.1 hc
    refine Z_aload_n (a := 0) (q := 9) (by decide +kernel) rfl rfl ?_
    refine Z_dup (q := 10) (by decide +kernel) rfl rfl ?_
    refine g11_34 (idx := 273) (q := 13) (by decide +kernel) fX11_273 rfl (by decide) rfl ?_
    refine Z_iconst (a := 1) (v := 1) (q := 14) (by decide +kernel) (by decide +kernel) rfl ?_
    refine Z_iadd (q := 15) (by decide +kernel) rfl ?_
    refine p11_34 (idx := 273) (q := 18) (by decide +kernel) fX11_273 rfl (by decide) rfl ?_
    replace h := h _ rfl
    refine Z_bipush (a := 10) (v := 10) (q := 20) (by decide +kernel) (by decide +kernel) rfl ?_
    refine Z_iload_n (a := 1) (q := 21) (by decide +kernel) rfl rfl ?_
    refine Z_imul (q := 22) (by decide +kernel) rfl ?_
    refine Z_istore_n (a := 2) (loc2 := [_, _, _, _, _]) (q := 23) (by decide +kernel) (by decide +kernel) rfl rfl rfl ?_
    refine Z_iconst (a := 0) (v := 0) (q := 24) (by decide +kernel) (by decide +kernel) rfl ?_
    refine Z_istore_n (a := 3) (loc2 := [_, _, _, _, _]) (q := 25) (by decide +kernel) (by decide +kernel) rfl rfl rfl ?_
    refine Z_iconst (a := 1) (v := 1) (q := 26) (by decide +kernel) (by decide +kernel) rfl ?_
    refine Z_istore (a := 4) (loc2 := [_, _, _, _, _]) (q := 28) (by decide +kernel) (by decide +kernel) rfl rfl rfl ?_
    exact h
  · replace h := h.2 hc
    exact Z_vret (by decide +kernel) rfl rfl ⟨rfl, h⟩
set_option maxRecDepth 4000 in
theorem bX11_visits_28 {d : Nat} (x1 : Int32) (x2 : Int32) (x3 : Int32) (x4 : Int32) {iv : zI} {rv : zR} {lv : zJ} {Q : zI → zR → zJ → Prop} (hT : zTop rv) 
    (h : vp_in x1 12 ∧ (((iv 184 x1.toNatClampNeg) ≤ x4 → ((iv 184 x1.toNatClampNeg) = (1 : Int32) → vp_in x2 120 ∧ (∃ Q3 : zI → zR → zJ → Prop, Cv mX11_leaf d [.ref 174, .int x1, .int ((iv 185 x2.toNatClampNeg) - x3)] iv rv lv Q3 ∧ ∀ (iv4 : zI) (rv5 : zR) (lv6 : zJ), Q3 iv4 rv5 lv6 → zTop rv5 ∧ (Q iv4 rv5 lv6))) ∧ (¬ (iv 184 x1.toNatClampNeg) = (1 : Int32) → vp_in x2 120 ∧ (((iv 185 x2.toNatClampNeg) < x3 → ∃ Q10 : zI → zR → zJ → Prop, Cv mX11_joins d [.ref 174, .int x1, .int (1 : Int32)] iv rv lv Q10 ∧ ∀ (iv11 : zI) (rv12 : zR) (lv13 : zJ), Q10 iv11 rv12 lv13 → zTop rv12 ∧ (∃ Q16 : zI → zR → zJ → Prop, Cv mX11_visits d [.ref 174, .int (x1 + (1 : Int32))] iv11 rv12 lv13 Q16 ∧ ∀ (iv17 : zI) (rv18 : zR) (lv19 : zJ), Q16 iv17 rv18 lv19 → zTop rv18 ∧ (∃ Q22 : zI → zR → zJ → Prop, Cv mX11_joins d [.ref 174, .int x1, .int (0 : Int32)] iv17 rv18 lv19 Q22 ∧ ∀ (iv23 : zI) (rv24 : zR) (lv25 : zJ), Q22 iv23 rv24 lv25 → zTop rv24 ∧ (∃ Q28 : zI → zR → zJ → Prop, Cv mX11_visits d [.ref 174, .int (x1 + (1 : Int32))] iv23 rv24 lv25 Q28 ∧ ∀ (iv29 : zI) (rv30 : zR) (lv31 : zJ), Q28 iv29 rv30 lv31 → zTop rv30 ∧ (Q iv29 rv30 lv31))))) ∧ (¬ (iv 185 x2.toNatClampNeg) < x3 → ∃ Q34 : zI → zR → zJ → Prop, Cv mX11_leaf d [.ref 174, .int x1, .int ((iv 185 x2.toNatClampNeg) - x3)] iv rv lv Q34 ∧ ∀ (iv35 : zI) (rv36 : zR) (lv37 : zJ), Q34 iv35 rv36 lv37 → zTop rv36 ∧ (Q iv35 rv36 lv37))))) ∧ (¬ (iv 184 x1.toNatClampNeg) ≤ x4 → vp_in (x2 + x4) 120 ∧ (Zv mX11_visits (d + 1) 28 [some (.ref 174), some (.int x1), some (.int x2), some (.int (x3 + (iv 185 (x2 + x4).toNatClampNeg))), some (.int (x4 + 1))] [] iv rv lv Q)))) :
    Zv mX11_visits (d + 1) 28 [some (.ref 174), some (.int x1), some (.int x2), some (.int x3), some (.int x4)] [] iv rv lv Q := by
  unfold Zv
  refine Z_iload (a := 4) (q := 30) (by decide +kernel) rfl rfl ?_
  refine Z_aload_n (a := 0) (q := 31) (by decide +kernel) rfl rfl ?_
  refine g11_25 (idx := 42) (q := 34) (by decide +kernel) fX11_42 rfl (by decide) (t11_25 hT) rfl ?_
  refine Z_iload_n (a := 1) (q := 35) (by decide +kernel) rfl rfl ?_
  obtain ⟨hin1, h⟩ := h
  refine Z_iald (len := 12) (q := 36) (by decide +kernel) rfl (by decide) hin1 rfl ?_
  refine Z_icmp_ge (t := 57) (off := 21) (q := 39) (by decide +kernel) (by decide) rfl (fun hc => ?_) (fun hc => ?_)
  · replace h := h.1 hc
    refine Z_aload_n (a := 0) (q := 58) (by decide +kernel) rfl rfl ?_
    refine g11_25 (idx := 42) (q := 61) (by decide +kernel) fX11_42 rfl (by decide) (t11_25 hT) rfl ?_
    refine Z_iload_n (a := 1) (q := 62) (by decide +kernel) rfl rfl ?_
    refine Z_iald (len := 12) (q := 63) (by decide +kernel) rfl (by decide) hin1 rfl ?_
    refine Z_iconst (a := 1) (v := 1) (q := 64) (by decide +kernel) (by decide +kernel) rfl ?_
    refine Z_icmp_eq (t := 77) (off := 13) (q := 67) (by decide +kernel) (by decide) rfl (fun hc => ?_) (fun hc => ?_)
    · replace h := h.1 hc
      refine Z_aload_n (a := 0) (q := 78) (by decide +kernel) rfl rfl ?_
      refine Z_iload_n (a := 1) (q := 79) (by decide +kernel) rfl rfl ?_
      refine Z_aload_n (a := 0) (q := 80) (by decide +kernel) rfl rfl ?_
      refine g11_26 (idx := 45) (q := 83) (by decide +kernel) fX11_45 rfl (by decide) (t11_26 hT) rfl ?_
      refine Z_iload_n (a := 2) (q := 84) (by decide +kernel) rfl rfl ?_
      obtain ⟨hin2, h⟩ := h
      refine Z_iald (len := 120) (q := 85) (by decide +kernel) rfl (by decide) hin2 rfl ?_
      refine Z_iload_n (a := 3) (q := 86) (by decide +kernel) rfl rfl ?_
      refine Z_isub (q := 87) (by decide +kernel) rfl ?_
      obtain ⟨Q3, hm, h⟩ := h
      refine Z_callVv (M2 := mX11_leaf) (idx := 276) (d2 := d) (ci := 11) (As := [.int _, .int _]) (q := 90) (by decide +kernel) kX11_leaf lX11_276 rfl rfl (by decide) rfl rfl (by decide +kernel) (Nat.le_of_ble_eq_true rfl) (Nat.le_refl _) hm rfl (fun iv4 rv5 lv6 hq => ?_)
      obtain ⟨hT7, h⟩ := h iv4 rv5 lv6 hq
      exact Z_vret (by decide +kernel) rfl rfl ⟨rfl, h⟩
    · replace h := h.2 hc
      refine Z_aload_n (a := 0) (q := 68) (by decide +kernel) rfl rfl ?_
      refine g11_26 (idx := 45) (q := 71) (by decide +kernel) fX11_45 rfl (by decide) (t11_26 hT) rfl ?_
      refine Z_iload_n (a := 2) (q := 72) (by decide +kernel) rfl rfl ?_
      obtain ⟨hin9, h⟩ := h
      refine Z_iald (len := 120) (q := 73) (by decide +kernel) rfl (by decide) hin9 rfl ?_
      refine Z_iload_n (a := 3) (q := 74) (by decide +kernel) rfl rfl ?_
      refine Z_icmp_lt (t := 91) (off := 17) (q := 77) (by decide +kernel) (by decide) rfl (fun hc => ?_) (fun hc => ?_)
      · replace h := h.1 hc
        refine Z_aload_n (a := 0) (q := 92) (by decide +kernel) rfl rfl ?_
        refine Z_iload_n (a := 1) (q := 93) (by decide +kernel) rfl rfl ?_
        refine Z_iconst (a := 1) (v := 1) (q := 94) (by decide +kernel) (by decide +kernel) rfl ?_
        obtain ⟨Q10, hm, h⟩ := h
        refine Z_callVv (M2 := mX11_joins) (idx := 260) (d2 := d) (ci := 11) (As := [.int _, .int _]) (q := 97) (by decide +kernel) kX11_joins lX11_260 rfl rfl (by decide) rfl rfl (by decide +kernel) (Nat.le_of_ble_eq_true rfl) (Nat.le_refl _) hm rfl (fun iv11 rv12 lv13 hq => ?_)
        obtain ⟨hT14, h⟩ := h iv11 rv12 lv13 hq
        refine Z_aload_n (a := 0) (q := 98) (by decide +kernel) rfl rfl ?_
        refine Z_iload_n (a := 1) (q := 99) (by decide +kernel) rfl rfl ?_
        refine Z_iconst (a := 1) (v := 1) (q := 100) (by decide +kernel) (by decide +kernel) rfl ?_
        refine Z_iadd (q := 101) (by decide +kernel) rfl ?_
        obtain ⟨Q16, hm, h⟩ := h
        refine Z_callVv (M2 := mX11_visits) (idx := 280) (d2 := d) (ci := 11) (As := [.int _]) (q := 104) (by decide +kernel) kX11_visits lX11_280 rfl rfl (by decide) rfl rfl (by decide +kernel) (Nat.le_of_ble_eq_true rfl) (Nat.le_refl _) hm rfl (fun iv17 rv18 lv19 hq => ?_)
        obtain ⟨hT20, h⟩ := h iv17 rv18 lv19 hq
        refine Z_aload_n (a := 0) (q := 105) (by decide +kernel) rfl rfl ?_
        refine Z_iload_n (a := 1) (q := 106) (by decide +kernel) rfl rfl ?_
        refine Z_iconst (a := 0) (v := 0) (q := 107) (by decide +kernel) (by decide +kernel) rfl ?_
        obtain ⟨Q22, hm, h⟩ := h
        refine Z_callVv (M2 := mX11_joins) (idx := 260) (d2 := d) (ci := 11) (As := [.int _, .int _]) (q := 110) (by decide +kernel) kX11_joins lX11_260 rfl rfl (by decide) rfl rfl (by decide +kernel) (Nat.le_of_ble_eq_true rfl) (Nat.le_refl _) hm rfl (fun iv23 rv24 lv25 hq => ?_)
        obtain ⟨hT26, h⟩ := h iv23 rv24 lv25 hq
        refine Z_aload_n (a := 0) (q := 111) (by decide +kernel) rfl rfl ?_
        refine Z_iload_n (a := 1) (q := 112) (by decide +kernel) rfl rfl ?_
        refine Z_iconst (a := 1) (v := 1) (q := 113) (by decide +kernel) (by decide +kernel) rfl ?_
        refine Z_iadd (q := 114) (by decide +kernel) rfl ?_
        obtain ⟨Q28, hm, h⟩ := h
        refine Z_callVv (M2 := mX11_visits) (idx := 280) (d2 := d) (ci := 11) (As := [.int _]) (q := 117) (by decide +kernel) kX11_visits lX11_280 rfl rfl (by decide) rfl rfl (by decide +kernel) (Nat.le_of_ble_eq_true rfl) (Nat.le_refl _) hm rfl (fun iv29 rv30 lv31 hq => ?_)
        obtain ⟨hT32, h⟩ := h iv29 rv30 lv31 hq
        exact Z_vret (by decide +kernel) rfl rfl ⟨rfl, h⟩
      · replace h := h.2 hc
        refine Z_aload_n (a := 0) (q := 78) (by decide +kernel) rfl rfl ?_
        refine Z_iload_n (a := 1) (q := 79) (by decide +kernel) rfl rfl ?_
        refine Z_aload_n (a := 0) (q := 80) (by decide +kernel) rfl rfl ?_
        refine g11_26 (idx := 45) (q := 83) (by decide +kernel) fX11_45 rfl (by decide) (t11_26 hT) rfl ?_
        refine Z_iload_n (a := 2) (q := 84) (by decide +kernel) rfl rfl ?_
        refine Z_iald (len := 120) (q := 85) (by decide +kernel) rfl (by decide) hin9 rfl ?_
        refine Z_iload_n (a := 3) (q := 86) (by decide +kernel) rfl rfl ?_
        refine Z_isub (q := 87) (by decide +kernel) rfl ?_
        obtain ⟨Q34, hm, h⟩ := h
        refine Z_callVv (M2 := mX11_leaf) (idx := 276) (d2 := d) (ci := 11) (As := [.int _, .int _]) (q := 90) (by decide +kernel) kX11_leaf lX11_276 rfl rfl (by decide) rfl rfl (by decide +kernel) (Nat.le_of_ble_eq_true rfl) (Nat.le_refl _) hm rfl (fun iv35 rv36 lv37 hq => ?_)
        obtain ⟨hT38, h⟩ := h iv35 rv36 lv37 hq
        exact Z_vret (by decide +kernel) rfl rfl ⟨rfl, h⟩
  · replace h := h.2 hc
    refine Z_iload_n (a := 3) (q := 40) (by decide +kernel) rfl rfl ?_
    refine Z_aload_n (a := 0) (q := 41) (by decide +kernel) rfl rfl ?_
    refine g11_26 (idx := 45) (q := 44) (by decide +kernel) fX11_45 rfl (by decide) (t11_26 hT) rfl ?_
    refine Z_iload_n (a := 2) (q := 45) (by decide +kernel) rfl rfl ?_
    refine Z_iload (a := 4) (q := 47) (by decide +kernel) rfl rfl ?_
    refine Z_iadd (q := 48) (by decide +kernel) rfl ?_
    obtain ⟨hin40, h⟩ := h
    refine Z_iald (len := 120) (q := 49) (by decide +kernel) rfl (by decide) hin40 rfl ?_
    refine Z_iadd (q := 50) (by decide +kernel) rfl ?_
    refine Z_istore_n (a := 3) (loc2 := [_, _, _, _, _]) (q := 51) (by decide +kernel) (by decide +kernel) rfl rfl rfl ?_
    refine Z_iinc (a := 4) (b := 1) (v := _ + 1) (loc2 := [_, _, _, _, _]) (q := 54) (by decide +kernel) rfl (zinc _) (by decide +kernel) rfl rfl rfl ?_
    refine Z_goto (q := 28) (off := -26) (by decide +kernel) (by decide) ?_
    exact h
theorem eX11_leaf {d : Nat} (x1 : Int32) (x2 : Int32) {iv : zI} {rv : zR} {lv : zJ} {Q : zI → zR → zJ → Prop} (h : Zv mX11_leaf (d + 1) 0 [some (.ref 174), some (.int x1), some (.int x2), none, none] [] iv rv lv Q) : Cv mX11_leaf (d + 1) [.ref 174, .int x1, .int x2] iv rv lv Q := Cv.of (by decide +kernel) (by simp [Value.category]) (Nat.le_of_ble_eq_true rfl) rfl h
set_option maxRecDepth 4000 in
theorem bX11_leaf_0 {d : Nat} (x1 : Int32) (x2 : Int32) {iv : zI} {rv : zR} {lv : zJ} {Q : zI → zR → zJ → Prop} (hT : zTop rv) 
    (h : ∀ iv1 : zI, iv1 = zu iv 174 35 ((iv 174 35) + (1 : Int32)) → ((iv1 174 36) = 0 → Zv mX11_leaf (d + 1) 30 [some (.ref 174), some (.int x1), some (.int x2), some (.int ((10 : Int32) * x1)), none] [] iv1 rv lv Q) ∧ (¬ (iv1 174 36) = 0 → ((iv1 174 33) ≤ x2 → ∃ Q2 : Int32 → zI → zR → zJ → Prop, Ci mX11_total d [.ref 174] iv1 rv lv Q2 ∧ ∀ (v7 : Int32) (iv3 : zI) (rv4 : zR) (lv5 : zJ), Q2 v7 iv3 rv4 lv5 → zTop rv4 ∧ ((¬ x2 = (v7 - v7 / (2 : Int32) * (2 : Int32)) → ∀ iv8 : zI, iv8 = zu iv3 174 38 (0 : Int32) → Q iv8 rv4 lv5) ∧ (x2 = (v7 - v7 / (2 : Int32) * (2 : Int32)) → ∀ iv9 : zI, iv9 = zu iv3 174 38 (1 : Int32) → Q iv9 rv4 lv5))) ∧ (¬ (iv1 174 33) ≤ x2 → Zv mX11_leaf (d + 1) 30 [some (.ref 174), some (.int x1), some (.int x2), some (.int ((10 : Int32) * x1)), none] [] iv1 rv lv Q))) :
    Zv mX11_leaf (d + 1) 0 [some (.ref 174), some (.int x1), some (.int x2), none, none] [] iv rv lv Q := by
  unfold Zv
  refine Z_bipush (a := 10) (v := 10) (q := 2) (by decide +kernel) (by decide +kernel) rfl ?_
  refine Z_iload_n (a := 1) (q := 3) (by decide +kernel) rfl rfl ?_
  refine Z_imul (q := 4) (by decide +kernel) rfl ?_
  refine Z_istore_n (a := 3) (loc2 := [_, _, _, _, _]) (q := 5) (by decide +kernel) (by decide +kernel) rfl rfl rfl ?_
  refine Z_aload_n (a := 0) (q := 6) (by decide +kernel) rfl rfl ?_
  refine Z_dup (q := 7) (by decide +kernel) rfl rfl ?_
  refine g11_35 (idx := 283) (q := 10) (by decide +kernel) fX11_283 rfl (by decide) rfl ?_
  refine Z_iconst (a := 1) (v := 1) (q := 11) (by decide +kernel) (by decide +kernel) rfl ?_
  refine Z_iadd (q := 12) (by decide +kernel) rfl ?_
  refine p11_35 (idx := 283) (q := 15) (by decide +kernel) fX11_283 rfl (by decide) rfl ?_
  replace h := h _ rfl
  refine Z_aload_n (a := 0) (q := 16) (by decide +kernel) rfl rfl ?_
  refine g11_36 (idx := 286) (q := 19) (by decide +kernel) fX11_286 rfl (by decide) rfl ?_
  refine Z_if_eq (t := 30) (off := 11) (q := 22) (by decide +kernel) (by decide) rfl (fun hc => ?_) (fun hc => ?_)
  · replace h := h.1 hc
    exact h
  · replace h := h.2 hc
    refine Z_iload_n (a := 2) (q := 23) (by decide +kernel) rfl rfl ?_
    refine Z_aload_n (a := 0) (q := 24) (by decide +kernel) rfl rfl ?_
    refine g11_33 (idx := 289) (q := 27) (by decide +kernel) fX11_289 rfl (by decide) rfl ?_
    refine Z_icmp_ge (t := 116) (off := 89) (q := 30) (by decide +kernel) (by decide) rfl (fun hc => ?_) (fun hc => ?_)
    · replace h := h.1 hc
      refine Z_aload_n (a := 0) (q := 117) (by decide +kernel) rfl rfl ?_
      refine Z_iload_n (a := 2) (q := 118) (by decide +kernel) rfl rfl ?_
      refine Z_aload_n (a := 0) (q := 119) (by decide +kernel) rfl rfl ?_
      obtain ⟨Q2, hm, h⟩ := h
      refine Z_callVi (M2 := mX11_total) (idx := 223) (d2 := d) (ci := 11) (As := []) (q := 122) (by decide +kernel) kX11_total lX11_223 rfl rfl (by decide) rfl rfl (by decide +kernel) (Nat.le_of_ble_eq_true rfl) (Nat.le_refl _) hm rfl (fun v7 iv3 rv4 lv5 hq => ?_)
      obtain ⟨hT6, h⟩ := h v7 iv3 rv4 lv5 hq
      refine Z_iconst (a := 2) (v := 2) (q := 123) (by decide +kernel) (by decide +kernel) rfl ?_
      refine Z_irem (q := 124) (by decide +kernel) (by decide) rfl ?_
      refine Z_icmp_ne (t := 131) (off := 7) (q := 127) (by decide +kernel) (by decide) rfl (fun hc => ?_) (fun hc => ?_)
      · replace h := h.1 hc
        refine Z_iconst (a := 0) (v := 0) (q := 132) (by decide +kernel) (by decide +kernel) rfl ?_
        refine p11_38 (idx := 270) (q := 135) (by decide +kernel) fX11_270 rfl (by decide) (by decide) rfl ?_
        replace h := h _ rfl
        exact Z_vret (by decide +kernel) rfl rfl ⟨rfl, h⟩
      · replace h := h.2 hc
        refine Z_iconst (a := 1) (v := 1) (q := 128) (by decide +kernel) (by decide +kernel) rfl ?_
        refine Z_goto (q := 132) (off := 4) (by decide +kernel) (by decide) ?_
        refine p11_38 (idx := 270) (q := 135) (by decide +kernel) fX11_270 rfl (by decide) (by decide) rfl ?_
        replace h := h _ rfl
        exact Z_vret (by decide +kernel) rfl rfl ⟨rfl, h⟩
    · replace h := h.2 hc
      exact h
set_option maxRecDepth 4000 in
theorem bX11_leaf_30 {d : Nat} (x1 : Int32) (x2 : Int32) (x3 : Int32) {iv : zI} {rv : zR} {lv : zJ} {Q : zI → zR → zJ → Prop} (hT : zTop rv) 
    (h : ∀ iv1 : zI, iv1 = zu iv 174 33 x2 → vp_in (iv1 174 36) 600 ∧ (∀ iv3 : zI, iv3 = zu iv1 190 (iv1 174 36).toNatClampNeg x2 → vp_in (iv3 174 36) 600 ∧ (∀ iv5 : zI, iv5 = zu iv3 191 (iv3 174 36).toNatClampNeg (iv3 174 34) → ∀ iv6 : zI, iv6 = zu iv5 174 36 ((iv5 174 36) + (1 : Int32)) → vp_in x3 120 ∧ (∀ iv8 : zI, iv8 = zu iv6 174 37 (iv6 186 x3.toNatClampNeg) → Zv mX11_leaf (d + 1) 81 [some (.ref 174), some (.int x1), some (.int x2), some (.int x3), some (.int (1 : Int32))] [] iv8 rv lv Q)))) :
    Zv mX11_leaf (d + 1) 30 [some (.ref 174), some (.int x1), some (.int x2), some (.int x3), none] [] iv rv lv Q := by
  unfold Zv
  refine Z_aload_n (a := 0) (q := 31) (by decide +kernel) rfl rfl ?_
  refine Z_iload_n (a := 2) (q := 32) (by decide +kernel) rfl rfl ?_
  refine p11_33 (idx := 289) (q := 35) (by decide +kernel) fX11_289 rfl (by decide) rfl ?_
  replace h := h _ rfl
  refine Z_aload_n (a := 0) (q := 36) (by decide +kernel) rfl rfl ?_
  refine g11_31 (idx := 60) (q := 39) (by decide +kernel) fX11_60 rfl (by decide) (t11_31 hT) rfl ?_
  refine Z_aload_n (a := 0) (q := 40) (by decide +kernel) rfl rfl ?_
  refine g11_36 (idx := 286) (q := 43) (by decide +kernel) fX11_286 rfl (by decide) rfl ?_
  refine Z_iload_n (a := 2) (q := 44) (by decide +kernel) rfl rfl ?_
  obtain ⟨hin2, h⟩ := h
  refine Z_iast (len := 600) (q := 45) (by decide +kernel) rfl (by decide) hin2 rfl ?_
  replace h := h _ rfl
  refine Z_aload_n (a := 0) (q := 46) (by decide +kernel) rfl rfl ?_
  refine g11_32 (idx := 63) (q := 49) (by decide +kernel) fX11_63 rfl (by decide) (t11_32 hT) rfl ?_
  refine Z_aload_n (a := 0) (q := 50) (by decide +kernel) rfl rfl ?_
  refine g11_36 (idx := 286) (q := 53) (by decide +kernel) fX11_286 rfl (by decide) rfl ?_
  refine Z_aload_n (a := 0) (q := 54) (by decide +kernel) rfl rfl ?_
  refine g11_34 (idx := 273) (q := 57) (by decide +kernel) fX11_273 rfl (by decide) rfl ?_
  obtain ⟨hin4, h⟩ := h
  refine Z_iast (len := 600) (q := 58) (by decide +kernel) rfl (by decide) hin4 rfl ?_
  replace h := h _ rfl
  refine Z_aload_n (a := 0) (q := 59) (by decide +kernel) rfl rfl ?_
  refine Z_dup (q := 60) (by decide +kernel) rfl rfl ?_
  refine g11_36 (idx := 286) (q := 63) (by decide +kernel) fX11_286 rfl (by decide) rfl ?_
  refine Z_iconst (a := 1) (v := 1) (q := 64) (by decide +kernel) (by decide +kernel) rfl ?_
  refine Z_iadd (q := 65) (by decide +kernel) rfl ?_
  refine p11_36 (idx := 286) (q := 68) (by decide +kernel) fX11_286 rfl (by decide) rfl ?_
  replace h := h _ rfl
  refine Z_aload_n (a := 0) (q := 69) (by decide +kernel) rfl rfl ?_
  refine Z_aload_n (a := 0) (q := 70) (by decide +kernel) rfl rfl ?_
  refine g11_27 (idx := 48) (q := 73) (by decide +kernel) fX11_48 rfl (by decide) (t11_27 hT) rfl ?_
  refine Z_iload_n (a := 3) (q := 74) (by decide +kernel) rfl rfl ?_
  obtain ⟨hin7, h⟩ := h
  refine Z_iald (len := 120) (q := 75) (by decide +kernel) rfl (by decide) hin7 rfl ?_
  refine p11_37 (idx := 292) (q := 78) (by decide +kernel) fX11_292 rfl (by decide) rfl ?_
  replace h := h _ rfl
  refine Z_iconst (a := 1) (v := 1) (q := 79) (by decide +kernel) (by decide +kernel) rfl ?_
  refine Z_istore (a := 4) (loc2 := [_, _, _, _, _]) (q := 81) (by decide +kernel) (by decide +kernel) rfl rfl rfl ?_
  exact h
set_option maxRecDepth 4000 in
theorem bX11_leaf_81 {d : Nat} (x1 : Int32) (x2 : Int32) (x3 : Int32) (x4 : Int32) {iv : zI} {rv : zR} {lv : zJ} {Q : zI → zR → zJ → Prop} (hT : zTop rv) 
    (h : vp_in x1 12 ∧ (((iv 184 x1.toNatClampNeg) ≤ x4 → ∃ Q2 : Int32 → zI → zR → zJ → Prop, Ci mX11_total d [.ref 174] iv rv lv Q2 ∧ ∀ (v7 : Int32) (iv3 : zI) (rv4 : zR) (lv5 : zJ), Q2 v7 iv3 rv4 lv5 → zTop rv4 ∧ ((¬ x2 = (v7 - v7 / (2 : Int32) * (2 : Int32)) → ∀ iv8 : zI, iv8 = zu iv3 174 38 (0 : Int32) → Q iv8 rv4 lv5) ∧ (x2 = (v7 - v7 / (2 : Int32) * (2 : Int32)) → ∀ iv9 : zI, iv9 = zu iv3 174 38 (1 : Int32) → Q iv9 rv4 lv5))) ∧ (¬ (iv 184 x1.toNatClampNeg) ≤ x4 → vp_in (x3 + x4) 120 ∧ (∀ iv11 : zI, iv11 = zu iv 174 37 ((iv 174 37) ||| (iv 187 (x3 + x4).toNatClampNeg)) → Zv mX11_leaf (d + 1) 81 [some (.ref 174), some (.int x1), some (.int x2), some (.int x3), some (.int (x4 + 1))] [] iv11 rv lv Q)))) :
    Zv mX11_leaf (d + 1) 81 [some (.ref 174), some (.int x1), some (.int x2), some (.int x3), some (.int x4)] [] iv rv lv Q := by
  unfold Zv
  refine Z_iload (a := 4) (q := 83) (by decide +kernel) rfl rfl ?_
  refine Z_aload_n (a := 0) (q := 84) (by decide +kernel) rfl rfl ?_
  refine g11_25 (idx := 42) (q := 87) (by decide +kernel) fX11_42 rfl (by decide) (t11_25 hT) rfl ?_
  refine Z_iload_n (a := 1) (q := 88) (by decide +kernel) rfl rfl ?_
  obtain ⟨hin1, h⟩ := h
  refine Z_iald (len := 12) (q := 89) (by decide +kernel) rfl (by decide) hin1 rfl ?_
  refine Z_icmp_ge (t := 116) (off := 27) (q := 92) (by decide +kernel) (by decide) rfl (fun hc => ?_) (fun hc => ?_)
  · replace h := h.1 hc
    refine Z_aload_n (a := 0) (q := 117) (by decide +kernel) rfl rfl ?_
    refine Z_iload_n (a := 2) (q := 118) (by decide +kernel) rfl rfl ?_
    refine Z_aload_n (a := 0) (q := 119) (by decide +kernel) rfl rfl ?_
    obtain ⟨Q2, hm, h⟩ := h
    refine Z_callVi (M2 := mX11_total) (idx := 223) (d2 := d) (ci := 11) (As := []) (q := 122) (by decide +kernel) kX11_total lX11_223 rfl rfl (by decide) rfl rfl (by decide +kernel) (Nat.le_of_ble_eq_true rfl) (Nat.le_refl _) hm rfl (fun v7 iv3 rv4 lv5 hq => ?_)
    obtain ⟨hT6, h⟩ := h v7 iv3 rv4 lv5 hq
    refine Z_iconst (a := 2) (v := 2) (q := 123) (by decide +kernel) (by decide +kernel) rfl ?_
    refine Z_irem (q := 124) (by decide +kernel) (by decide) rfl ?_
    refine Z_icmp_ne (t := 131) (off := 7) (q := 127) (by decide +kernel) (by decide) rfl (fun hc => ?_) (fun hc => ?_)
    · replace h := h.1 hc
      refine Z_iconst (a := 0) (v := 0) (q := 132) (by decide +kernel) (by decide +kernel) rfl ?_
      refine p11_38 (idx := 270) (q := 135) (by decide +kernel) fX11_270 rfl (by decide) (by decide) rfl ?_
      replace h := h _ rfl
      exact Z_vret (by decide +kernel) rfl rfl ⟨rfl, h⟩
    · replace h := h.2 hc
      refine Z_iconst (a := 1) (v := 1) (q := 128) (by decide +kernel) (by decide +kernel) rfl ?_
      refine Z_goto (q := 132) (off := 4) (by decide +kernel) (by decide) ?_
      refine p11_38 (idx := 270) (q := 135) (by decide +kernel) fX11_270 rfl (by decide) (by decide) rfl ?_
      replace h := h _ rfl
      exact Z_vret (by decide +kernel) rfl rfl ⟨rfl, h⟩
  · replace h := h.2 hc
    refine Z_aload_n (a := 0) (q := 93) (by decide +kernel) rfl rfl ?_
    refine Z_dup (q := 94) (by decide +kernel) rfl rfl ?_
    refine g11_37 (idx := 292) (q := 97) (by decide +kernel) fX11_292 rfl (by decide) rfl ?_
    refine Z_aload_n (a := 0) (q := 98) (by decide +kernel) rfl rfl ?_
    refine g11_28 (idx := 51) (q := 101) (by decide +kernel) fX11_51 rfl (by decide) (t11_28 hT) rfl ?_
    refine Z_iload_n (a := 3) (q := 102) (by decide +kernel) rfl rfl ?_
    refine Z_iload (a := 4) (q := 104) (by decide +kernel) rfl rfl ?_
    refine Z_iadd (q := 105) (by decide +kernel) rfl ?_
    obtain ⟨hin10, h⟩ := h
    refine Z_iald (len := 120) (q := 106) (by decide +kernel) rfl (by decide) hin10 rfl ?_
    refine Z_ior (q := 107) (by decide +kernel) rfl ?_
    refine p11_37 (idx := 292) (q := 110) (by decide +kernel) fX11_292 rfl (by decide) rfl ?_
    replace h := h _ rfl
    refine Z_iinc (a := 4) (b := 1) (v := _ + 1) (loc2 := [_, _, _, _, _]) (q := 113) (by decide +kernel) rfl (zinc _) (by decide +kernel) rfl rfl rfl ?_
    refine Z_goto (q := 81) (off := -32) (by decide +kernel) (by decide) ?_
    exact h
theorem eX11_searches {d : Nat}  {iv : zI} {rv : zR} {lv : zJ} {Q : zI → zR → zJ → Prop} (h : Zv mX11_searches (d + 1) 0 [some (.ref 174)] [] iv rv lv Q) : Cv mX11_searches (d + 1) [.ref 174] iv rv lv Q := Cv.of (by decide +kernel) (by simp [Value.category]) (Nat.le_of_ble_eq_true rfl) rfl h
set_option maxRecDepth 4000 in
theorem bX11_searches_0 {d : Nat}  {iv : zI} {rv : zR} {lv : zJ} {Q : zI → zR → zJ → Prop} (hT : zTop rv) 
    (h : ∀ iv1 : zI, iv1 = zu iv 174 34 (0 : Int32) → ∀ iv2 : zI, iv2 = zu iv1 174 35 (0 : Int32) → ∀ iv3 : zI, iv3 = zu iv2 174 36 (0 : Int32) → ∀ iv4 : zI, iv4 = zu iv3 174 38 (0 : Int32) → ∃ Q5 : zI → zR → zJ → Prop, Cv mX11_begins d [.ref 174] iv4 rv lv Q5 ∧ ∀ (iv6 : zI) (rv7 : zR) (lv8 : zJ), Q5 iv6 rv7 lv8 → zTop rv7 ∧ (∃ Q11 : zI → zR → zJ → Prop, Cv mX11_visits d [.ref 174, .int (0 : Int32)] iv6 rv7 lv8 Q11 ∧ ∀ (iv12 : zI) (rv13 : zR) (lv14 : zJ), Q11 iv12 rv13 lv14 → zTop rv13 ∧ (Q iv12 rv13 lv14))) :
    Zv mX11_searches (d + 1) 0 [some (.ref 174)] [] iv rv lv Q := by
  unfold Zv
  refine Z_aload_n (a := 0) (q := 1) (by decide +kernel) rfl rfl ?_
  refine Z_iconst (a := 0) (v := 0) (q := 2) (by decide +kernel) (by decide +kernel) rfl ?_
  refine p11_34 (idx := 273) (q := 5) (by decide +kernel) fX11_273 rfl (by decide) rfl ?_
  replace h := h _ rfl
  refine Z_aload_n (a := 0) (q := 6) (by decide +kernel) rfl rfl ?_
  refine Z_iconst (a := 0) (v := 0) (q := 7) (by decide +kernel) (by decide +kernel) rfl ?_
  refine p11_35 (idx := 283) (q := 10) (by decide +kernel) fX11_283 rfl (by decide) rfl ?_
  replace h := h _ rfl
  refine Z_aload_n (a := 0) (q := 11) (by decide +kernel) rfl rfl ?_
  refine Z_iconst (a := 0) (v := 0) (q := 12) (by decide +kernel) (by decide +kernel) rfl ?_
  refine p11_36 (idx := 286) (q := 15) (by decide +kernel) fX11_286 rfl (by decide) rfl ?_
  replace h := h _ rfl
  refine Z_aload_n (a := 0) (q := 16) (by decide +kernel) rfl rfl ?_
  refine Z_iconst (a := 0) (v := 0) (q := 17) (by decide +kernel) (by decide +kernel) rfl ?_
  refine p11_38 (idx := 270) (q := 20) (by decide +kernel) fX11_270 rfl (by decide) (by decide) rfl ?_
  replace h := h _ rfl
  refine Z_aload_n (a := 0) (q := 21) (by decide +kernel) rfl rfl ?_
  obtain ⟨Q5, hm, h⟩ := h
  refine Z_callVv (M2 := mX11_begins) (idx := 257) (d2 := d) (ci := 11) (As := []) (q := 24) (by decide +kernel) kX11_begins lX11_257 rfl rfl (by decide) rfl rfl (by decide +kernel) (Nat.le_of_ble_eq_true rfl) (Nat.le_refl _) hm rfl (fun iv6 rv7 lv8 hq => ?_)
  obtain ⟨hT9, h⟩ := h iv6 rv7 lv8 hq
  refine Z_aload_n (a := 0) (q := 25) (by decide +kernel) rfl rfl ?_
  refine Z_iconst (a := 0) (v := 0) (q := 26) (by decide +kernel) (by decide +kernel) rfl ?_
  obtain ⟨Q11, hm, h⟩ := h
  refine Z_callVv (M2 := mX11_visits) (idx := 280) (d2 := d) (ci := 11) (As := [.int _]) (q := 29) (by decide +kernel) kX11_visits lX11_280 rfl rfl (by decide) rfl rfl (by decide +kernel) (Nat.le_of_ble_eq_true rfl) (Nat.le_refl _) hm rfl (fun iv12 rv13 lv14 hq => ?_)
  obtain ⟨hT15, h⟩ := h iv12 rv13 lv14 hq
  exact Z_vret (by decide +kernel) rfl rfl ⟨rfl, h⟩
theorem eX11_search {d : Nat} (x1 : Int32) {iv : zI} {rv : zR} {lv : zJ} {Q : Int32 → zI → zR → zJ → Prop} (h : Zi mX11_search (d + 1) 0 [some (.ref 174), some (.int x1)] [] iv rv lv Q) : Ci mX11_search (d + 1) [.ref 174, .int x1] iv rv lv Q := Ci.of (by decide +kernel) (by simp [Value.category]) (Nat.le_of_ble_eq_true rfl) rfl h
set_option maxRecDepth 4000 in
theorem bX11_search_0 {d : Nat} (x1 : Int32) {iv : zI} {rv : zR} {lv : zJ} {Q : Int32 → zI → zR → zJ → Prop} (hT : zTop rv) 
    (h : ∀ iv1 : zI, iv1 = zu iv 174 0 (0 : Int32) → ((iv1 174 19) = 0 → ∃ Q2 : Int32 → zI → zR → zJ → Prop, Ci mX11_refused d [.ref 174, .int (1 : Int32)] iv1 rv lv Q2 ∧ ∀ (v7 : Int32) (iv3 : zI) (rv4 : zR) (lv5 : zJ), Q2 v7 iv3 rv4 lv5 → zTop rv4 ∧ (Q v7 iv3 rv4 lv5)) ∧ (¬ (iv1 174 19) = 0 → ∃ Q8 : Int32 → zI → zR → zJ → Prop, Ci mX11_in d [.int x1, .int (0 : Int32), .int (4 : Int32)] iv1 rv lv Q8 ∧ ∀ (v13 : Int32) (iv9 : zI) (rv10 : zR) (lv11 : zJ), Q8 v13 iv9 rv10 lv11 → zTop rv10 ∧ ((¬ v13 = 0 → ∃ Q14 : zI → zR → zJ → Prop, Cv mX11_searches d [.ref 174] iv9 rv10 lv11 Q14 ∧ ∀ (iv15 : zI) (rv16 : zR) (lv17 : zJ), Q14 iv15 rv16 lv17 → zTop rv16 ∧ ((x1 = 0 → ∃ Q20 : Int32 → zI → zR → zJ → Prop, Ci mX11_good d [.ref 174, .int (iv15 174 33)] iv15 rv16 lv17 Q20 ∧ ∀ (v25 : Int32) (iv21 : zI) (rv22 : zR) (lv23 : zJ), Q20 v25 iv21 rv22 lv23 → zTop rv22 ∧ (Q v25 iv21 rv22 lv23)) ∧ (x1 = 1 → ∃ Q26 : Int32 → zI → zR → zJ → Prop, Ci mX11_good d [.ref 174, .int (iv15 174 34)] iv15 rv16 lv17 Q26 ∧ ∀ (v31 : Int32) (iv27 : zI) (rv28 : zR) (lv29 : zJ), Q26 v31 iv27 rv28 lv29 → zTop rv28 ∧ (Q v31 iv27 rv28 lv29)) ∧ (x1 = 2 → ∃ Q32 : Int32 → zI → zR → zJ → Prop, Ci mX11_good d [.ref 174, .int (iv15 174 35)] iv15 rv16 lv17 Q32 ∧ ∀ (v37 : Int32) (iv33 : zI) (rv34 : zR) (lv35 : zJ), Q32 v37 iv33 rv34 lv35 → zTop rv34 ∧ (Q v37 iv33 rv34 lv35)) ∧ (x1 = 3 → ∃ Q38 : Int32 → zI → zR → zJ → Prop, Ci mX11_good d [.ref 174, .int (iv15 174 36)] iv15 rv16 lv17 Q38 ∧ ∀ (v43 : Int32) (iv39 : zI) (rv40 : zR) (lv41 : zJ), Q38 v43 iv39 rv40 lv41 → zTop rv40 ∧ (Q v43 iv39 rv40 lv41)) ∧ (¬ x1 = 0 → ¬ x1 = 1 → ¬ x1 = 2 → ¬ x1 = 3 → ((iv15 174 38) = 0 → ∃ Q44 : Int32 → zI → zR → zJ → Prop, Ci mX11_good d [.ref 174, .int (0 : Int32)] iv15 rv16 lv17 Q44 ∧ ∀ (v49 : Int32) (iv45 : zI) (rv46 : zR) (lv47 : zJ), Q44 v49 iv45 rv46 lv47 → zTop rv46 ∧ (Q v49 iv45 rv46 lv47)) ∧ (¬ (iv15 174 38) = 0 → ∃ Q50 : Int32 → zI → zR → zJ → Prop, Ci mX11_good d [.ref 174, .int (1 : Int32)] iv15 rv16 lv17 Q50 ∧ ∀ (v55 : Int32) (iv51 : zI) (rv52 : zR) (lv53 : zJ), Q50 v55 iv51 rv52 lv53 → zTop rv52 ∧ (Q v55 iv51 rv52 lv53))))) ∧ (v13 = 0 → ∃ Q56 : Int32 → zI → zR → zJ → Prop, Ci mX11_refused d [.ref 174, .int (1 : Int32)] iv9 rv10 lv11 Q56 ∧ ∀ (v61 : Int32) (iv57 : zI) (rv58 : zR) (lv59 : zJ), Q56 v61 iv57 rv58 lv59 → zTop rv58 ∧ (Q v61 iv57 rv58 lv59))))) :
    Zi mX11_search (d + 1) 0 [some (.ref 174), some (.int x1)] [] iv rv lv Q := by
  unfold Zi
  refine Z_aload_n (a := 0) (q := 1) (by decide +kernel) rfl rfl ?_
  refine Z_iconst (a := 0) (v := 0) (q := 2) (by decide +kernel) (by decide +kernel) rfl ?_
  refine p11_0 (idx := 87) (q := 5) (by decide +kernel) fX11_87 rfl (by decide) rfl ?_
  replace h := h _ rfl
  refine Z_aload_n (a := 0) (q := 6) (by decide +kernel) rfl rfl ?_
  refine g11_19 (idx := 211) (q := 9) (by decide +kernel) fX11_211 rfl (by decide) rfl ?_
  refine Z_if_eq (t := 21) (off := 12) (q := 12) (by decide +kernel) (by decide) rfl (fun hc => ?_) (fun hc => ?_)
  · replace h := h.1 hc
    refine Z_aload_n (a := 0) (q := 22) (by decide +kernel) rfl rfl ?_
    refine Z_iconst (a := 1) (v := 1) (q := 23) (by decide +kernel) (by decide +kernel) rfl ?_
    obtain ⟨Q2, hm, h⟩ := h
    refine Z_callVi (M2 := mX11_refused) (idx := 201) (d2 := d) (ci := 11) (As := [.int _]) (q := 26) (by decide +kernel) kX11_refused lX11_201 rfl rfl (by decide) rfl rfl (by decide +kernel) (Nat.le_of_ble_eq_true rfl) (Nat.le_refl _) hm rfl (fun v7 iv3 rv4 lv5 hq => ?_)
    obtain ⟨hT6, h⟩ := h v7 iv3 rv4 lv5 hq
    exact Z_iret (ty := .int) (by decide +kernel) rfl rfl rfl ⟨_, rfl, h⟩
  · replace h := h.2 hc
    refine Z_iload_n (a := 1) (q := 13) (by decide +kernel) rfl rfl ?_
    refine Z_iconst (a := 0) (v := 0) (q := 14) (by decide +kernel) (by decide +kernel) rfl ?_
    refine Z_iconst (a := 4) (v := 4) (q := 15) (by decide +kernel) (by decide +kernel) rfl ?_
    obtain ⟨Q8, hm, h⟩ := h
    refine Z_callSi (M2 := mX11_in) (idx := 112) (d2 := d) (As := [.int _, .int _, .int _]) (q := 18) (by decide +kernel) kX11_in lX11_112 rfl rfl (by decide +kernel) (Nat.le_of_ble_eq_true rfl) (Nat.le_refl _) hm rfl (fun v13 iv9 rv10 lv11 hq => ?_)
    obtain ⟨hT12, h⟩ := h v13 iv9 rv10 lv11 hq
    refine Z_if_ne (t := 27) (off := 9) (q := 21) (by decide +kernel) (by decide) rfl (fun hc => ?_) (fun hc => ?_)
    · replace h := h.1 hc
      refine Z_aload_n (a := 0) (q := 28) (by decide +kernel) rfl rfl ?_
      obtain ⟨Q14, hm, h⟩ := h
      refine Z_callVv (M2 := mX11_searches) (idx := 295) (d2 := d) (ci := 11) (As := []) (q := 31) (by decide +kernel) kX11_searches lX11_295 rfl rfl (by decide) rfl rfl (by decide +kernel) (Nat.le_of_ble_eq_true rfl) (Nat.le_refl _) hm rfl (fun iv15 rv16 lv17 hq => ?_)
      obtain ⟨hT18, h⟩ := h iv15 rv16 lv17 hq
      refine Z_iload_n (a := 1) (q := 32) (by decide +kernel) rfl rfl ?_
      by_cases hk0 : x1 = 0
      · replace h := h.1 hk0
        refine Z_tableIn (q := 64) (off := 32) (by decide +kernel : decode mX11_search.2.1 32 = .ok (.tableswitch 68 0 3 #[32, 41, 50, 59], 32)) (by rw [hk0]; decide) (by rw [hk0]; decide) (by rw [hk0]; rfl) (by decide) ?_
        refine Z_aload_n (a := 0) (q := 65) (by decide +kernel) rfl rfl ?_
        refine Z_aload_n (a := 0) (q := 66) (by decide +kernel) rfl rfl ?_
        refine g11_33 (idx := 289) (q := 69) (by decide +kernel) fX11_289 rfl (by decide) rfl ?_
        obtain ⟨Q20, hm, h⟩ := h
        refine Z_callVi (M2 := mX11_good) (idx := 214) (d2 := d) (ci := 11) (As := [.int _]) (q := 72) (by decide +kernel) kX11_good lX11_214 rfl rfl (by decide) rfl rfl (by decide +kernel) (Nat.le_of_ble_eq_true rfl) (Nat.le_refl _) hm rfl (fun v25 iv21 rv22 lv23 hq => ?_)
        obtain ⟨hT24, h⟩ := h v25 iv21 rv22 lv23 hq
        exact Z_iret (ty := .int) (by decide +kernel) rfl rfl rfl ⟨_, rfl, h⟩
      replace h := h.2
      by_cases hk1 : x1 = 1
      · replace h := h.1 hk1
        refine Z_tableIn (q := 73) (off := 41) (by decide +kernel : decode mX11_search.2.1 32 = .ok (.tableswitch 68 0 3 #[32, 41, 50, 59], 32)) (by rw [hk1]; decide) (by rw [hk1]; decide) (by rw [hk1]; rfl) (by decide) ?_
        refine Z_aload_n (a := 0) (q := 74) (by decide +kernel) rfl rfl ?_
        refine Z_aload_n (a := 0) (q := 75) (by decide +kernel) rfl rfl ?_
        refine g11_34 (idx := 273) (q := 78) (by decide +kernel) fX11_273 rfl (by decide) rfl ?_
        obtain ⟨Q26, hm, h⟩ := h
        refine Z_callVi (M2 := mX11_good) (idx := 214) (d2 := d) (ci := 11) (As := [.int _]) (q := 81) (by decide +kernel) kX11_good lX11_214 rfl rfl (by decide) rfl rfl (by decide +kernel) (Nat.le_of_ble_eq_true rfl) (Nat.le_refl _) hm rfl (fun v31 iv27 rv28 lv29 hq => ?_)
        obtain ⟨hT30, h⟩ := h v31 iv27 rv28 lv29 hq
        exact Z_iret (ty := .int) (by decide +kernel) rfl rfl rfl ⟨_, rfl, h⟩
      replace h := h.2
      by_cases hk2 : x1 = 2
      · replace h := h.1 hk2
        refine Z_tableIn (q := 82) (off := 50) (by decide +kernel : decode mX11_search.2.1 32 = .ok (.tableswitch 68 0 3 #[32, 41, 50, 59], 32)) (by rw [hk2]; decide) (by rw [hk2]; decide) (by rw [hk2]; rfl) (by decide) ?_
        refine Z_aload_n (a := 0) (q := 83) (by decide +kernel) rfl rfl ?_
        refine Z_aload_n (a := 0) (q := 84) (by decide +kernel) rfl rfl ?_
        refine g11_35 (idx := 283) (q := 87) (by decide +kernel) fX11_283 rfl (by decide) rfl ?_
        obtain ⟨Q32, hm, h⟩ := h
        refine Z_callVi (M2 := mX11_good) (idx := 214) (d2 := d) (ci := 11) (As := [.int _]) (q := 90) (by decide +kernel) kX11_good lX11_214 rfl rfl (by decide) rfl rfl (by decide +kernel) (Nat.le_of_ble_eq_true rfl) (Nat.le_refl _) hm rfl (fun v37 iv33 rv34 lv35 hq => ?_)
        obtain ⟨hT36, h⟩ := h v37 iv33 rv34 lv35 hq
        exact Z_iret (ty := .int) (by decide +kernel) rfl rfl rfl ⟨_, rfl, h⟩
      replace h := h.2
      by_cases hk3 : x1 = 3
      · replace h := h.1 hk3
        refine Z_tableIn (q := 91) (off := 59) (by decide +kernel : decode mX11_search.2.1 32 = .ok (.tableswitch 68 0 3 #[32, 41, 50, 59], 32)) (by rw [hk3]; decide) (by rw [hk3]; decide) (by rw [hk3]; rfl) (by decide) ?_
        refine Z_aload_n (a := 0) (q := 92) (by decide +kernel) rfl rfl ?_
        refine Z_aload_n (a := 0) (q := 93) (by decide +kernel) rfl rfl ?_
        refine g11_36 (idx := 286) (q := 96) (by decide +kernel) fX11_286 rfl (by decide) rfl ?_
        obtain ⟨Q38, hm, h⟩ := h
        refine Z_callVi (M2 := mX11_good) (idx := 214) (d2 := d) (ci := 11) (As := [.int _]) (q := 99) (by decide +kernel) kX11_good lX11_214 rfl rfl (by decide) rfl rfl (by decide +kernel) (Nat.le_of_ble_eq_true rfl) (Nat.le_refl _) hm rfl (fun v43 iv39 rv40 lv41 hq => ?_)
        obtain ⟨hT42, h⟩ := h v43 iv39 rv40 lv41 hq
        exact Z_iret (ty := .int) (by decide +kernel) rfl rfl rfl ⟨_, rfl, h⟩
      replace h := h.2
      replace h := h hk0 hk1 hk2 hk3
      have hout : x1.toInt < 0 ∨ 3 < x1.toInt := by
        rcases Int.lt_or_le x1.toInt 0 with h1 | h1
        · exact Or.inl h1
        rcases Int.lt_or_le 3 x1.toInt with h2 | h2
        · exact Or.inr h2
        exfalso
        rcases (show x1.toInt = 0 ∨ x1.toInt = 1 ∨ x1.toInt = 2 ∨ x1.toInt = 3 by omega) with h3 | h3 | h3 | h3
        · exact hk0 (zeqI h3)
        · exact hk1 (zeqI h3)
        · exact hk2 (zeqI h3)
        · exact hk3 (zeqI h3)
      refine Z_tableOut (q := 100) (by decide +kernel : decode mX11_search.2.1 32 = .ok (.tableswitch 68 0 3 #[32, 41, 50, 59], 32)) hout (by decide) ?_
      refine Z_aload_n (a := 0) (q := 101) (by decide +kernel) rfl rfl ?_
      refine Z_aload_n (a := 0) (q := 102) (by decide +kernel) rfl rfl ?_
      refine g11_38 (idx := 270) (q := 105) (by decide +kernel) fX11_270 rfl (by decide) rfl ?_
      refine Z_if_eq (t := 112) (off := 7) (q := 108) (by decide +kernel) (by decide) rfl (fun hc => ?_) (fun hc => ?_)
      · replace h := h.1 hc
        refine Z_iconst (a := 0) (v := 0) (q := 113) (by decide +kernel) (by decide +kernel) rfl ?_
        obtain ⟨Q44, hm, h⟩ := h
        refine Z_callVi (M2 := mX11_good) (idx := 214) (d2 := d) (ci := 11) (As := [.int _]) (q := 116) (by decide +kernel) kX11_good lX11_214 rfl rfl (by decide) rfl rfl (by decide +kernel) (Nat.le_of_ble_eq_true rfl) (Nat.le_refl _) hm rfl (fun v49 iv45 rv46 lv47 hq => ?_)
        obtain ⟨hT48, h⟩ := h v49 iv45 rv46 lv47 hq
        exact Z_iret (ty := .int) (by decide +kernel) rfl rfl rfl ⟨_, rfl, h⟩
      · replace h := h.2 hc
        refine Z_iconst (a := 1) (v := 1) (q := 109) (by decide +kernel) (by decide +kernel) rfl ?_
        refine Z_goto (q := 113) (off := 4) (by decide +kernel) (by decide) ?_
        obtain ⟨Q50, hm, h⟩ := h
        refine Z_callVi (M2 := mX11_good) (idx := 214) (d2 := d) (ci := 11) (As := [.int _]) (q := 116) (by decide +kernel) kX11_good lX11_214 rfl rfl (by decide) rfl rfl (by decide +kernel) (Nat.le_of_ble_eq_true rfl) (Nat.le_refl _) hm rfl (fun v55 iv51 rv52 lv53 hq => ?_)
        obtain ⟨hT54, h⟩ := h v55 iv51 rv52 lv53 hq
        exact Z_iret (ty := .int) (by decide +kernel) rfl rfl rfl ⟨_, rfl, h⟩
    · replace h := h.2 hc
      refine Z_aload_n (a := 0) (q := 22) (by decide +kernel) rfl rfl ?_
      refine Z_iconst (a := 1) (v := 1) (q := 23) (by decide +kernel) (by decide +kernel) rfl ?_
      obtain ⟨Q56, hm, h⟩ := h
      refine Z_callVi (M2 := mX11_refused) (idx := 201) (d2 := d) (ci := 11) (As := [.int _]) (q := 26) (by decide +kernel) kX11_refused lX11_201 rfl rfl (by decide) rfl rfl (by decide +kernel) (Nat.le_of_ble_eq_true rfl) (Nat.le_refl _) hm rfl (fun v61 iv57 rv58 lv59 hq => ?_)
      obtain ⟨hT60, h⟩ := h v61 iv57 rv58 lv59 hq
      exact Z_iret (ty := .int) (by decide +kernel) rfl rfl rfl ⟨_, rfl, h⟩
theorem eX11_find {d : Nat} (x1 : Int32) (x2 : Int32) {iv : zI} {rv : zR} {lv : zJ} {Q : Int32 → zI → zR → zJ → Prop} (h : Zi mX11_find (d + 1) 0 [some (.ref 174), some (.int x1), some (.int x2)] [] iv rv lv Q) : Ci mX11_find (d + 1) [.ref 174, .int x1, .int x2] iv rv lv Q := Ci.of (by decide +kernel) (by simp [Value.category]) (Nat.le_of_ble_eq_true rfl) rfl h
set_option maxRecDepth 4000 in
theorem bX11_find_0 {d : Nat} (x1 : Int32) (x2 : Int32) {iv : zI} {rv : zR} {lv : zJ} {Q : Int32 → zI → zR → zJ → Prop} (hT : zTop rv) 
    (h : ∀ iv1 : zI, iv1 = zu iv 174 0 (0 : Int32) → ((iv1 174 19) = 0 → ∃ Q2 : Int32 → zI → zR → zJ → Prop, Ci mX11_refused d [.ref 174, .int (1 : Int32)] iv1 rv lv Q2 ∧ ∀ (v7 : Int32) (iv3 : zI) (rv4 : zR) (lv5 : zJ), Q2 v7 iv3 rv4 lv5 → zTop rv4 ∧ (Q v7 iv3 rv4 lv5)) ∧ (¬ (iv1 174 19) = 0 → (x1 < 0 → ∃ Q8 : Int32 → zI → zR → zJ → Prop, Ci mX11_refused d [.ref 174, .int (1 : Int32)] iv1 rv lv Q8 ∧ ∀ (v13 : Int32) (iv9 : zI) (rv10 : zR) (lv11 : zJ), Q8 v13 iv9 rv10 lv11 → zTop rv10 ∧ (Q v13 iv9 rv10 lv11)) ∧ (¬ x1 < 0 → ∃ Q14 : Int32 → zI → zR → zJ → Prop, Ci mX11_in d [.int x2, .int (0 : Int32), .int (1 : Int32)] iv1 rv lv Q14 ∧ ∀ (v19 : Int32) (iv15 : zI) (rv16 : zR) (lv17 : zJ), Q14 v19 iv15 rv16 lv17 → zTop rv16 ∧ ((¬ v19 = 0 → ∃ Q20 : zI → zR → zJ → Prop, Cv mX11_searches d [.ref 174] iv15 rv16 lv17 Q20 ∧ ∀ (iv21 : zI) (rv22 : zR) (lv23 : zJ), Q20 iv21 rv22 lv23 → zTop rv22 ∧ ((x1 < (iv21 174 36) → (¬ x2 = 0 → vp_in x1 600 ∧ (∃ Q27 : Int32 → zI → zR → zJ → Prop, Ci mX11_good d [.ref 174, .int (iv21 191 x1.toNatClampNeg)] iv21 rv22 lv23 Q27 ∧ ∀ (v32 : Int32) (iv28 : zI) (rv29 : zR) (lv30 : zJ), Q27 v32 iv28 rv29 lv30 → zTop rv29 ∧ (Q v32 iv28 rv29 lv30))) ∧ (x2 = 0 → vp_in x1 600 ∧ (∃ Q34 : Int32 → zI → zR → zJ → Prop, Ci mX11_good d [.ref 174, .int (iv21 190 x1.toNatClampNeg)] iv21 rv22 lv23 Q34 ∧ ∀ (v39 : Int32) (iv35 : zI) (rv36 : zR) (lv37 : zJ), Q34 v39 iv35 rv36 lv37 → zTop rv36 ∧ (Q v39 iv35 rv36 lv37)))) ∧ (¬ x1 < (iv21 174 36) → ∃ Q40 : Int32 → zI → zR → zJ → Prop, Ci mX11_refused d [.ref 174, .int (1 : Int32)] iv21 rv22 lv23 Q40 ∧ ∀ (v45 : Int32) (iv41 : zI) (rv42 : zR) (lv43 : zJ), Q40 v45 iv41 rv42 lv43 → zTop rv42 ∧ (Q v45 iv41 rv42 lv43)))) ∧ (v19 = 0 → ∃ Q46 : Int32 → zI → zR → zJ → Prop, Ci mX11_refused d [.ref 174, .int (1 : Int32)] iv15 rv16 lv17 Q46 ∧ ∀ (v51 : Int32) (iv47 : zI) (rv48 : zR) (lv49 : zJ), Q46 v51 iv47 rv48 lv49 → zTop rv48 ∧ (Q v51 iv47 rv48 lv49)))))) :
    Zi mX11_find (d + 1) 0 [some (.ref 174), some (.int x1), some (.int x2)] [] iv rv lv Q := by
  unfold Zi
  refine Z_aload_n (a := 0) (q := 1) (by decide +kernel) rfl rfl ?_
  refine Z_iconst (a := 0) (v := 0) (q := 2) (by decide +kernel) (by decide +kernel) rfl ?_
  refine p11_0 (idx := 87) (q := 5) (by decide +kernel) fX11_87 rfl (by decide) rfl ?_
  replace h := h _ rfl
  refine Z_aload_n (a := 0) (q := 6) (by decide +kernel) rfl rfl ?_
  refine g11_19 (idx := 211) (q := 9) (by decide +kernel) fX11_211 rfl (by decide) rfl ?_
  refine Z_if_eq (t := 25) (off := 16) (q := 12) (by decide +kernel) (by decide) rfl (fun hc => ?_) (fun hc => ?_)
  · replace h := h.1 hc
    refine Z_aload_n (a := 0) (q := 26) (by decide +kernel) rfl rfl ?_
    refine Z_iconst (a := 1) (v := 1) (q := 27) (by decide +kernel) (by decide +kernel) rfl ?_
    obtain ⟨Q2, hm, h⟩ := h
    refine Z_callVi (M2 := mX11_refused) (idx := 201) (d2 := d) (ci := 11) (As := [.int _]) (q := 30) (by decide +kernel) kX11_refused lX11_201 rfl rfl (by decide) rfl rfl (by decide +kernel) (Nat.le_of_ble_eq_true rfl) (Nat.le_refl _) hm rfl (fun v7 iv3 rv4 lv5 hq => ?_)
    obtain ⟨hT6, h⟩ := h v7 iv3 rv4 lv5 hq
    exact Z_iret (ty := .int) (by decide +kernel) rfl rfl rfl ⟨_, rfl, h⟩
  · replace h := h.2 hc
    refine Z_iload_n (a := 1) (q := 13) (by decide +kernel) rfl rfl ?_
    refine Z_if_lt (t := 25) (off := 12) (q := 16) (by decide +kernel) (by decide) rfl (fun hc => ?_) (fun hc => ?_)
    · replace h := h.1 hc
      refine Z_aload_n (a := 0) (q := 26) (by decide +kernel) rfl rfl ?_
      refine Z_iconst (a := 1) (v := 1) (q := 27) (by decide +kernel) (by decide +kernel) rfl ?_
      obtain ⟨Q8, hm, h⟩ := h
      refine Z_callVi (M2 := mX11_refused) (idx := 201) (d2 := d) (ci := 11) (As := [.int _]) (q := 30) (by decide +kernel) kX11_refused lX11_201 rfl rfl (by decide) rfl rfl (by decide +kernel) (Nat.le_of_ble_eq_true rfl) (Nat.le_refl _) hm rfl (fun v13 iv9 rv10 lv11 hq => ?_)
      obtain ⟨hT12, h⟩ := h v13 iv9 rv10 lv11 hq
      exact Z_iret (ty := .int) (by decide +kernel) rfl rfl rfl ⟨_, rfl, h⟩
    · replace h := h.2 hc
      refine Z_iload_n (a := 2) (q := 17) (by decide +kernel) rfl rfl ?_
      refine Z_iconst (a := 0) (v := 0) (q := 18) (by decide +kernel) (by decide +kernel) rfl ?_
      refine Z_iconst (a := 1) (v := 1) (q := 19) (by decide +kernel) (by decide +kernel) rfl ?_
      obtain ⟨Q14, hm, h⟩ := h
      refine Z_callSi (M2 := mX11_in) (idx := 112) (d2 := d) (As := [.int _, .int _, .int _]) (q := 22) (by decide +kernel) kX11_in lX11_112 rfl rfl (by decide +kernel) (Nat.le_of_ble_eq_true rfl) (Nat.le_refl _) hm rfl (fun v19 iv15 rv16 lv17 hq => ?_)
      obtain ⟨hT18, h⟩ := h v19 iv15 rv16 lv17 hq
      refine Z_if_ne (t := 31) (off := 9) (q := 25) (by decide +kernel) (by decide) rfl (fun hc => ?_) (fun hc => ?_)
      · replace h := h.1 hc
        refine Z_aload_n (a := 0) (q := 32) (by decide +kernel) rfl rfl ?_
        obtain ⟨Q20, hm, h⟩ := h
        refine Z_callVv (M2 := mX11_searches) (idx := 295) (d2 := d) (ci := 11) (As := []) (q := 35) (by decide +kernel) kX11_searches lX11_295 rfl rfl (by decide) rfl rfl (by decide +kernel) (Nat.le_of_ble_eq_true rfl) (Nat.le_refl _) hm rfl (fun iv21 rv22 lv23 hq => ?_)
        obtain ⟨hT24, h⟩ := h iv21 rv22 lv23 hq
        refine Z_iload_n (a := 1) (q := 36) (by decide +kernel) rfl rfl ?_
        refine Z_aload_n (a := 0) (q := 37) (by decide +kernel) rfl rfl ?_
        refine g11_36 (idx := 286) (q := 40) (by decide +kernel) fX11_286 rfl (by decide) rfl ?_
        refine Z_icmp_lt (t := 49) (off := 9) (q := 43) (by decide +kernel) (by decide) rfl (fun hc => ?_) (fun hc => ?_)
        · replace h := h.1 hc
          refine Z_aload_n (a := 0) (q := 50) (by decide +kernel) rfl rfl ?_
          refine Z_iload_n (a := 2) (q := 51) (by decide +kernel) rfl rfl ?_
          refine Z_if_ne (t := 63) (off := 12) (q := 54) (by decide +kernel) (by decide) rfl (fun hc => ?_) (fun hc => ?_)
          · replace h := h.1 hc
            refine Z_aload_n (a := 0) (q := 64) (by decide +kernel) rfl rfl ?_
            refine g11_32 (idx := 63) (q := 67) (by decide +kernel) fX11_63 rfl (by decide) (t11_32 hT24) rfl ?_
            refine Z_iload_n (a := 1) (q := 68) (by decide +kernel) rfl rfl ?_
            obtain ⟨hin26, h⟩ := h
            refine Z_iald (len := 600) (q := 69) (by decide +kernel) rfl (by decide) hin26 rfl ?_
            obtain ⟨Q27, hm, h⟩ := h
            refine Z_callVi (M2 := mX11_good) (idx := 214) (d2 := d) (ci := 11) (As := [.int _]) (q := 72) (by decide +kernel) kX11_good lX11_214 rfl rfl (by decide) rfl rfl (by decide +kernel) (Nat.le_of_ble_eq_true rfl) (Nat.le_refl _) hm rfl (fun v32 iv28 rv29 lv30 hq => ?_)
            obtain ⟨hT31, h⟩ := h v32 iv28 rv29 lv30 hq
            exact Z_iret (ty := .int) (by decide +kernel) rfl rfl rfl ⟨_, rfl, h⟩
          · replace h := h.2 hc
            refine Z_aload_n (a := 0) (q := 55) (by decide +kernel) rfl rfl ?_
            refine g11_31 (idx := 60) (q := 58) (by decide +kernel) fX11_60 rfl (by decide) (t11_31 hT24) rfl ?_
            refine Z_iload_n (a := 1) (q := 59) (by decide +kernel) rfl rfl ?_
            obtain ⟨hin33, h⟩ := h
            refine Z_iald (len := 600) (q := 60) (by decide +kernel) rfl (by decide) hin33 rfl ?_
            refine Z_goto (q := 69) (off := 9) (by decide +kernel) (by decide) ?_
            obtain ⟨Q34, hm, h⟩ := h
            refine Z_callVi (M2 := mX11_good) (idx := 214) (d2 := d) (ci := 11) (As := [.int _]) (q := 72) (by decide +kernel) kX11_good lX11_214 rfl rfl (by decide) rfl rfl (by decide +kernel) (Nat.le_of_ble_eq_true rfl) (Nat.le_refl _) hm rfl (fun v39 iv35 rv36 lv37 hq => ?_)
            obtain ⟨hT38, h⟩ := h v39 iv35 rv36 lv37 hq
            exact Z_iret (ty := .int) (by decide +kernel) rfl rfl rfl ⟨_, rfl, h⟩
        · replace h := h.2 hc
          refine Z_aload_n (a := 0) (q := 44) (by decide +kernel) rfl rfl ?_
          refine Z_iconst (a := 1) (v := 1) (q := 45) (by decide +kernel) (by decide +kernel) rfl ?_
          obtain ⟨Q40, hm, h⟩ := h
          refine Z_callVi (M2 := mX11_refused) (idx := 201) (d2 := d) (ci := 11) (As := [.int _]) (q := 48) (by decide +kernel) kX11_refused lX11_201 rfl rfl (by decide) rfl rfl (by decide +kernel) (Nat.le_of_ble_eq_true rfl) (Nat.le_refl _) hm rfl (fun v45 iv41 rv42 lv43 hq => ?_)
          obtain ⟨hT44, h⟩ := h v45 iv41 rv42 lv43 hq
          exact Z_iret (ty := .int) (by decide +kernel) rfl rfl rfl ⟨_, rfl, h⟩
      · replace h := h.2 hc
        refine Z_aload_n (a := 0) (q := 26) (by decide +kernel) rfl rfl ?_
        refine Z_iconst (a := 1) (v := 1) (q := 27) (by decide +kernel) (by decide +kernel) rfl ?_
        obtain ⟨Q46, hm, h⟩ := h
        refine Z_callVi (M2 := mX11_refused) (idx := 201) (d2 := d) (ci := 11) (As := [.int _]) (q := 30) (by decide +kernel) kX11_refused lX11_201 rfl rfl (by decide) rfl rfl (by decide +kernel) (Nat.le_of_ble_eq_true rfl) (Nat.le_refl _) hm rfl (fun v51 iv47 rv48 lv49 hq => ?_)
        obtain ⟨hT50, h⟩ := h v51 iv47 rv48 lv49 hq
        exact Z_iret (ty := .int) (by decide +kernel) rfl rfl rfl ⟨_, rfl, h⟩
theorem eX11_searchOf {d : Nat} (x1 : Int32) {iv : zI} {rv : zR} {lv : zJ} {Q : Int32 → zI → zR → zJ → Prop} (h : Zi mX11_searchOf (d + 1) 0 [some (.ref 174), some (.int x1)] [] iv rv lv Q) : Ci mX11_searchOf (d + 1) [.ref 174, .int x1] iv rv lv Q := Ci.of (by decide +kernel) (by simp [Value.category]) (Nat.le_of_ble_eq_true rfl) rfl h
set_option maxRecDepth 4000 in
theorem bX11_searchOf_0 {d : Nat} (x1 : Int32) {iv : zI} {rv : zR} {lv : zJ} {Q : Int32 → zI → zR → zJ → Prop} (hT : zTop rv) 
    (h : ∀ iv1 : zI, iv1 = zu iv 174 0 (0 : Int32) → ∃ Q2 : Int32 → zI → zR → zJ → Prop, Ci mX11_isNumber d [.ref 174, .int x1] iv1 rv lv Q2 ∧ ∀ (v7 : Int32) (iv3 : zI) (rv4 : zR) (lv5 : zJ), Q2 v7 iv3 rv4 lv5 → zTop rv4 ∧ ((¬ v7 = 0 → ∃ Q8 : zI → zR → zJ → Prop, Cv mX11_searches d [.ref 174] iv3 rv4 lv5 Q8 ∧ ∀ (iv9 : zI) (rv10 : zR) (lv11 : zJ), Q8 iv9 rv10 lv11 → zTop rv10 ∧ (∃ Q14 : Int32 → zI → zR → zJ → Prop, Ci mX11_sideOf d [.int (iv9 174 37), .int x1] iv9 rv10 lv11 Q14 ∧ ∀ (v19 : Int32) (iv15 : zI) (rv16 : zR) (lv17 : zJ), Q14 v19 iv15 rv16 lv17 → zTop rv16 ∧ (∃ Q20 : Int32 → zI → zR → zJ → Prop, Ci mX11_good d [.ref 174, .int v19] iv15 rv16 lv17 Q20 ∧ ∀ (v25 : Int32) (iv21 : zI) (rv22 : zR) (lv23 : zJ), Q20 v25 iv21 rv22 lv23 → zTop rv22 ∧ (Q v25 iv21 rv22 lv23)))) ∧ (v7 = 0 → ∃ Q26 : Int32 → zI → zR → zJ → Prop, Ci mX11_refused d [.ref 174, .int (1 : Int32)] iv3 rv4 lv5 Q26 ∧ ∀ (v31 : Int32) (iv27 : zI) (rv28 : zR) (lv29 : zJ), Q26 v31 iv27 rv28 lv29 → zTop rv28 ∧ (Q v31 iv27 rv28 lv29)))) :
    Zi mX11_searchOf (d + 1) 0 [some (.ref 174), some (.int x1)] [] iv rv lv Q := by
  unfold Zi
  refine Z_aload_n (a := 0) (q := 1) (by decide +kernel) rfl rfl ?_
  refine Z_iconst (a := 0) (v := 0) (q := 2) (by decide +kernel) (by decide +kernel) rfl ?_
  refine p11_0 (idx := 87) (q := 5) (by decide +kernel) fX11_87 rfl (by decide) rfl ?_
  replace h := h _ rfl
  refine Z_aload_n (a := 0) (q := 6) (by decide +kernel) rfl rfl ?_
  refine Z_iload_n (a := 1) (q := 7) (by decide +kernel) rfl rfl ?_
  obtain ⟨Q2, hm, h⟩ := h
  refine Z_callVi (M2 := mX11_isNumber) (idx := 229) (d2 := d) (ci := 11) (As := [.int _]) (q := 10) (by decide +kernel) kX11_isNumber lX11_229 rfl rfl (by decide) rfl rfl (by decide +kernel) (Nat.le_of_ble_eq_true rfl) (Nat.le_refl _) hm rfl (fun v7 iv3 rv4 lv5 hq => ?_)
  obtain ⟨hT6, h⟩ := h v7 iv3 rv4 lv5 hq
  refine Z_if_ne (t := 19) (off := 9) (q := 13) (by decide +kernel) (by decide) rfl (fun hc => ?_) (fun hc => ?_)
  · replace h := h.1 hc
    refine Z_aload_n (a := 0) (q := 20) (by decide +kernel) rfl rfl ?_
    obtain ⟨Q8, hm, h⟩ := h
    refine Z_callVv (M2 := mX11_searches) (idx := 295) (d2 := d) (ci := 11) (As := []) (q := 23) (by decide +kernel) kX11_searches lX11_295 rfl rfl (by decide) rfl rfl (by decide +kernel) (Nat.le_of_ble_eq_true rfl) (Nat.le_refl _) hm rfl (fun iv9 rv10 lv11 hq => ?_)
    obtain ⟨hT12, h⟩ := h iv9 rv10 lv11 hq
    refine Z_aload_n (a := 0) (q := 24) (by decide +kernel) rfl rfl ?_
    refine Z_aload_n (a := 0) (q := 25) (by decide +kernel) rfl rfl ?_
    refine g11_37 (idx := 292) (q := 28) (by decide +kernel) fX11_292 rfl (by decide) rfl ?_
    refine Z_iload_n (a := 1) (q := 29) (by decide +kernel) rfl rfl ?_
    obtain ⟨Q14, hm, h⟩ := h
    refine Z_callSi (M2 := mX11_sideOf) (idx := 267) (d2 := d) (As := [.int _, .int _]) (q := 32) (by decide +kernel) kX11_sideOf lX11_267 rfl rfl (by decide +kernel) (Nat.le_of_ble_eq_true rfl) (Nat.le_refl _) hm rfl (fun v19 iv15 rv16 lv17 hq => ?_)
    obtain ⟨hT18, h⟩ := h v19 iv15 rv16 lv17 hq
    obtain ⟨Q20, hm, h⟩ := h
    refine Z_callVi (M2 := mX11_good) (idx := 214) (d2 := d) (ci := 11) (As := [.int _]) (q := 35) (by decide +kernel) kX11_good lX11_214 rfl rfl (by decide) rfl rfl (by decide +kernel) (Nat.le_of_ble_eq_true rfl) (Nat.le_refl _) hm rfl (fun v25 iv21 rv22 lv23 hq => ?_)
    obtain ⟨hT24, h⟩ := h v25 iv21 rv22 lv23 hq
    exact Z_iret (ty := .int) (by decide +kernel) rfl rfl rfl ⟨_, rfl, h⟩
  · replace h := h.2 hc
    refine Z_aload_n (a := 0) (q := 14) (by decide +kernel) rfl rfl ?_
    refine Z_iconst (a := 1) (v := 1) (q := 15) (by decide +kernel) (by decide +kernel) rfl ?_
    obtain ⟨Q26, hm, h⟩ := h
    refine Z_callVi (M2 := mX11_refused) (idx := 201) (d2 := d) (ci := 11) (As := [.int _]) (q := 18) (by decide +kernel) kX11_refused lX11_201 rfl rfl (by decide) rfl rfl (by decide +kernel) (Nat.le_of_ble_eq_true rfl) (Nat.le_refl _) hm rfl (fun v31 iv27 rv28 lv29 hq => ?_)
    obtain ⟨hT30, h⟩ := h v31 iv27 rv28 lv29 hq
    exact Z_iret (ty := .int) (by decide +kernel) rfl rfl rfl ⟨_, rfl, h⟩
theorem eX11_setOf {d : Nat} (x1 : Int32) {iv : zI} {rv : zR} {lv : zJ} {Q : Int32 → zI → zR → zJ → Prop} (h : Zi mX11_setOf d 0 [some (.ref 174), some (.int x1)] [] iv rv lv Q) : Ci mX11_setOf d [.ref 174, .int x1] iv rv lv Q := Ci.of (by decide +kernel) (by simp [Value.category]) (Nat.le_of_ble_eq_true rfl) rfl h
set_option maxRecDepth 4000 in
theorem bX11_setOf_0 {d : Nat} (x1 : Int32) {iv : zI} {rv : zR} {lv : zJ} {Q : Int32 → zI → zR → zJ → Prop} (hT : zTop rv) 
    (h : vp_in ((4 : Int32) * x1) 40 ∧ (vp_in (((4 : Int32) * x1) + (1 : Int32)) 40 ∧ (vp_in (((4 : Int32) * x1) + (2 : Int32)) 40 ∧ (vp_in (((4 : Int32) * x1) + (3 : Int32)) 40 ∧ (Q ((((iv 193 ((4 : Int32) * x1).toNatClampNeg) ||| (iv 193 (((4 : Int32) * x1) + (1 : Int32)).toNatClampNeg)) ||| (iv 193 (((4 : Int32) * x1) + (2 : Int32)).toNatClampNeg)) ||| (iv 193 (((4 : Int32) * x1) + (3 : Int32)).toNatClampNeg)) iv rv lv))))) :
    Zi mX11_setOf d 0 [some (.ref 174), some (.int x1)] [] iv rv lv Q := by
  unfold Zi
  refine Z_aload_n (a := 0) (q := 1) (by decide +kernel) rfl rfl ?_
  refine g11_40 (idx := 69) (q := 4) (by decide +kernel) fX11_69 rfl (by decide) (t11_40 hT) rfl ?_
  refine Z_iconst (a := 4) (v := 4) (q := 5) (by decide +kernel) (by decide +kernel) rfl ?_
  refine Z_iload_n (a := 1) (q := 6) (by decide +kernel) rfl rfl ?_
  refine Z_imul (q := 7) (by decide +kernel) rfl ?_
  obtain ⟨hin1, h⟩ := h
  refine Z_iald (len := 40) (q := 8) (by decide +kernel) rfl (by decide) hin1 rfl ?_
  refine Z_aload_n (a := 0) (q := 9) (by decide +kernel) rfl rfl ?_
  refine g11_40 (idx := 69) (q := 12) (by decide +kernel) fX11_69 rfl (by decide) (t11_40 hT) rfl ?_
  refine Z_iconst (a := 4) (v := 4) (q := 13) (by decide +kernel) (by decide +kernel) rfl ?_
  refine Z_iload_n (a := 1) (q := 14) (by decide +kernel) rfl rfl ?_
  refine Z_imul (q := 15) (by decide +kernel) rfl ?_
  refine Z_iconst (a := 1) (v := 1) (q := 16) (by decide +kernel) (by decide +kernel) rfl ?_
  refine Z_iadd (q := 17) (by decide +kernel) rfl ?_
  obtain ⟨hin2, h⟩ := h
  refine Z_iald (len := 40) (q := 18) (by decide +kernel) rfl (by decide) hin2 rfl ?_
  refine Z_ior (q := 19) (by decide +kernel) rfl ?_
  refine Z_aload_n (a := 0) (q := 20) (by decide +kernel) rfl rfl ?_
  refine g11_40 (idx := 69) (q := 23) (by decide +kernel) fX11_69 rfl (by decide) (t11_40 hT) rfl ?_
  refine Z_iconst (a := 4) (v := 4) (q := 24) (by decide +kernel) (by decide +kernel) rfl ?_
  refine Z_iload_n (a := 1) (q := 25) (by decide +kernel) rfl rfl ?_
  refine Z_imul (q := 26) (by decide +kernel) rfl ?_
  refine Z_iconst (a := 2) (v := 2) (q := 27) (by decide +kernel) (by decide +kernel) rfl ?_
  refine Z_iadd (q := 28) (by decide +kernel) rfl ?_
  obtain ⟨hin3, h⟩ := h
  refine Z_iald (len := 40) (q := 29) (by decide +kernel) rfl (by decide) hin3 rfl ?_
  refine Z_ior (q := 30) (by decide +kernel) rfl ?_
  refine Z_aload_n (a := 0) (q := 31) (by decide +kernel) rfl rfl ?_
  refine g11_40 (idx := 69) (q := 34) (by decide +kernel) fX11_69 rfl (by decide) (t11_40 hT) rfl ?_
  refine Z_iconst (a := 4) (v := 4) (q := 35) (by decide +kernel) (by decide +kernel) rfl ?_
  refine Z_iload_n (a := 1) (q := 36) (by decide +kernel) rfl rfl ?_
  refine Z_imul (q := 37) (by decide +kernel) rfl ?_
  refine Z_iconst (a := 3) (v := 3) (q := 38) (by decide +kernel) (by decide +kernel) rfl ?_
  refine Z_iadd (q := 39) (by decide +kernel) rfl ?_
  obtain ⟨hin4, h⟩ := h
  refine Z_iald (len := 40) (q := 40) (by decide +kernel) rfl (by decide) hin4 rfl ?_
  refine Z_ior (q := 41) (by decide +kernel) rfl ?_
  exact Z_iret (ty := .int) (by decide +kernel) rfl rfl rfl ⟨_, rfl, h⟩
theorem eX11_width {d : Nat} (x1 : Int32) (x2 : Int32) {iv : zI} {rv : zR} {lv : zJ} {Q : Int32 → zI → zR → zJ → Prop} (h : Zi mX11_width d 0 [some (.ref 174), some (.int x1), some (.int x2)] [] iv rv lv Q) : Ci mX11_width d [.ref 174, .int x1, .int x2] iv rv lv Q := Ci.of (by decide +kernel) (by simp [Value.category]) (Nat.le_of_ble_eq_true rfl) rfl h
set_option maxRecDepth 4000 in
theorem bX11_width_0 {d : Nat} (x1 : Int32) (x2 : Int32) {iv : zI} {rv : zR} {lv : zJ} {Q : Int32 → zI → zR → zJ → Prop} (hT : zTop rv) 
    (h : vp_in ((4 : Int32) * x1) 40 ∧ (vp_in ((((4 : Int32) * x1) + x2) - (1 : Int32)) 40 ∧ (Q ((iv 192 ((4 : Int32) * x1).toNatClampNeg) - (iv 192 ((((4 : Int32) * x1) + x2) - (1 : Int32)).toNatClampNeg)) iv rv lv))) :
    Zi mX11_width d 0 [some (.ref 174), some (.int x1), some (.int x2)] [] iv rv lv Q := by
  unfold Zi
  refine Z_aload_n (a := 0) (q := 1) (by decide +kernel) rfl rfl ?_
  refine g11_39 (idx := 66) (q := 4) (by decide +kernel) fX11_66 rfl (by decide) (t11_39 hT) rfl ?_
  refine Z_iconst (a := 4) (v := 4) (q := 5) (by decide +kernel) (by decide +kernel) rfl ?_
  refine Z_iload_n (a := 1) (q := 6) (by decide +kernel) rfl rfl ?_
  refine Z_imul (q := 7) (by decide +kernel) rfl ?_
  obtain ⟨hin1, h⟩ := h
  refine Z_iald (len := 40) (q := 8) (by decide +kernel) rfl (by decide) hin1 rfl ?_
  refine Z_aload_n (a := 0) (q := 9) (by decide +kernel) rfl rfl ?_
  refine g11_39 (idx := 66) (q := 12) (by decide +kernel) fX11_66 rfl (by decide) (t11_39 hT) rfl ?_
  refine Z_iconst (a := 4) (v := 4) (q := 13) (by decide +kernel) (by decide +kernel) rfl ?_
  refine Z_iload_n (a := 1) (q := 14) (by decide +kernel) rfl rfl ?_
  refine Z_imul (q := 15) (by decide +kernel) rfl ?_
  refine Z_iload_n (a := 2) (q := 16) (by decide +kernel) rfl rfl ?_
  refine Z_iadd (q := 17) (by decide +kernel) rfl ?_
  refine Z_iconst (a := 1) (v := 1) (q := 18) (by decide +kernel) (by decide +kernel) rfl ?_
  refine Z_isub (q := 19) (by decide +kernel) rfl ?_
  obtain ⟨hin2, h⟩ := h
  refine Z_iald (len := 40) (q := 20) (by decide +kernel) rfl (by decide) hin2 rfl ?_
  refine Z_isub (q := 21) (by decide +kernel) rfl ?_
  exact Z_iret (ty := .int) (by decide +kernel) rfl rfl rfl ⟨_, rfl, h⟩
theorem eX11_places {d : Nat} (x1 : Int32) {iv : zI} {rv : zR} {lv : zJ} {Q : zI → zR → zJ → Prop} (h : Zv mX11_places (d + 1) 0 [some (.ref 174), some (.int x1), none, none, none, none, none] [] iv rv lv Q) : Cv mX11_places (d + 1) [.ref 174, .int x1] iv rv lv Q := Cv.of (by decide +kernel) (by simp [Value.category]) (Nat.le_of_ble_eq_true rfl) rfl h
set_option maxRecDepth 4000 in
theorem bX11_places_0 {d : Nat} (x1 : Int32) {iv : zI} {rv : zR} {lv : zJ} {Q : zI → zR → zJ → Prop} (hT : zTop rv) 
    (h : Zv mX11_places (d + 1) 2 [some (.ref 174), some (.int x1), some (.int (1 : Int32)), none, none, none, none] [] iv rv lv Q) :
    Zv mX11_places (d + 1) 0 [some (.ref 174), some (.int x1), none, none, none, none, none] [] iv rv lv Q := by
  unfold Zv
  refine Z_iconst (a := 1) (v := 1) (q := 1) (by decide +kernel) (by decide +kernel) rfl ?_
  refine Z_istore_n (a := 2) (loc2 := [_, _, _, _, _, _, _]) (q := 2) (by decide +kernel) (by decide +kernel) rfl rfl rfl ?_
  exact h
set_option maxRecDepth 4000 in
theorem bX11_places_2 {d : Nat} (x1 : Int32) (x2 : Int32) {iv : zI} {rv : zR} {lv : zJ} {Q : zI → zR → zJ → Prop} (hT : zTop rv) 
    (h : (x1 ≤ x2 → vp_in (x1 - (1 : Int32)) 4 ∧ (Zv mX11_places (d + 1) 114 [some (.ref 174), some (.int x1), some (.int (iv 194 (x1 - (1 : Int32)).toNatClampNeg)), some (.int (0 : Int32)), some (.int (0 : Int32)), none, none] [] iv rv lv Q)) ∧ (¬ x1 ≤ x2 → Zv mX11_places (d + 1) 9 [some (.ref 174), some (.int x1), some (.int x2), some (.int x2), none, none, none] [] iv rv lv Q)) :
    Zv mX11_places (d + 1) 2 [some (.ref 174), some (.int x1), some (.int x2), none, none, none, none] [] iv rv lv Q := by
  unfold Zv
  refine Z_iload_n (a := 2) (q := 3) (by decide +kernel) rfl rfl ?_
  refine Z_iload_n (a := 1) (q := 4) (by decide +kernel) rfl rfl ?_
  refine Z_icmp_ge (t := 100) (off := 96) (q := 7) (by decide +kernel) (by decide) rfl (fun hc => ?_) (fun hc => ?_)
  · replace h := h.1 hc
    refine Z_aload_n (a := 0) (q := 101) (by decide +kernel) rfl rfl ?_
    refine g11_41 (idx := 72) (q := 104) (by decide +kernel) fX11_72 rfl (by decide) (t11_41 hT) rfl ?_
    refine Z_iload_n (a := 1) (q := 105) (by decide +kernel) rfl rfl ?_
    refine Z_iconst (a := 1) (v := 1) (q := 106) (by decide +kernel) (by decide +kernel) rfl ?_
    refine Z_isub (q := 107) (by decide +kernel) rfl ?_
    obtain ⟨hin1, h⟩ := h
    refine Z_iald (len := 4) (q := 108) (by decide +kernel) rfl (by decide) hin1 rfl ?_
    refine Z_istore_n (a := 2) (loc2 := [_, _, _, _, _, _, _]) (q := 109) (by decide +kernel) (by decide +kernel) rfl rfl rfl ?_
    refine Z_iconst (a := 0) (v := 0) (q := 110) (by decide +kernel) (by decide +kernel) rfl ?_
    refine Z_istore_n (a := 3) (loc2 := [_, _, _, _, _, _, _]) (q := 111) (by decide +kernel) (by decide +kernel) rfl rfl rfl ?_
    refine Z_iconst (a := 0) (v := 0) (q := 112) (by decide +kernel) (by decide +kernel) rfl ?_
    refine Z_istore (a := 4) (loc2 := [_, _, _, _, _, _, _]) (q := 114) (by decide +kernel) (by decide +kernel) rfl rfl rfl ?_
    exact h
  · replace h := h.2 hc
    refine Z_iload_n (a := 2) (q := 8) (by decide +kernel) rfl rfl ?_
    refine Z_istore_n (a := 3) (loc2 := [_, _, _, _, _, _, _]) (q := 9) (by decide +kernel) (by decide +kernel) rfl rfl rfl ?_
    exact h
set_option maxRecDepth 4000 in
theorem bX11_places_9 {d : Nat} (x1 : Int32) (x2 : Int32) (x3 : Int32) {iv : zI} {rv : zR} {lv : zJ} {Q : zI → zR → zJ → Prop} (hT : zTop rv) 
    (h : (x3 ≤ 0 → Zv mX11_places (d + 1) 2 [some (.ref 174), some (.int x1), some (.int (x2 + 1)), none, none, none, none] [] iv rv lv Q) ∧ (¬ x3 ≤ 0 → ∃ Q1 : Int32 → zI → zR → zJ → Prop, Ci mX11_isBefore d [.ref 174, .int x3, .int (x3 - (1 : Int32))] iv rv lv Q1 ∧ ∀ (v6 : Int32) (iv2 : zI) (rv3 : zR) (lv4 : zJ), Q1 v6 iv2 rv3 lv4 → zTop rv3 ∧ ((v6 = 0 → Zv mX11_places (d + 1) 2 [some (.ref 174), some (.int x1), some (.int (x2 + 1)), none, none, none, none] [] iv2 rv3 lv4 Q) ∧ (¬ v6 = 0 → vp_in x3 4 ∧ (vp_in (x3 - (1 : Int32)) 4 ∧ (∀ iv9 : zI, iv9 = zu iv2 194 x3.toNatClampNeg (iv2 194 (x3 - (1 : Int32)).toNatClampNeg) → ∀ iv10 : zI, iv10 = zu iv9 195 x3.toNatClampNeg (iv9 195 (x3 - (1 : Int32)).toNatClampNeg) → ∀ iv11 : zI, iv11 = zu iv10 194 (x3 - (1 : Int32)).toNatClampNeg (iv2 194 x3.toNatClampNeg) → ∀ iv12 : zI, iv12 = zu iv11 195 (x3 - (1 : Int32)).toNatClampNeg (iv2 195 x3.toNatClampNeg) → Zv mX11_places (d + 1) 9 [some (.ref 174), some (.int x1), some (.int x2), some (.int (x3 + -1)), none, none, none] [] iv12 rv3 lv4 Q)))))) :
    Zv mX11_places (d + 1) 9 [some (.ref 174), some (.int x1), some (.int x2), some (.int x3), none, none, none] [] iv rv lv Q := by
  unfold Zv
  refine Z_iload_n (a := 3) (q := 10) (by decide +kernel) rfl rfl ?_
  refine Z_if_le (t := 94) (off := 84) (q := 13) (by decide +kernel) (by decide) rfl (fun hc => ?_) (fun hc => ?_)
  · replace h := h.1 hc
    refine Z_iinc (a := 2) (b := 1) (v := _ + 1) (loc2 := [_, _, _, _, _, _, _]) (q := 97) (by decide +kernel) rfl (zinc _) (by decide +kernel) rfl rfl rfl ?_
    refine Z_goto (q := 2) (off := -95) (by decide +kernel) (by decide) ?_
    exact Z_forget h (And.intro rfl (And.intro rfl (And.intro rfl trivial)))
  · replace h := h.2 hc
    refine Z_aload_n (a := 0) (q := 14) (by decide +kernel) rfl rfl ?_
    refine Z_iload_n (a := 3) (q := 15) (by decide +kernel) rfl rfl ?_
    refine Z_iload_n (a := 3) (q := 16) (by decide +kernel) rfl rfl ?_
    refine Z_iconst (a := 1) (v := 1) (q := 17) (by decide +kernel) (by decide +kernel) rfl ?_
    refine Z_isub (q := 18) (by decide +kernel) rfl ?_
    obtain ⟨Q1, hm, h⟩ := h
    refine Z_callVi (M2 := mX11_isBefore) (idx := 298) (d2 := d) (ci := 11) (As := [.int _, .int _]) (q := 21) (by decide +kernel) kX11_isBefore lX11_298 rfl rfl (by decide) rfl rfl (by decide +kernel) (Nat.le_of_ble_eq_true rfl) (Nat.le_refl _) hm rfl (fun v6 iv2 rv3 lv4 hq => ?_)
    obtain ⟨hT5, h⟩ := h v6 iv2 rv3 lv4 hq
    refine Z_if_eq (t := 94) (off := 73) (q := 24) (by decide +kernel) (by decide) rfl (fun hc => ?_) (fun hc => ?_)
    · replace h := h.1 hc
      refine Z_iinc (a := 2) (b := 1) (v := _ + 1) (loc2 := [_, _, _, _, _, _, _]) (q := 97) (by decide +kernel) rfl (zinc _) (by decide +kernel) rfl rfl rfl ?_
      refine Z_goto (q := 2) (off := -95) (by decide +kernel) (by decide) ?_
      exact Z_forget h (And.intro rfl (And.intro rfl (And.intro rfl trivial)))
    · replace h := h.2 hc
      refine Z_aload_n (a := 0) (q := 25) (by decide +kernel) rfl rfl ?_
      refine g11_41 (idx := 72) (q := 28) (by decide +kernel) fX11_72 rfl (by decide) (t11_41 hT5) rfl ?_
      refine Z_iload_n (a := 3) (q := 29) (by decide +kernel) rfl rfl ?_
      obtain ⟨hin7, h⟩ := h
      refine Z_iald (len := 4) (q := 30) (by decide +kernel) rfl (by decide) hin7 rfl ?_
      refine Z_istore (a := 4) (loc2 := [_, _, _, _, _, _, _]) (q := 32) (by decide +kernel) (by decide +kernel) rfl rfl rfl ?_
      refine Z_aload_n (a := 0) (q := 33) (by decide +kernel) rfl rfl ?_
      refine g11_42 (idx := 75) (q := 36) (by decide +kernel) fX11_75 rfl (by decide) (t11_42 hT5) rfl ?_
      refine Z_iload_n (a := 3) (q := 37) (by decide +kernel) rfl rfl ?_
      refine Z_iald (len := 4) (q := 38) (by decide +kernel) rfl (by decide) hin7 rfl ?_
      refine Z_istore (a := 5) (loc2 := [_, _, _, _, _, _, _]) (q := 40) (by decide +kernel) (by decide +kernel) rfl rfl rfl ?_
      refine Z_aload_n (a := 0) (q := 41) (by decide +kernel) rfl rfl ?_
      refine g11_41 (idx := 72) (q := 44) (by decide +kernel) fX11_72 rfl (by decide) (t11_41 hT5) rfl ?_
      refine Z_iload_n (a := 3) (q := 45) (by decide +kernel) rfl rfl ?_
      refine Z_aload_n (a := 0) (q := 46) (by decide +kernel) rfl rfl ?_
      refine g11_41 (idx := 72) (q := 49) (by decide +kernel) fX11_72 rfl (by decide) (t11_41 hT5) rfl ?_
      refine Z_iload_n (a := 3) (q := 50) (by decide +kernel) rfl rfl ?_
      refine Z_iconst (a := 1) (v := 1) (q := 51) (by decide +kernel) (by decide +kernel) rfl ?_
      refine Z_isub (q := 52) (by decide +kernel) rfl ?_
      obtain ⟨hin8, h⟩ := h
      refine Z_iald (len := 4) (q := 53) (by decide +kernel) rfl (by decide) hin8 rfl ?_
      refine Z_iast (len := 4) (q := 54) (by decide +kernel) rfl (by decide) hin7 rfl ?_
      replace h := h _ rfl
      refine Z_aload_n (a := 0) (q := 55) (by decide +kernel) rfl rfl ?_
      refine g11_42 (idx := 75) (q := 58) (by decide +kernel) fX11_75 rfl (by decide) (t11_42 hT5) rfl ?_
      refine Z_iload_n (a := 3) (q := 59) (by decide +kernel) rfl rfl ?_
      refine Z_aload_n (a := 0) (q := 60) (by decide +kernel) rfl rfl ?_
      refine g11_42 (idx := 75) (q := 63) (by decide +kernel) fX11_75 rfl (by decide) (t11_42 hT5) rfl ?_
      refine Z_iload_n (a := 3) (q := 64) (by decide +kernel) rfl rfl ?_
      refine Z_iconst (a := 1) (v := 1) (q := 65) (by decide +kernel) (by decide +kernel) rfl ?_
      refine Z_isub (q := 66) (by decide +kernel) rfl ?_
      refine Z_iald (len := 4) (q := 67) (by decide +kernel) rfl (by decide) hin8 rfl ?_
      refine Z_iast (len := 4) (q := 68) (by decide +kernel) rfl (by decide) hin7 rfl ?_
      replace h := h _ rfl
      refine Z_aload_n (a := 0) (q := 69) (by decide +kernel) rfl rfl ?_
      refine g11_41 (idx := 72) (q := 72) (by decide +kernel) fX11_72 rfl (by decide) (t11_41 hT5) rfl ?_
      refine Z_iload_n (a := 3) (q := 73) (by decide +kernel) rfl rfl ?_
      refine Z_iconst (a := 1) (v := 1) (q := 74) (by decide +kernel) (by decide +kernel) rfl ?_
      refine Z_isub (q := 75) (by decide +kernel) rfl ?_
      refine Z_iload (a := 4) (q := 77) (by decide +kernel) rfl rfl ?_
      refine Z_iast (len := 4) (q := 78) (by decide +kernel) rfl (by decide) hin8 rfl ?_
      replace h := h _ rfl
      refine Z_aload_n (a := 0) (q := 79) (by decide +kernel) rfl rfl ?_
      refine g11_42 (idx := 75) (q := 82) (by decide +kernel) fX11_75 rfl (by decide) (t11_42 hT5) rfl ?_
      refine Z_iload_n (a := 3) (q := 83) (by decide +kernel) rfl rfl ?_
      refine Z_iconst (a := 1) (v := 1) (q := 84) (by decide +kernel) (by decide +kernel) rfl ?_
      refine Z_isub (q := 85) (by decide +kernel) rfl ?_
      refine Z_iload (a := 5) (q := 87) (by decide +kernel) rfl rfl ?_
      refine Z_iast (len := 4) (q := 88) (by decide +kernel) rfl (by decide) hin8 rfl ?_
      replace h := h _ rfl
      refine Z_iinc (a := 3) (b := -1) (v := _ + -1) (loc2 := [_, _, _, _, _, _, _]) (q := 91) (by decide +kernel) rfl (zdec _) (by decide +kernel) rfl rfl rfl ?_
      refine Z_goto (q := 9) (off := -82) (by decide +kernel) (by decide) ?_
      exact Z_forget h (And.intro rfl (And.intro rfl (And.intro rfl (And.intro rfl trivial))))
set_option maxRecDepth 4000 in
theorem bX11_places_114 {d : Nat} (x1 : Int32) (x2 : Int32) (x3 : Int32) (x4 : Int32) {iv : zI} {rv : zR} {lv : zJ} {Q : zI → zR → zJ → Prop} (hT : zTop rv) 
    (h : (x1 ≤ x4 → Zv mX11_places (d + 1) 161 [some (.ref 174), some (.int x1), some (.int x2), some (.int x3), some (.int (iv 194 0)), some (.int (iv 174 43)), none] [] iv rv lv Q) ∧ (¬ x1 ≤ x4 → vp_in x4 4 ∧ (∀ iv2 : zI, iv2 = zu iv 194 x4.toNatClampNeg ((iv 194 x4.toNatClampNeg) - x2) → Zv mX11_places (d + 1) 114 [some (.ref 174), some (.int x1), some (.int x2), some (.int (x3 ||| (iv2 195 x4.toNatClampNeg))), some (.int (x4 + 1)), none, none] [] iv2 rv lv Q))) :
    Zv mX11_places (d + 1) 114 [some (.ref 174), some (.int x1), some (.int x2), some (.int x3), some (.int x4), none, none] [] iv rv lv Q := by
  unfold Zv
  refine Z_iload (a := 4) (q := 116) (by decide +kernel) rfl rfl ?_
  refine Z_iload_n (a := 1) (q := 117) (by decide +kernel) rfl rfl ?_
  refine Z_icmp_ge (t := 147) (off := 30) (q := 120) (by decide +kernel) (by decide) rfl (fun hc => ?_) (fun hc => ?_)
  · replace h := h.1 hc
    refine Z_aload_n (a := 0) (q := 148) (by decide +kernel) rfl rfl ?_
    refine g11_41 (idx := 72) (q := 151) (by decide +kernel) fX11_72 rfl (by decide) (t11_41 hT) rfl ?_
    refine Z_iconst (a := 0) (v := 0) (q := 152) (by decide +kernel) (by decide +kernel) rfl ?_
    refine Z_iald (len := 4) (q := 153) (by decide +kernel) rfl (by decide) (by unfold vp_in; decide) rfl ?_
    refine Z_istore (a := 4) (loc2 := [_, _, _, _, _, _, _]) (q := 155) (by decide +kernel) (by decide +kernel) rfl rfl rfl ?_
    refine Z_aload_n (a := 0) (q := 156) (by decide +kernel) rfl rfl ?_
    refine g11_43 (idx := 301) (q := 159) (by decide +kernel) fX11_301 rfl (by decide) rfl ?_
    refine Z_istore (a := 5) (loc2 := [_, _, _, _, _, _, _]) (q := 161) (by decide +kernel) (by decide +kernel) rfl rfl rfl ?_
    exact h
  · replace h := h.2 hc
    refine Z_aload_n (a := 0) (q := 121) (by decide +kernel) rfl rfl ?_
    refine g11_41 (idx := 72) (q := 124) (by decide +kernel) fX11_72 rfl (by decide) (t11_41 hT) rfl ?_
    refine Z_iload (a := 4) (q := 126) (by decide +kernel) rfl rfl ?_
    refine Z_dup2 (q := 127) (by decide +kernel) rfl rfl rfl ?_
    obtain ⟨hin1, h⟩ := h
    refine Z_iald (len := 4) (q := 128) (by decide +kernel) rfl (by decide) hin1 rfl ?_
    refine Z_iload_n (a := 2) (q := 129) (by decide +kernel) rfl rfl ?_
    refine Z_isub (q := 130) (by decide +kernel) rfl ?_
    refine Z_iast (len := 4) (q := 131) (by decide +kernel) rfl (by decide) hin1 rfl ?_
    replace h := h _ rfl
    refine Z_iload_n (a := 3) (q := 132) (by decide +kernel) rfl rfl ?_
    refine Z_aload_n (a := 0) (q := 133) (by decide +kernel) rfl rfl ?_
    refine g11_42 (idx := 75) (q := 136) (by decide +kernel) fX11_75 rfl (by decide) (t11_42 hT) rfl ?_
    refine Z_iload (a := 4) (q := 138) (by decide +kernel) rfl rfl ?_
    refine Z_iald (len := 4) (q := 139) (by decide +kernel) rfl (by decide) hin1 rfl ?_
    refine Z_ior (q := 140) (by decide +kernel) rfl ?_
    refine Z_istore_n (a := 3) (loc2 := [_, _, _, _, _, _, _]) (q := 141) (by decide +kernel) (by decide +kernel) rfl rfl rfl ?_
    refine Z_iinc (a := 4) (b := 1) (v := _ + 1) (loc2 := [_, _, _, _, _, _, _]) (q := 144) (by decide +kernel) rfl (zinc _) (by decide +kernel) rfl rfl rfl ?_
    refine Z_goto (q := 114) (off := -30) (by decide +kernel) (by decide) ?_
    exact h
set_option maxRecDepth 4000 in
theorem bX11_places_161 {d : Nat} (x1 : Int32) (x2 : Int32) (x3 : Int32) (x4 : Int32) (x5 : Int32) {iv : zI} {rv : zR} {lv : zJ} {Q : zI → zR → zJ → Prop} (hT : zTop rv) 
    (h : (x5 ≤ 0 → Zv mX11_places (d + 1) 288 [some (.ref 174), some (.int x1), some (.int x2), some (.int x3), some (.int x4), some (.int x5), some (.int (0 : Int32))] [] iv rv lv Q) ∧ (¬ x5 ≤ 0 → ∃ Q1 : Int32 → zI → zR → zJ → Prop, Ci mX11_width d [.ref 174, .int (x5 - (1 : Int32)), .int x1] iv rv lv Q1 ∧ ∀ (v6 : Int32) (iv2 : zI) (rv3 : zR) (lv4 : zJ), Q1 v6 iv2 rv3 lv4 → zTop rv3 ∧ ((v6 < x4 → Zv mX11_places (d + 1) 215 [some (.ref 174), some (.int x1), some (.int x2), some (.int x3), some (.int x4), some (.int x5), some (.int (0 : Int32))] [] iv2 rv3 lv4 Q) ∧ (¬ v6 < x4 → ∃ Q7 : Int32 → zI → zR → zJ → Prop, Ci mX11_width d [.ref 174, .int (x5 - (1 : Int32)), .int x1] iv2 rv3 lv4 Q7 ∧ ∀ (v12 : Int32) (iv8 : zI) (rv9 : zR) (lv10 : zJ), Q7 v12 iv8 rv9 lv10 → zTop rv9 ∧ ((¬ x4 = v12 → Zv mX11_places (d + 1) 288 [some (.ref 174), some (.int x1), some (.int x2), some (.int x3), some (.int x4), some (.int x5), some (.int (0 : Int32))] [] iv8 rv9 lv10 Q) ∧ (x4 = v12 → ∃ Q13 : Int32 → zI → zR → zJ → Prop, Ci mX11_lowest d [.int x3] iv8 rv9 lv10 Q13 ∧ ∀ (v18 : Int32) (iv14 : zI) (rv15 : zR) (lv16 : zJ), Q13 v18 iv14 rv15 lv16 → zTop rv15 ∧ (∃ Q19 : Int32 → zI → zR → zJ → Prop, Ci mX11_setOf d [.ref 174, .int (x5 - (1 : Int32))] iv14 rv15 lv16 Q19 ∧ ∀ (v24 : Int32) (iv20 : zI) (rv21 : zR) (lv22 : zJ), Q19 v24 iv20 rv21 lv22 → zTop rv21 ∧ (∃ Q25 : Int32 → zI → zR → zJ → Prop, Ci mX11_lowest d [.int v24] iv20 rv21 lv22 Q25 ∧ ∀ (v30 : Int32) (iv26 : zI) (rv27 : zR) (lv28 : zJ), Q25 v30 iv26 rv27 lv28 → zTop rv27 ∧ ((v30 ≤ v18 → Zv mX11_places (d + 1) 288 [some (.ref 174), some (.int x1), some (.int x2), some (.int x3), some (.int x4), some (.int x5), some (.int (0 : Int32))] [] iv26 rv27 lv28 Q) ∧ (¬ v30 ≤ v18 → Zv mX11_places (d + 1) 215 [some (.ref 174), some (.int x1), some (.int x2), some (.int x3), some (.int x4), some (.int x5), some (.int (0 : Int32))] [] iv26 rv27 lv28 Q)))))))))) :
    Zv mX11_places (d + 1) 161 [some (.ref 174), some (.int x1), some (.int x2), some (.int x3), some (.int x4), some (.int x5), none] [] iv rv lv Q := by
  unfold Zv
  refine Z_iload (a := 5) (q := 163) (by decide +kernel) rfl rfl ?_
  refine Z_if_le (t := 285) (off := 122) (q := 166) (by decide +kernel) (by decide) rfl (fun hc => ?_) (fun hc => ?_)
  · replace h := h.1 hc
    refine Z_iconst (a := 0) (v := 0) (q := 286) (by decide +kernel) (by decide +kernel) rfl ?_
    refine Z_istore (a := 6) (loc2 := [_, _, _, _, _, _, _]) (q := 288) (by decide +kernel) (by decide +kernel) rfl rfl rfl ?_
    exact h
  · replace h := h.2 hc
    refine Z_iload (a := 4) (q := 168) (by decide +kernel) rfl rfl ?_
    refine Z_aload_n (a := 0) (q := 169) (by decide +kernel) rfl rfl ?_
    refine Z_iload (a := 5) (q := 171) (by decide +kernel) rfl rfl ?_
    refine Z_iconst (a := 1) (v := 1) (q := 172) (by decide +kernel) (by decide +kernel) rfl ?_
    refine Z_isub (q := 173) (by decide +kernel) rfl ?_
    refine Z_iload_n (a := 1) (q := 174) (by decide +kernel) rfl rfl ?_
    obtain ⟨Q1, hm, h⟩ := h
    refine Z_callVi (M2 := mX11_width) (idx := 304) (d2 := d) (ci := 11) (As := [.int _, .int _]) (q := 177) (by decide +kernel) kX11_width lX11_304 rfl rfl (by decide) rfl rfl (by decide +kernel) (Nat.le_of_ble_eq_true rfl) (Nat.le_refl _) hm rfl (fun v6 iv2 rv3 lv4 hq => ?_)
    obtain ⟨hT5, h⟩ := h v6 iv2 rv3 lv4 hq
    refine Z_icmp_gt (t := 212) (off := 35) (q := 180) (by decide +kernel) (by decide) rfl (fun hc => ?_) (fun hc => ?_)
    · replace h := h.1 hc
      refine Z_iconst (a := 0) (v := 0) (q := 213) (by decide +kernel) (by decide +kernel) rfl ?_
      refine Z_istore (a := 6) (loc2 := [_, _, _, _, _, _, _]) (q := 215) (by decide +kernel) (by decide +kernel) rfl rfl rfl ?_
      exact h
    · replace h := h.2 hc
      refine Z_iload (a := 4) (q := 182) (by decide +kernel) rfl rfl ?_
      refine Z_aload_n (a := 0) (q := 183) (by decide +kernel) rfl rfl ?_
      refine Z_iload (a := 5) (q := 185) (by decide +kernel) rfl rfl ?_
      refine Z_iconst (a := 1) (v := 1) (q := 186) (by decide +kernel) (by decide +kernel) rfl ?_
      refine Z_isub (q := 187) (by decide +kernel) rfl ?_
      refine Z_iload_n (a := 1) (q := 188) (by decide +kernel) rfl rfl ?_
      obtain ⟨Q7, hm, h⟩ := h
      refine Z_callVi (M2 := mX11_width) (idx := 304) (d2 := d) (ci := 11) (As := [.int _, .int _]) (q := 191) (by decide +kernel) kX11_width lX11_304 rfl rfl (by decide) rfl rfl (by decide +kernel) (Nat.le_of_ble_eq_true rfl) (Nat.le_refl _) hm rfl (fun v12 iv8 rv9 lv10 hq => ?_)
      obtain ⟨hT11, h⟩ := h v12 iv8 rv9 lv10 hq
      refine Z_icmp_ne (t := 285) (off := 94) (q := 194) (by decide +kernel) (by decide) rfl (fun hc => ?_) (fun hc => ?_)
      · replace h := h.1 hc
        refine Z_iconst (a := 0) (v := 0) (q := 286) (by decide +kernel) (by decide +kernel) rfl ?_
        refine Z_istore (a := 6) (loc2 := [_, _, _, _, _, _, _]) (q := 288) (by decide +kernel) (by decide +kernel) rfl rfl rfl ?_
        exact h
      · replace h := h.2 hc
        refine Z_iload_n (a := 3) (q := 195) (by decide +kernel) rfl rfl ?_
        obtain ⟨Q13, hm, h⟩ := h
        refine Z_callSi (M2 := mX11_lowest) (idx := 247) (d2 := d) (As := [.int _]) (q := 198) (by decide +kernel) kX11_lowest lX11_247 rfl rfl (by decide +kernel) (Nat.le_of_ble_eq_true rfl) (Nat.le_refl _) hm rfl (fun v18 iv14 rv15 lv16 hq => ?_)
        obtain ⟨hT17, h⟩ := h v18 iv14 rv15 lv16 hq
        refine Z_aload_n (a := 0) (q := 199) (by decide +kernel) rfl rfl ?_
        refine Z_iload (a := 5) (q := 201) (by decide +kernel) rfl rfl ?_
        refine Z_iconst (a := 1) (v := 1) (q := 202) (by decide +kernel) (by decide +kernel) rfl ?_
        refine Z_isub (q := 203) (by decide +kernel) rfl ?_
        obtain ⟨Q19, hm, h⟩ := h
        refine Z_callVi (M2 := mX11_setOf) (idx := 307) (d2 := d) (ci := 11) (As := [.int _]) (q := 206) (by decide +kernel) kX11_setOf lX11_307 rfl rfl (by decide) rfl rfl (by decide +kernel) (Nat.le_of_ble_eq_true rfl) (Nat.le_refl _) hm rfl (fun v24 iv20 rv21 lv22 hq => ?_)
        obtain ⟨hT23, h⟩ := h v24 iv20 rv21 lv22 hq
        obtain ⟨Q25, hm, h⟩ := h
        refine Z_callSi (M2 := mX11_lowest) (idx := 247) (d2 := d) (As := [.int _]) (q := 209) (by decide +kernel) kX11_lowest lX11_247 rfl rfl (by decide +kernel) (Nat.le_of_ble_eq_true rfl) (Nat.le_refl _) hm rfl (fun v30 iv26 rv27 lv28 hq => ?_)
        obtain ⟨hT29, h⟩ := h v30 iv26 rv27 lv28 hq
        refine Z_icmp_ge (t := 285) (off := 76) (q := 212) (by decide +kernel) (by decide) rfl (fun hc => ?_) (fun hc => ?_)
        · replace h := h.1 hc
          refine Z_iconst (a := 0) (v := 0) (q := 286) (by decide +kernel) (by decide +kernel) rfl ?_
          refine Z_istore (a := 6) (loc2 := [_, _, _, _, _, _, _]) (q := 288) (by decide +kernel) (by decide +kernel) rfl rfl rfl ?_
          exact h
        · replace h := h.2 hc
          refine Z_iconst (a := 0) (v := 0) (q := 213) (by decide +kernel) (by decide +kernel) rfl ?_
          refine Z_istore (a := 6) (loc2 := [_, _, _, _, _, _, _]) (q := 215) (by decide +kernel) (by decide +kernel) rfl rfl rfl ?_
          exact h
set_option maxRecDepth 4000 in
theorem bX11_places_215 {d : Nat} (x1 : Int32) (x2 : Int32) (x3 : Int32) (x4 : Int32) (x5 : Int32) (x6 : Int32) {iv : zI} {rv : zR} {lv : zJ} {Q : zI → zR → zJ → Prop} (hT : zTop rv) 
    (h : ((4 : Int32) ≤ x6 → Zv mX11_places (d + 1) 161 [some (.ref 174), some (.int x1), some (.int x2), some (.int x3), some (.int x4), some (.int (x5 + -1)), none] [] iv rv lv Q) ∧ (¬ (4 : Int32) ≤ x6 → vp_in (((4 : Int32) * (x5 - (1 : Int32))) + x6) 40 ∧ (vp_in (((4 : Int32) * x5) + x6) 40 ∧ (∀ iv3 : zI, iv3 = zu iv 192 (((4 : Int32) * x5) + x6).toNatClampNeg (iv 192 (((4 : Int32) * (x5 - (1 : Int32))) + x6).toNatClampNeg) → ∀ iv4 : zI, iv4 = zu iv3 193 (((4 : Int32) * x5) + x6).toNatClampNeg (iv3 193 (((4 : Int32) * (x5 - (1 : Int32))) + x6).toNatClampNeg) → Zv mX11_places (d + 1) 215 [some (.ref 174), some (.int x1), some (.int x2), some (.int x3), some (.int x4), some (.int x5), some (.int (x6 + 1))] [] iv4 rv lv Q)))) :
    Zv mX11_places (d + 1) 215 [some (.ref 174), some (.int x1), some (.int x2), some (.int x3), some (.int x4), some (.int x5), some (.int x6)] [] iv rv lv Q := by
  unfold Zv
  refine Z_iload (a := 6) (q := 217) (by decide +kernel) rfl rfl ?_
  refine Z_iconst (a := 4) (v := 4) (q := 218) (by decide +kernel) (by decide +kernel) rfl ?_
  refine Z_icmp_ge (t := 279) (off := 61) (q := 221) (by decide +kernel) (by decide) rfl (fun hc => ?_) (fun hc => ?_)
  · replace h := h.1 hc
    refine Z_iinc (a := 5) (b := -1) (v := _ + -1) (loc2 := [_, _, _, _, _, _, _]) (q := 282) (by decide +kernel) rfl (zdec _) (by decide +kernel) rfl rfl rfl ?_
    refine Z_goto (q := 161) (off := -121) (by decide +kernel) (by decide) ?_
    exact Z_forget h (And.intro rfl (And.intro rfl (And.intro rfl (And.intro rfl (And.intro rfl (And.intro rfl trivial))))))
  · replace h := h.2 hc
    refine Z_aload_n (a := 0) (q := 222) (by decide +kernel) rfl rfl ?_
    refine g11_39 (idx := 66) (q := 225) (by decide +kernel) fX11_66 rfl (by decide) (t11_39 hT) rfl ?_
    refine Z_iconst (a := 4) (v := 4) (q := 226) (by decide +kernel) (by decide +kernel) rfl ?_
    refine Z_iload (a := 5) (q := 228) (by decide +kernel) rfl rfl ?_
    refine Z_imul (q := 229) (by decide +kernel) rfl ?_
    refine Z_iload (a := 6) (q := 231) (by decide +kernel) rfl rfl ?_
    refine Z_iadd (q := 232) (by decide +kernel) rfl ?_
    refine Z_aload_n (a := 0) (q := 233) (by decide +kernel) rfl rfl ?_
    refine g11_39 (idx := 66) (q := 236) (by decide +kernel) fX11_66 rfl (by decide) (t11_39 hT) rfl ?_
    refine Z_iconst (a := 4) (v := 4) (q := 237) (by decide +kernel) (by decide +kernel) rfl ?_
    refine Z_iload (a := 5) (q := 239) (by decide +kernel) rfl rfl ?_
    refine Z_iconst (a := 1) (v := 1) (q := 240) (by decide +kernel) (by decide +kernel) rfl ?_
    refine Z_isub (q := 241) (by decide +kernel) rfl ?_
    refine Z_imul (q := 242) (by decide +kernel) rfl ?_
    refine Z_iload (a := 6) (q := 244) (by decide +kernel) rfl rfl ?_
    refine Z_iadd (q := 245) (by decide +kernel) rfl ?_
    obtain ⟨hin1, h⟩ := h
    refine Z_iald (len := 40) (q := 246) (by decide +kernel) rfl (by decide) hin1 rfl ?_
    obtain ⟨hin2, h⟩ := h
    refine Z_iast (len := 40) (q := 247) (by decide +kernel) rfl (by decide) hin2 rfl ?_
    replace h := h _ rfl
    refine Z_aload_n (a := 0) (q := 248) (by decide +kernel) rfl rfl ?_
    refine g11_40 (idx := 69) (q := 251) (by decide +kernel) fX11_69 rfl (by decide) (t11_40 hT) rfl ?_
    refine Z_iconst (a := 4) (v := 4) (q := 252) (by decide +kernel) (by decide +kernel) rfl ?_
    refine Z_iload (a := 5) (q := 254) (by decide +kernel) rfl rfl ?_
    refine Z_imul (q := 255) (by decide +kernel) rfl ?_
    refine Z_iload (a := 6) (q := 257) (by decide +kernel) rfl rfl ?_
    refine Z_iadd (q := 258) (by decide +kernel) rfl ?_
    refine Z_aload_n (a := 0) (q := 259) (by decide +kernel) rfl rfl ?_
    refine g11_40 (idx := 69) (q := 262) (by decide +kernel) fX11_69 rfl (by decide) (t11_40 hT) rfl ?_
    refine Z_iconst (a := 4) (v := 4) (q := 263) (by decide +kernel) (by decide +kernel) rfl ?_
    refine Z_iload (a := 5) (q := 265) (by decide +kernel) rfl rfl ?_
    refine Z_iconst (a := 1) (v := 1) (q := 266) (by decide +kernel) (by decide +kernel) rfl ?_
    refine Z_isub (q := 267) (by decide +kernel) rfl ?_
    refine Z_imul (q := 268) (by decide +kernel) rfl ?_
    refine Z_iload (a := 6) (q := 270) (by decide +kernel) rfl rfl ?_
    refine Z_iadd (q := 271) (by decide +kernel) rfl ?_
    refine Z_iald (len := 40) (q := 272) (by decide +kernel) rfl (by decide) hin1 rfl ?_
    refine Z_iast (len := 40) (q := 273) (by decide +kernel) rfl (by decide) hin2 rfl ?_
    replace h := h _ rfl
    refine Z_iinc (a := 6) (b := 1) (v := _ + 1) (loc2 := [_, _, _, _, _, _, _]) (q := 276) (by decide +kernel) rfl (zinc _) (by decide +kernel) rfl rfl rfl ?_
    refine Z_goto (q := 215) (off := -61) (by decide +kernel) (by decide) ?_
    exact h
set_option maxRecDepth 4000 in
theorem bX11_places_288 {d : Nat} (x1 : Int32) (x2 : Int32) (x3 : Int32) (x4 : Int32) (x5 : Int32) (x6 : Int32) {iv : zI} {rv : zR} {lv : zJ} {Q : zI → zR → zJ → Prop} (hT : zTop rv) 
    (h : ((4 : Int32) ≤ x6 → ∀ iv1 : zI, iv1 = zu iv 174 43 ((iv 174 43) + (1 : Int32)) → Q iv1 rv lv) ∧ (¬ (4 : Int32) ≤ x6 → (x1 ≤ x6 → Zv mX11_places (d + 1) 322 [some (.ref 174), some (.int x1), some (.int x2), some (.int x3), some (.int x4), some (.int x5), some (.int x6)] [.int (0 : Int32), .int (((4 : Int32) * x5) + x6), .ref 192] iv rv lv Q) ∧ (¬ x1 ≤ x6 → vp_in x6 4 ∧ (Zv mX11_places (d + 1) 322 [some (.ref 174), some (.int x1), some (.int x2), some (.int x3), some (.int x4), some (.int x5), some (.int x6)] [.int (iv 194 x6.toNatClampNeg), .int (((4 : Int32) * x5) + x6), .ref 192] iv rv lv Q)))) :
    Zv mX11_places (d + 1) 288 [some (.ref 174), some (.int x1), some (.int x2), some (.int x3), some (.int x4), some (.int x5), some (.int x6)] [] iv rv lv Q := by
  unfold Zv
  refine Z_iload (a := 6) (q := 290) (by decide +kernel) rfl rfl ?_
  refine Z_iconst (a := 4) (v := 4) (q := 291) (by decide +kernel) (by decide +kernel) rfl ?_
  refine Z_icmp_ge (t := 358) (off := 67) (q := 294) (by decide +kernel) (by decide) rfl (fun hc => ?_) (fun hc => ?_)
  · replace h := h.1 hc
    refine Z_aload_n (a := 0) (q := 359) (by decide +kernel) rfl rfl ?_
    refine Z_dup (q := 360) (by decide +kernel) rfl rfl ?_
    refine g11_43 (idx := 301) (q := 363) (by decide +kernel) fX11_301 rfl (by decide) rfl ?_
    refine Z_iconst (a := 1) (v := 1) (q := 364) (by decide +kernel) (by decide +kernel) rfl ?_
    refine Z_iadd (q := 365) (by decide +kernel) rfl ?_
    refine p11_43 (idx := 301) (q := 368) (by decide +kernel) fX11_301 rfl (by decide) rfl ?_
    replace h := h _ rfl
    exact Z_vret (by decide +kernel) rfl rfl ⟨rfl, h⟩
  · replace h := h.2 hc
    refine Z_aload_n (a := 0) (q := 295) (by decide +kernel) rfl rfl ?_
    refine g11_39 (idx := 66) (q := 298) (by decide +kernel) fX11_66 rfl (by decide) (t11_39 hT) rfl ?_
    refine Z_iconst (a := 4) (v := 4) (q := 299) (by decide +kernel) (by decide +kernel) rfl ?_
    refine Z_iload (a := 5) (q := 301) (by decide +kernel) rfl rfl ?_
    refine Z_imul (q := 302) (by decide +kernel) rfl ?_
    refine Z_iload (a := 6) (q := 304) (by decide +kernel) rfl rfl ?_
    refine Z_iadd (q := 305) (by decide +kernel) rfl ?_
    refine Z_iload (a := 6) (q := 307) (by decide +kernel) rfl rfl ?_
    refine Z_iload_n (a := 1) (q := 308) (by decide +kernel) rfl rfl ?_
    refine Z_icmp_ge (t := 321) (off := 13) (q := 311) (by decide +kernel) (by decide) rfl (fun hc => ?_) (fun hc => ?_)
    · replace h := h.1 hc
      refine Z_iconst (a := 0) (v := 0) (q := 322) (by decide +kernel) (by decide +kernel) rfl ?_
      exact h
    · replace h := h.2 hc
      refine Z_aload_n (a := 0) (q := 312) (by decide +kernel) rfl rfl ?_
      refine g11_41 (idx := 72) (q := 315) (by decide +kernel) fX11_72 rfl (by decide) (t11_41 hT) rfl ?_
      refine Z_iload (a := 6) (q := 317) (by decide +kernel) rfl rfl ?_
      obtain ⟨hin2, h⟩ := h
      refine Z_iald (len := 4) (q := 318) (by decide +kernel) rfl (by decide) hin2 rfl ?_
      refine Z_goto (q := 322) (off := 4) (by decide +kernel) (by decide) ?_
      exact h
set_option maxRecDepth 4000 in
theorem bX11_places_322 {d : Nat} (x1 : Int32) (x2 : Int32) (x3 : Int32) (x4 : Int32) (x5 : Int32) (x6 : Int32) (y0 : Int32) (y1 : Int32) (y2 l_y2 : Nat) {iv : zI} {rv : zR} {lv : zJ} {Q : zI → zR → zJ → Prop} (hT : zTop rv) (s_y2 : zSH y2 = (0, l_y2)) (a_y2 : y2 < 200)
    (h : vp_in y1 l_y2 ∧ (∀ iv2 : zI, iv2 = zu iv y2 y1.toNatClampNeg y0 → (x1 ≤ x6 → vp_in (((4 : Int32) * x5) + x6) 40 ∧ (∀ iv4 : zI, iv4 = zu iv2 193 (((4 : Int32) * x5) + x6).toNatClampNeg (0 : Int32) → Zv mX11_places (d + 1) 288 [some (.ref 174), some (.int x1), some (.int x2), some (.int x3), some (.int x4), some (.int x5), some (.int (x6 + 1))] [] iv4 rv lv Q)) ∧ (¬ x1 ≤ x6 → vp_in x6 4 ∧ (vp_in (((4 : Int32) * x5) + x6) 40 ∧ (∀ iv7 : zI, iv7 = zu iv2 193 (((4 : Int32) * x5) + x6).toNatClampNeg (iv2 195 x6.toNatClampNeg) → Zv mX11_places (d + 1) 288 [some (.ref 174), some (.int x1), some (.int x2), some (.int x3), some (.int x4), some (.int x5), some (.int (x6 + 1))] [] iv7 rv lv Q))))) :
    Zv mX11_places (d + 1) 322 [some (.ref 174), some (.int x1), some (.int x2), some (.int x3), some (.int x4), some (.int x5), some (.int x6)] [.int y0, .int y1, .ref y2] iv rv lv Q := by
  unfold Zv
  obtain ⟨hin1, h⟩ := h
  refine Z_iast (len := l_y2) (q := 323) (by decide +kernel) s_y2 a_y2 hin1 rfl ?_
  replace h := h _ rfl
  refine Z_aload_n (a := 0) (q := 324) (by decide +kernel) rfl rfl ?_
  refine g11_40 (idx := 69) (q := 327) (by decide +kernel) fX11_69 rfl (by decide) (t11_40 hT) rfl ?_
  refine Z_iconst (a := 4) (v := 4) (q := 328) (by decide +kernel) (by decide +kernel) rfl ?_
  refine Z_iload (a := 5) (q := 330) (by decide +kernel) rfl rfl ?_
  refine Z_imul (q := 331) (by decide +kernel) rfl ?_
  refine Z_iload (a := 6) (q := 333) (by decide +kernel) rfl rfl ?_
  refine Z_iadd (q := 334) (by decide +kernel) rfl ?_
  refine Z_iload (a := 6) (q := 336) (by decide +kernel) rfl rfl ?_
  refine Z_iload_n (a := 1) (q := 337) (by decide +kernel) rfl rfl ?_
  refine Z_icmp_ge (t := 350) (off := 13) (q := 340) (by decide +kernel) (by decide) rfl (fun hc => ?_) (fun hc => ?_)
  · replace h := h.1 hc
    refine Z_iconst (a := 0) (v := 0) (q := 351) (by decide +kernel) (by decide +kernel) rfl ?_
    obtain ⟨hin3, h⟩ := h
    refine Z_iast (len := 40) (q := 352) (by decide +kernel) rfl (by decide) hin3 rfl ?_
    replace h := h _ rfl
    refine Z_iinc (a := 6) (b := 1) (v := _ + 1) (loc2 := [_, _, _, _, _, _, _]) (q := 355) (by decide +kernel) rfl (zinc _) (by decide +kernel) rfl rfl rfl ?_
    refine Z_goto (q := 288) (off := -67) (by decide +kernel) (by decide) ?_
    exact h
  · replace h := h.2 hc
    refine Z_aload_n (a := 0) (q := 341) (by decide +kernel) rfl rfl ?_
    refine g11_42 (idx := 75) (q := 344) (by decide +kernel) fX11_75 rfl (by decide) (t11_42 hT) rfl ?_
    refine Z_iload (a := 6) (q := 346) (by decide +kernel) rfl rfl ?_
    obtain ⟨hin5, h⟩ := h
    refine Z_iald (len := 4) (q := 347) (by decide +kernel) rfl (by decide) hin5 rfl ?_
    refine Z_goto (q := 351) (off := 4) (by decide +kernel) (by decide) ?_
    obtain ⟨hin6, h⟩ := h
    refine Z_iast (len := 40) (q := 352) (by decide +kernel) rfl (by decide) hin6 rfl ?_
    replace h := h _ rfl
    refine Z_iinc (a := 6) (b := 1) (v := _ + 1) (loc2 := [_, _, _, _, _, _, _]) (q := 355) (by decide +kernel) rfl (zinc _) (by decide +kernel) rfl rfl rfl ?_
    refine Z_goto (q := 288) (off := -67) (by decide +kernel) (by decide) ?_
    exact h
theorem eX11_isBefore {d : Nat} (x1 : Int32) (x2 : Int32) {iv : zI} {rv : zR} {lv : zJ} {Q : Int32 → zI → zR → zJ → Prop} (h : Zi mX11_isBefore (d + 1) 0 [some (.ref 174), some (.int x1), some (.int x2)] [] iv rv lv Q) : Ci mX11_isBefore (d + 1) [.ref 174, .int x1, .int x2] iv rv lv Q := Ci.of (by decide +kernel) (by simp [Value.category]) (Nat.le_of_ble_eq_true rfl) rfl h
set_option maxRecDepth 4000 in
theorem bX11_isBefore_0 {d : Nat} (x1 : Int32) (x2 : Int32) {iv : zI} {rv : zR} {lv : zJ} {Q : Int32 → zI → zR → zJ → Prop} (hT : zTop rv) 
    (h : vp_in x1 4 ∧ (vp_in x2 4 ∧ (((iv 194 x1.toNatClampNeg) = (iv 194 x2.toNatClampNeg) → ∃ Q3 : Int32 → zI → zR → zJ → Prop, Ci mX11_lowest d [.int (iv 195 x1.toNatClampNeg)] iv rv lv Q3 ∧ ∀ (v8 : Int32) (iv4 : zI) (rv5 : zR) (lv6 : zJ), Q3 v8 iv4 rv5 lv6 → zTop rv5 ∧ (∃ Q9 : Int32 → zI → zR → zJ → Prop, Ci mX11_lowest d [.int (iv4 195 x2.toNatClampNeg)] iv4 rv5 lv6 Q9 ∧ ∀ (v14 : Int32) (iv10 : zI) (rv11 : zR) (lv12 : zJ), Q9 v14 iv10 rv11 lv12 → zTop rv11 ∧ ((v14 ≤ v8 → Q (0 : Int32) iv10 rv11 lv12) ∧ (¬ v14 ≤ v8 → Q (1 : Int32) iv10 rv11 lv12)))) ∧ (¬ (iv 194 x1.toNatClampNeg) = (iv 194 x2.toNatClampNeg) → ((iv 194 x1.toNatClampNeg) ≤ (iv 194 x2.toNatClampNeg) → Q (0 : Int32) iv rv lv) ∧ (¬ (iv 194 x1.toNatClampNeg) ≤ (iv 194 x2.toNatClampNeg) → Q (1 : Int32) iv rv lv))))) :
    Zi mX11_isBefore (d + 1) 0 [some (.ref 174), some (.int x1), some (.int x2)] [] iv rv lv Q := by
  unfold Zi
  refine Z_aload_n (a := 0) (q := 1) (by decide +kernel) rfl rfl ?_
  refine g11_41 (idx := 72) (q := 4) (by decide +kernel) fX11_72 rfl (by decide) (t11_41 hT) rfl ?_
  refine Z_iload_n (a := 1) (q := 5) (by decide +kernel) rfl rfl ?_
  obtain ⟨hin1, h⟩ := h
  refine Z_iald (len := 4) (q := 6) (by decide +kernel) rfl (by decide) hin1 rfl ?_
  refine Z_aload_n (a := 0) (q := 7) (by decide +kernel) rfl rfl ?_
  refine g11_41 (idx := 72) (q := 10) (by decide +kernel) fX11_72 rfl (by decide) (t11_41 hT) rfl ?_
  refine Z_iload_n (a := 2) (q := 11) (by decide +kernel) rfl rfl ?_
  obtain ⟨hin2, h⟩ := h
  refine Z_iald (len := 4) (q := 12) (by decide +kernel) rfl (by decide) hin2 rfl ?_
  refine Z_icmp_eq (t := 36) (off := 24) (q := 15) (by decide +kernel) (by decide) rfl (fun hc => ?_) (fun hc => ?_)
  · replace h := h.1 hc
    refine Z_aload_n (a := 0) (q := 37) (by decide +kernel) rfl rfl ?_
    refine g11_42 (idx := 75) (q := 40) (by decide +kernel) fX11_75 rfl (by decide) (t11_42 hT) rfl ?_
    refine Z_iload_n (a := 1) (q := 41) (by decide +kernel) rfl rfl ?_
    refine Z_iald (len := 4) (q := 42) (by decide +kernel) rfl (by decide) hin1 rfl ?_
    obtain ⟨Q3, hm, h⟩ := h
    refine Z_callSi (M2 := mX11_lowest) (idx := 247) (d2 := d) (As := [.int _]) (q := 45) (by decide +kernel) kX11_lowest lX11_247 rfl rfl (by decide +kernel) (Nat.le_of_ble_eq_true rfl) (Nat.le_refl _) hm rfl (fun v8 iv4 rv5 lv6 hq => ?_)
    obtain ⟨hT7, h⟩ := h v8 iv4 rv5 lv6 hq
    refine Z_aload_n (a := 0) (q := 46) (by decide +kernel) rfl rfl ?_
    refine g11_42 (idx := 75) (q := 49) (by decide +kernel) fX11_75 rfl (by decide) (t11_42 hT7) rfl ?_
    refine Z_iload_n (a := 2) (q := 50) (by decide +kernel) rfl rfl ?_
    refine Z_iald (len := 4) (q := 51) (by decide +kernel) rfl (by decide) hin2 rfl ?_
    obtain ⟨Q9, hm, h⟩ := h
    refine Z_callSi (M2 := mX11_lowest) (idx := 247) (d2 := d) (As := [.int _]) (q := 54) (by decide +kernel) kX11_lowest lX11_247 rfl rfl (by decide +kernel) (Nat.le_of_ble_eq_true rfl) (Nat.le_refl _) hm rfl (fun v14 iv10 rv11 lv12 hq => ?_)
    obtain ⟨hT13, h⟩ := h v14 iv10 rv11 lv12 hq
    refine Z_icmp_ge (t := 61) (off := 7) (q := 57) (by decide +kernel) (by decide) rfl (fun hc => ?_) (fun hc => ?_)
    · replace h := h.1 hc
      refine Z_iconst (a := 0) (v := 0) (q := 62) (by decide +kernel) (by decide +kernel) rfl ?_
      exact Z_iret (ty := .boolean) (by decide +kernel) rfl rfl rfl ⟨_, rfl, h⟩
    · replace h := h.2 hc
      refine Z_iconst (a := 1) (v := 1) (q := 58) (by decide +kernel) (by decide +kernel) rfl ?_
      refine Z_goto (q := 62) (off := 4) (by decide +kernel) (by decide) ?_
      exact Z_iret (ty := .boolean) (by decide +kernel) rfl rfl rfl ⟨_, rfl, h⟩
  · replace h := h.2 hc
    refine Z_aload_n (a := 0) (q := 16) (by decide +kernel) rfl rfl ?_
    refine g11_41 (idx := 72) (q := 19) (by decide +kernel) fX11_72 rfl (by decide) (t11_41 hT) rfl ?_
    refine Z_iload_n (a := 1) (q := 20) (by decide +kernel) rfl rfl ?_
    refine Z_iald (len := 4) (q := 21) (by decide +kernel) rfl (by decide) hin1 rfl ?_
    refine Z_aload_n (a := 0) (q := 22) (by decide +kernel) rfl rfl ?_
    refine g11_41 (idx := 72) (q := 25) (by decide +kernel) fX11_72 rfl (by decide) (t11_41 hT) rfl ?_
    refine Z_iload_n (a := 2) (q := 26) (by decide +kernel) rfl rfl ?_
    refine Z_iald (len := 4) (q := 27) (by decide +kernel) rfl (by decide) hin2 rfl ?_
    refine Z_icmp_le (t := 34) (off := 7) (q := 30) (by decide +kernel) (by decide) rfl (fun hc => ?_) (fun hc => ?_)
    · replace h := h.1 hc
      refine Z_iconst (a := 0) (v := 0) (q := 35) (by decide +kernel) (by decide +kernel) rfl ?_
      exact Z_iret (ty := .boolean) (by decide +kernel) rfl rfl rfl ⟨_, rfl, h⟩
    · replace h := h.2 hc
      refine Z_iconst (a := 1) (v := 1) (q := 31) (by decide +kernel) (by decide +kernel) rfl ?_
      refine Z_goto (q := 35) (off := 4) (by decide +kernel) (by decide) ?_
      exact Z_iret (ty := .boolean) (by decide +kernel) rfl rfl rfl ⟨_, rfl, h⟩
theorem eX11_multiplies {d : Nat} (x1 : Int32) {iv : zI} {rv : zR} {lv : zJ} {Q : zI → zR → zJ → Prop} (h : Zv mX11_multiplies (d + 1) 0 [some (.ref 174), some (.int x1), none, none] [] iv rv lv Q) : Cv mX11_multiplies (d + 1) [.ref 174, .int x1] iv rv lv Q := Cv.of (by decide +kernel) (by simp [Value.category]) (Nat.le_of_ble_eq_true rfl) rfl h
set_option maxRecDepth 4000 in
theorem bX11_multiplies_0 {d : Nat} (x1 : Int32) {iv : zI} {rv : zR} {lv : zJ} {Q : zI → zR → zJ → Prop} (hT : zTop rv) 
    (h : ∀ iv1 : zI, iv1 = zu iv 174 43 (0 : Int32) → Zv mX11_multiplies (d + 1) 7 [some (.ref 174), some (.int x1), some (.int (0 : Int32)), none] [] iv1 rv lv Q) :
    Zv mX11_multiplies (d + 1) 0 [some (.ref 174), some (.int x1), none, none] [] iv rv lv Q := by
  unfold Zv
  refine Z_aload_n (a := 0) (q := 1) (by decide +kernel) rfl rfl ?_
  refine Z_iconst (a := 0) (v := 0) (q := 2) (by decide +kernel) (by decide +kernel) rfl ?_
  refine p11_43 (idx := 301) (q := 5) (by decide +kernel) fX11_301 rfl (by decide) rfl ?_
  replace h := h _ rfl
  refine Z_iconst (a := 0) (v := 0) (q := 6) (by decide +kernel) (by decide +kernel) rfl ?_
  refine Z_istore_n (a := 2) (loc2 := [_, _, _, _]) (q := 7) (by decide +kernel) (by decide +kernel) rfl rfl rfl ?_
  exact h
set_option maxRecDepth 4000 in
theorem bX11_multiplies_7 {d : Nat} (x1 : Int32) (x2 : Int32) {iv : zI} {rv : zR} {lv : zJ} {Q : zI → zR → zJ → Prop} (hT : zTop rv) 
    (h : ((iv 176 0) ≤ x2 → Zv mX11_multiplies (d + 1) 77 [some (.ref 174), some (.int x1), some (.int x2), none] [] iv rv lv Q) ∧ (¬ (iv 176 0) ≤ x2 → Zv mX11_multiplies (d + 1) 19 [some (.ref 174), some (.int x1), some (.int x2), some (.int (0 : Int32))] [] iv rv lv Q)) :
    Zv mX11_multiplies (d + 1) 7 [some (.ref 174), some (.int x1), some (.int x2), none] [] iv rv lv Q := by
  unfold Zv
  refine Z_iload_n (a := 2) (q := 8) (by decide +kernel) rfl rfl ?_
  refine Z_aload_n (a := 0) (q := 9) (by decide +kernel) rfl rfl ?_
  refine g11_14 (idx := 17) (q := 12) (by decide +kernel) fX11_17 rfl (by decide) (t11_14 hT) rfl ?_
  refine Z_iconst (a := 0) (v := 0) (q := 13) (by decide +kernel) (by decide +kernel) rfl ?_
  refine Z_iald (len := 35) (q := 14) (by decide +kernel) rfl (by decide) (by unfold vp_in; decide) rfl ?_
  refine Z_icmp_ge (t := 77) (off := 63) (q := 17) (by decide +kernel) (by decide) rfl (fun hc => ?_) (fun hc => ?_)
  · replace h := h.1 hc
    exact h
  · replace h := h.2 hc
    refine Z_iconst (a := 0) (v := 0) (q := 18) (by decide +kernel) (by decide +kernel) rfl ?_
    refine Z_istore_n (a := 3) (loc2 := [_, _, _, _]) (q := 19) (by decide +kernel) (by decide +kernel) rfl rfl rfl ?_
    exact h
set_option maxRecDepth 4000 in
theorem bX11_multiplies_19 {d : Nat} (x1 : Int32) (x2 : Int32) (x3 : Int32) {iv : zI} {rv : zR} {lv : zJ} {Q : zI → zR → zJ → Prop} (hT : zTop rv) 
    (h : (x1 ≤ x3 → ∃ Q1 : zI → zR → zJ → Prop, Cv mX11_places d [.ref 174, .int x1] iv rv lv Q1 ∧ ∀ (iv2 : zI) (rv3 : zR) (lv4 : zJ), Q1 iv2 rv3 lv4 → zTop rv3 ∧ (Zv mX11_multiplies (d + 1) 7 [some (.ref 174), some (.int x1), some (.int (x2 + 1)), none] [] iv2 rv3 lv4 Q)) ∧ (¬ x1 ≤ x3 → (¬ x3 = 0 → Zv mX11_multiplies (d + 1) 42 [some (.ref 174), some (.int x1), some (.int x2), some (.int x3)] [.int (0 : Int32), .int x3, .ref 194] iv rv lv Q) ∧ (x3 = 0 → ∃ Q7 : Int32 → zI → zR → zJ → Prop, Ci mX11_value d [.ref 174, .int x2] iv rv lv Q7 ∧ ∀ (v12 : Int32) (iv8 : zI) (rv9 : zR) (lv10 : zJ), Q7 v12 iv8 rv9 lv10 → zTop rv9 ∧ (Zv mX11_multiplies (d + 1) 42 [some (.ref 174), some (.int x1), some (.int x2), some (.int x3)] [.int v12, .int x3, .ref 194] iv8 rv9 lv10 Q)))) :
    Zv mX11_multiplies (d + 1) 19 [some (.ref 174), some (.int x1), some (.int x2), some (.int x3)] [] iv rv lv Q := by
  unfold Zv
  refine Z_iload_n (a := 3) (q := 20) (by decide +kernel) rfl rfl ?_
  refine Z_iload_n (a := 1) (q := 21) (by decide +kernel) rfl rfl ?_
  refine Z_icmp_ge (t := 66) (off := 45) (q := 24) (by decide +kernel) (by decide) rfl (fun hc => ?_) (fun hc => ?_)
  · replace h := h.1 hc
    refine Z_aload_n (a := 0) (q := 67) (by decide +kernel) rfl rfl ?_
    refine Z_iload_n (a := 1) (q := 68) (by decide +kernel) rfl rfl ?_
    obtain ⟨Q1, hm, h⟩ := h
    refine Z_callVv (M2 := mX11_places) (idx := 310) (d2 := d) (ci := 11) (As := [.int _]) (q := 71) (by decide +kernel) kX11_places lX11_310 rfl rfl (by decide) rfl rfl (by decide +kernel) (Nat.le_of_ble_eq_true rfl) (Nat.le_refl _) hm rfl (fun iv2 rv3 lv4 hq => ?_)
    obtain ⟨hT5, h⟩ := h iv2 rv3 lv4 hq
    refine Z_iinc (a := 2) (b := 1) (v := _ + 1) (loc2 := [_, _, _, _]) (q := 74) (by decide +kernel) rfl (zinc _) (by decide +kernel) rfl rfl rfl ?_
    refine Z_goto (q := 7) (off := -67) (by decide +kernel) (by decide) ?_
    exact Z_forget h (And.intro rfl (And.intro rfl (And.intro rfl trivial)))
  · replace h := h.2 hc
    refine Z_aload_n (a := 0) (q := 25) (by decide +kernel) rfl rfl ?_
    refine g11_41 (idx := 72) (q := 28) (by decide +kernel) fX11_72 rfl (by decide) (t11_41 hT) rfl ?_
    refine Z_iload_n (a := 3) (q := 29) (by decide +kernel) rfl rfl ?_
    refine Z_iload_n (a := 3) (q := 30) (by decide +kernel) rfl rfl ?_
    refine Z_if_ne (t := 41) (off := 11) (q := 33) (by decide +kernel) (by decide) rfl (fun hc => ?_) (fun hc => ?_)
    · replace h := h.1 hc
      refine Z_iconst (a := 0) (v := 0) (q := 42) (by decide +kernel) (by decide +kernel) rfl ?_
      exact h
    · replace h := h.2 hc
      refine Z_aload_n (a := 0) (q := 34) (by decide +kernel) rfl rfl ?_
      refine Z_iload_n (a := 2) (q := 35) (by decide +kernel) rfl rfl ?_
      obtain ⟨Q7, hm, h⟩ := h
      refine Z_callVi (M2 := mX11_value) (idx := 217) (d2 := d) (ci := 11) (As := [.int _]) (q := 38) (by decide +kernel) kX11_value lX11_217 rfl rfl (by decide) rfl rfl (by decide +kernel) (Nat.le_of_ble_eq_true rfl) (Nat.le_refl _) hm rfl (fun v12 iv8 rv9 lv10 hq => ?_)
      obtain ⟨hT11, h⟩ := h v12 iv8 rv9 lv10 hq
      refine Z_goto (q := 42) (off := 4) (by decide +kernel) (by decide) ?_
      exact h
set_option maxRecDepth 4000 in
theorem bX11_multiplies_42 {d : Nat} (x1 : Int32) (x2 : Int32) (x3 : Int32) (y0 : Int32) (y1 : Int32) (y2 l_y2 : Nat) {iv : zI} {rv : zR} {lv : zJ} {Q : zI → zR → zJ → Prop} (hT : zTop rv) (s_y2 : zSH y2 = (0, l_y2)) (a_y2 : y2 < 200)
    (h : vp_in y1 l_y2 ∧ (∀ iv2 : zI, iv2 = zu iv y2 y1.toNatClampNeg y0 → (¬ x3 = 0 → vp_in x3 4 ∧ (∀ iv4 : zI, iv4 = zu iv2 195 x3.toNatClampNeg (0 : Int32) → Zv mX11_multiplies (d + 1) 19 [some (.ref 174), some (.int x1), some (.int x2), some (.int (x3 + 1))] [] iv4 rv lv Q)) ∧ (x3 = 0 → vp_in x3 4 ∧ (∀ iv6 : zI, iv6 = zu iv2 195 x3.toNatClampNeg ((1 : Int32) <<< (x2 &&& 31)) → Zv mX11_multiplies (d + 1) 19 [some (.ref 174), some (.int x1), some (.int x2), some (.int (x3 + 1))] [] iv6 rv lv Q)))) :
    Zv mX11_multiplies (d + 1) 42 [some (.ref 174), some (.int x1), some (.int x2), some (.int x3)] [.int y0, .int y1, .ref y2] iv rv lv Q := by
  unfold Zv
  obtain ⟨hin1, h⟩ := h
  refine Z_iast (len := l_y2) (q := 43) (by decide +kernel) s_y2 a_y2 hin1 rfl ?_
  replace h := h _ rfl
  refine Z_aload_n (a := 0) (q := 44) (by decide +kernel) rfl rfl ?_
  refine g11_42 (idx := 75) (q := 47) (by decide +kernel) fX11_75 rfl (by decide) (t11_42 hT) rfl ?_
  refine Z_iload_n (a := 3) (q := 48) (by decide +kernel) rfl rfl ?_
  refine Z_iload_n (a := 3) (q := 49) (by decide +kernel) rfl rfl ?_
  refine Z_if_ne (t := 58) (off := 9) (q := 52) (by decide +kernel) (by decide) rfl (fun hc => ?_) (fun hc => ?_)
  · replace h := h.1 hc
    refine Z_iconst (a := 0) (v := 0) (q := 59) (by decide +kernel) (by decide +kernel) rfl ?_
    obtain ⟨hin3, h⟩ := h
    refine Z_iast (len := 4) (q := 60) (by decide +kernel) rfl (by decide) hin3 rfl ?_
    replace h := h _ rfl
    refine Z_iinc (a := 3) (b := 1) (v := _ + 1) (loc2 := [_, _, _, _]) (q := 63) (by decide +kernel) rfl (zinc _) (by decide +kernel) rfl rfl rfl ?_
    refine Z_goto (q := 19) (off := -44) (by decide +kernel) (by decide) ?_
    exact h
  · replace h := h.2 hc
    refine Z_iconst (a := 1) (v := 1) (q := 53) (by decide +kernel) (by decide +kernel) rfl ?_
    refine Z_iload_n (a := 2) (q := 54) (by decide +kernel) rfl rfl ?_
    refine Z_ishl (q := 55) (by decide +kernel) rfl ?_
    refine Z_goto (q := 59) (off := 4) (by decide +kernel) (by decide) ?_
    obtain ⟨hin5, h⟩ := h
    refine Z_iast (len := 4) (q := 60) (by decide +kernel) rfl (by decide) hin5 rfl ?_
    replace h := h _ rfl
    refine Z_iinc (a := 3) (b := 1) (v := _ + 1) (loc2 := [_, _, _, _]) (q := 63) (by decide +kernel) rfl (zinc _) (by decide +kernel) rfl rfl rfl ?_
    refine Z_goto (q := 19) (off := -44) (by decide +kernel) (by decide) ?_
    exact h
set_option maxRecDepth 4000 in
theorem bX11_multiplies_77 {d : Nat} (x1 : Int32) (x2 : Int32) {iv : zI} {rv : zR} {lv : zJ} {Q : zI → zR → zJ → Prop} (hT : zTop rv) 
    (h : ((iv 174 43) ≤ (1 : Int32) → Q iv rv lv) ∧ (¬ (iv 174 43) ≤ (1 : Int32) → Zv mX11_multiplies (d + 1) 87 [some (.ref 174), some (.int x1), some (.int (0 : Int32)), none] [] iv rv lv Q)) :
    Zv mX11_multiplies (d + 1) 77 [some (.ref 174), some (.int x1), some (.int x2), none] [] iv rv lv Q := by
  unfold Zv
  refine Z_aload_n (a := 0) (q := 78) (by decide +kernel) rfl rfl ?_
  refine g11_43 (idx := 301) (q := 81) (by decide +kernel) fX11_301 rfl (by decide) rfl ?_
  refine Z_iconst (a := 1) (v := 1) (q := 82) (by decide +kernel) (by decide +kernel) rfl ?_
  refine Z_icmp_le (t := 215) (off := 133) (q := 85) (by decide +kernel) (by decide) rfl (fun hc => ?_) (fun hc => ?_)
  · replace h := h.1 hc
    exact Z_vret (by decide +kernel) rfl rfl ⟨rfl, h⟩
  · replace h := h.2 hc
    refine Z_iconst (a := 0) (v := 0) (q := 86) (by decide +kernel) (by decide +kernel) rfl ?_
    refine Z_istore_n (a := 2) (loc2 := [_, _, _, _]) (q := 87) (by decide +kernel) (by decide +kernel) rfl rfl rfl ?_
    exact h
set_option maxRecDepth 4000 in
theorem bX11_multiplies_87 {d : Nat} (x1 : Int32) (x2 : Int32) {iv : zI} {rv : zR} {lv : zJ} {Q : zI → zR → zJ → Prop} (hT : zTop rv) 
    (h : (x1 ≤ x2 → Zv mX11_multiplies (d + 1) 151 [some (.ref 174), some (.int x1), some (.int (8 : Int32)), none] [] iv rv lv Q) ∧ (¬ x1 ≤ x2 → vp_in x2 40 ∧ (vp_in ((((4 : Int32) + x1) - (1 : Int32)) - x2) 40 ∧ (vp_in x2 4 ∧ (∀ iv4 : zI, iv4 = zu iv 194 x2.toNatClampNeg ((iv 192 x2.toNatClampNeg) + (iv 192 ((((4 : Int32) + x1) - (1 : Int32)) - x2).toNatClampNeg)) → ∀ iv5 : zI, iv5 = zu iv4 195 x2.toNatClampNeg ((iv4 193 x2.toNatClampNeg) ||| (iv4 193 ((((4 : Int32) + x1) - (1 : Int32)) - x2).toNatClampNeg)) → Zv mX11_multiplies (d + 1) 87 [some (.ref 174), some (.int x1), some (.int (x2 + 1)), none] [] iv5 rv lv Q))))) :
    Zv mX11_multiplies (d + 1) 87 [some (.ref 174), some (.int x1), some (.int x2), none] [] iv rv lv Q := by
  unfold Zv
  refine Z_iload_n (a := 2) (q := 88) (by decide +kernel) rfl rfl ?_
  refine Z_iload_n (a := 1) (q := 89) (by decide +kernel) rfl rfl ?_
  refine Z_icmp_ge (t := 148) (off := 59) (q := 92) (by decide +kernel) (by decide) rfl (fun hc => ?_) (fun hc => ?_)
  · replace h := h.1 hc
    refine Z_bipush (a := 8) (v := 8) (q := 150) (by decide +kernel) (by decide +kernel) rfl ?_
    refine Z_istore_n (a := 2) (loc2 := [_, _, _, _]) (q := 151) (by decide +kernel) (by decide +kernel) rfl rfl rfl ?_
    exact h
  · replace h := h.2 hc
    refine Z_aload_n (a := 0) (q := 93) (by decide +kernel) rfl rfl ?_
    refine g11_41 (idx := 72) (q := 96) (by decide +kernel) fX11_72 rfl (by decide) (t11_41 hT) rfl ?_
    refine Z_iload_n (a := 2) (q := 97) (by decide +kernel) rfl rfl ?_
    refine Z_aload_n (a := 0) (q := 98) (by decide +kernel) rfl rfl ?_
    refine g11_39 (idx := 66) (q := 101) (by decide +kernel) fX11_66 rfl (by decide) (t11_39 hT) rfl ?_
    refine Z_iload_n (a := 2) (q := 102) (by decide +kernel) rfl rfl ?_
    obtain ⟨hin1, h⟩ := h
    refine Z_iald (len := 40) (q := 103) (by decide +kernel) rfl (by decide) hin1 rfl ?_
    refine Z_aload_n (a := 0) (q := 104) (by decide +kernel) rfl rfl ?_
    refine g11_39 (idx := 66) (q := 107) (by decide +kernel) fX11_66 rfl (by decide) (t11_39 hT) rfl ?_
    refine Z_iconst (a := 4) (v := 4) (q := 108) (by decide +kernel) (by decide +kernel) rfl ?_
    refine Z_iload_n (a := 1) (q := 109) (by decide +kernel) rfl rfl ?_
    refine Z_iadd (q := 110) (by decide +kernel) rfl ?_
    refine Z_iconst (a := 1) (v := 1) (q := 111) (by decide +kernel) (by decide +kernel) rfl ?_
    refine Z_isub (q := 112) (by decide +kernel) rfl ?_
    refine Z_iload_n (a := 2) (q := 113) (by decide +kernel) rfl rfl ?_
    refine Z_isub (q := 114) (by decide +kernel) rfl ?_
    obtain ⟨hin2, h⟩ := h
    refine Z_iald (len := 40) (q := 115) (by decide +kernel) rfl (by decide) hin2 rfl ?_
    refine Z_iadd (q := 116) (by decide +kernel) rfl ?_
    obtain ⟨hin3, h⟩ := h
    refine Z_iast (len := 4) (q := 117) (by decide +kernel) rfl (by decide) hin3 rfl ?_
    replace h := h _ rfl
    refine Z_aload_n (a := 0) (q := 118) (by decide +kernel) rfl rfl ?_
    refine g11_42 (idx := 75) (q := 121) (by decide +kernel) fX11_75 rfl (by decide) (t11_42 hT) rfl ?_
    refine Z_iload_n (a := 2) (q := 122) (by decide +kernel) rfl rfl ?_
    refine Z_aload_n (a := 0) (q := 123) (by decide +kernel) rfl rfl ?_
    refine g11_40 (idx := 69) (q := 126) (by decide +kernel) fX11_69 rfl (by decide) (t11_40 hT) rfl ?_
    refine Z_iload_n (a := 2) (q := 127) (by decide +kernel) rfl rfl ?_
    refine Z_iald (len := 40) (q := 128) (by decide +kernel) rfl (by decide) hin1 rfl ?_
    refine Z_aload_n (a := 0) (q := 129) (by decide +kernel) rfl rfl ?_
    refine g11_40 (idx := 69) (q := 132) (by decide +kernel) fX11_69 rfl (by decide) (t11_40 hT) rfl ?_
    refine Z_iconst (a := 4) (v := 4) (q := 133) (by decide +kernel) (by decide +kernel) rfl ?_
    refine Z_iload_n (a := 1) (q := 134) (by decide +kernel) rfl rfl ?_
    refine Z_iadd (q := 135) (by decide +kernel) rfl ?_
    refine Z_iconst (a := 1) (v := 1) (q := 136) (by decide +kernel) (by decide +kernel) rfl ?_
    refine Z_isub (q := 137) (by decide +kernel) rfl ?_
    refine Z_iload_n (a := 2) (q := 138) (by decide +kernel) rfl rfl ?_
    refine Z_isub (q := 139) (by decide +kernel) rfl ?_
    refine Z_iald (len := 40) (q := 140) (by decide +kernel) rfl (by decide) hin2 rfl ?_
    refine Z_ior (q := 141) (by decide +kernel) rfl ?_
    refine Z_iast (len := 4) (q := 142) (by decide +kernel) rfl (by decide) hin3 rfl ?_
    replace h := h _ rfl
    refine Z_iinc (a := 2) (b := 1) (v := _ + 1) (loc2 := [_, _, _, _]) (q := 145) (by decide +kernel) rfl (zinc _) (by decide +kernel) rfl rfl rfl ?_
    refine Z_goto (q := 87) (off := -58) (by decide +kernel) (by decide) ?_
    exact h
set_option maxRecDepth 4000 in
theorem bX11_multiplies_151 {d : Nat} (x1 : Int32) (x2 : Int32) {iv : zI} {rv : zR} {lv : zJ} {Q : zI → zR → zJ → Prop} (hT : zTop rv) 
    (h : (((4 : Int32) * (iv 174 43)) ≤ x2 → ∀ iv1 : zI, iv1 = zu iv 174 43 ((iv 174 43) - (2 : Int32)) → ∃ Q2 : zI → zR → zJ → Prop, Cv mX11_places d [.ref 174, .int x1] iv1 rv lv Q2 ∧ ∀ (iv3 : zI) (rv4 : zR) (lv5 : zJ), Q2 iv3 rv4 lv5 → zTop rv4 ∧ (Zv mX11_multiplies (d + 1) 77 [some (.ref 174), some (.int x1), some (.int x2), none] [] iv3 rv4 lv5 Q)) ∧ (¬ ((4 : Int32) * (iv 174 43)) ≤ x2 → vp_in x2 40 ∧ (vp_in (x2 - (8 : Int32)) 40 ∧ (∀ iv10 : zI, iv10 = zu iv 192 (x2 - (8 : Int32)).toNatClampNeg (iv 192 x2.toNatClampNeg) → ∀ iv11 : zI, iv11 = zu iv10 193 (x2 - (8 : Int32)).toNatClampNeg (iv10 193 x2.toNatClampNeg) → Zv mX11_multiplies (d + 1) 151 [some (.ref 174), some (.int x1), some (.int (x2 + 1)), none] [] iv11 rv lv Q)))) :
    Zv mX11_multiplies (d + 1) 151 [some (.ref 174), some (.int x1), some (.int x2), none] [] iv rv lv Q := by
  unfold Zv
  refine Z_iload_n (a := 2) (q := 152) (by decide +kernel) rfl rfl ?_
  refine Z_iconst (a := 4) (v := 4) (q := 153) (by decide +kernel) (by decide +kernel) rfl ?_
  refine Z_aload_n (a := 0) (q := 154) (by decide +kernel) rfl rfl ?_
  refine g11_43 (idx := 301) (q := 157) (by decide +kernel) fX11_301 rfl (by decide) rfl ?_
  refine Z_imul (q := 158) (by decide +kernel) rfl ?_
  refine Z_icmp_ge (t := 197) (off := 39) (q := 161) (by decide +kernel) (by decide) rfl (fun hc => ?_) (fun hc => ?_)
  · replace h := h.1 hc
    refine Z_aload_n (a := 0) (q := 198) (by decide +kernel) rfl rfl ?_
    refine Z_dup (q := 199) (by decide +kernel) rfl rfl ?_
    refine g11_43 (idx := 301) (q := 202) (by decide +kernel) fX11_301 rfl (by decide) rfl ?_
    refine Z_iconst (a := 2) (v := 2) (q := 203) (by decide +kernel) (by decide +kernel) rfl ?_
    refine Z_isub (q := 204) (by decide +kernel) rfl ?_
    refine p11_43 (idx := 301) (q := 207) (by decide +kernel) fX11_301 rfl (by decide) rfl ?_
    replace h := h _ rfl
    refine Z_aload_n (a := 0) (q := 208) (by decide +kernel) rfl rfl ?_
    refine Z_iload_n (a := 1) (q := 209) (by decide +kernel) rfl rfl ?_
    obtain ⟨Q2, hm, h⟩ := h
    refine Z_callVv (M2 := mX11_places) (idx := 310) (d2 := d) (ci := 11) (As := [.int _]) (q := 212) (by decide +kernel) kX11_places lX11_310 rfl rfl (by decide) rfl rfl (by decide +kernel) (Nat.le_of_ble_eq_true rfl) (Nat.le_refl _) hm rfl (fun iv3 rv4 lv5 hq => ?_)
    obtain ⟨hT6, h⟩ := h iv3 rv4 lv5 hq
    refine Z_goto (q := 77) (off := -135) (by decide +kernel) (by decide) ?_
    exact h
  · replace h := h.2 hc
    refine Z_aload_n (a := 0) (q := 162) (by decide +kernel) rfl rfl ?_
    refine g11_39 (idx := 66) (q := 165) (by decide +kernel) fX11_66 rfl (by decide) (t11_39 hT) rfl ?_
    refine Z_iload_n (a := 2) (q := 166) (by decide +kernel) rfl rfl ?_
    refine Z_bipush (a := 8) (v := 8) (q := 168) (by decide +kernel) (by decide +kernel) rfl ?_
    refine Z_isub (q := 169) (by decide +kernel) rfl ?_
    refine Z_aload_n (a := 0) (q := 170) (by decide +kernel) rfl rfl ?_
    refine g11_39 (idx := 66) (q := 173) (by decide +kernel) fX11_66 rfl (by decide) (t11_39 hT) rfl ?_
    refine Z_iload_n (a := 2) (q := 174) (by decide +kernel) rfl rfl ?_
    obtain ⟨hin8, h⟩ := h
    refine Z_iald (len := 40) (q := 175) (by decide +kernel) rfl (by decide) hin8 rfl ?_
    obtain ⟨hin9, h⟩ := h
    refine Z_iast (len := 40) (q := 176) (by decide +kernel) rfl (by decide) hin9 rfl ?_
    replace h := h _ rfl
    refine Z_aload_n (a := 0) (q := 177) (by decide +kernel) rfl rfl ?_
    refine g11_40 (idx := 69) (q := 180) (by decide +kernel) fX11_69 rfl (by decide) (t11_40 hT) rfl ?_
    refine Z_iload_n (a := 2) (q := 181) (by decide +kernel) rfl rfl ?_
    refine Z_bipush (a := 8) (v := 8) (q := 183) (by decide +kernel) (by decide +kernel) rfl ?_
    refine Z_isub (q := 184) (by decide +kernel) rfl ?_
    refine Z_aload_n (a := 0) (q := 185) (by decide +kernel) rfl rfl ?_
    refine g11_40 (idx := 69) (q := 188) (by decide +kernel) fX11_69 rfl (by decide) (t11_40 hT) rfl ?_
    refine Z_iload_n (a := 2) (q := 189) (by decide +kernel) rfl rfl ?_
    refine Z_iald (len := 40) (q := 190) (by decide +kernel) rfl (by decide) hin8 rfl ?_
    refine Z_iast (len := 40) (q := 191) (by decide +kernel) rfl (by decide) hin9 rfl ?_
    replace h := h _ rfl
    refine Z_iinc (a := 2) (b := 1) (v := _ + 1) (loc2 := [_, _, _, _]) (q := 194) (by decide +kernel) rfl (zinc _) (by decide +kernel) rfl rfl rfl ?_
    refine Z_goto (q := 151) (off := -43) (by decide +kernel) (by decide) ?_
    exact h
theorem eX11_multi {d : Nat} (x1 : Int32) {iv : zI} {rv : zR} {lv : zJ} {Q : Int32 → zI → zR → zJ → Prop} (h : Zi mX11_multi (d + 1) 0 [some (.ref 174), some (.int x1)] [] iv rv lv Q) : Ci mX11_multi (d + 1) [.ref 174, .int x1] iv rv lv Q := Ci.of (by decide +kernel) (by simp [Value.category]) (Nat.le_of_ble_eq_true rfl) rfl h
set_option maxRecDepth 4000 in
theorem bX11_multi_0 {d : Nat} (x1 : Int32) {iv : zI} {rv : zR} {lv : zJ} {Q : Int32 → zI → zR → zJ → Prop} (hT : zTop rv) 
    (h : ∀ iv1 : zI, iv1 = zu iv 174 0 (0 : Int32) → (¬ (iv1 174 19) = 0 → ∃ Q2 : Int32 → zI → zR → zJ → Prop, Ci mX11_isK d [.int x1] iv1 rv lv Q2 ∧ ∀ (v7 : Int32) (iv3 : zI) (rv4 : zR) (lv5 : zJ), Q2 v7 iv3 rv4 lv5 → zTop rv4 ∧ ((¬ v7 = 0 → ∃ Q8 : zI → zR → zJ → Prop, Cv mX11_multiplies d [.ref 174, .int x1] iv3 rv4 lv5 Q8 ∧ ∀ (iv9 : zI) (rv10 : zR) (lv11 : zJ), Q8 iv9 rv10 lv11 → zTop rv10 ∧ (∃ Q14 : Int32 → zI → zR → zJ → Prop, Ci mX11_width d [.ref 174, .int (0 : Int32), .int x1] iv9 rv10 lv11 Q14 ∧ ∀ (v19 : Int32) (iv15 : zI) (rv16 : zR) (lv17 : zJ), Q14 v19 iv15 rv16 lv17 → zTop rv16 ∧ (∃ Q20 : Int32 → zI → zR → zJ → Prop, Ci mX11_good d [.ref 174, .int v19] iv15 rv16 lv17 Q20 ∧ ∀ (v25 : Int32) (iv21 : zI) (rv22 : zR) (lv23 : zJ), Q20 v25 iv21 rv22 lv23 → zTop rv22 ∧ (Q v25 iv21 rv22 lv23)))) ∧ (v7 = 0 → ∃ Q26 : Int32 → zI → zR → zJ → Prop, Ci mX11_refused d [.ref 174, .int (2 : Int32)] iv3 rv4 lv5 Q26 ∧ ∀ (v31 : Int32) (iv27 : zI) (rv28 : zR) (lv29 : zJ), Q26 v31 iv27 rv28 lv29 → zTop rv28 ∧ (Q v31 iv27 rv28 lv29)))) ∧ ((iv1 174 19) = 0 → ∃ Q32 : Int32 → zI → zR → zJ → Prop, Ci mX11_refused d [.ref 174, .int (1 : Int32)] iv1 rv lv Q32 ∧ ∀ (v37 : Int32) (iv33 : zI) (rv34 : zR) (lv35 : zJ), Q32 v37 iv33 rv34 lv35 → zTop rv34 ∧ (Q v37 iv33 rv34 lv35))) :
    Zi mX11_multi (d + 1) 0 [some (.ref 174), some (.int x1)] [] iv rv lv Q := by
  unfold Zi
  refine Z_aload_n (a := 0) (q := 1) (by decide +kernel) rfl rfl ?_
  refine Z_iconst (a := 0) (v := 0) (q := 2) (by decide +kernel) (by decide +kernel) rfl ?_
  refine p11_0 (idx := 87) (q := 5) (by decide +kernel) fX11_87 rfl (by decide) rfl ?_
  replace h := h _ rfl
  refine Z_aload_n (a := 0) (q := 6) (by decide +kernel) rfl rfl ?_
  refine g11_19 (idx := 211) (q := 9) (by decide +kernel) fX11_211 rfl (by decide) rfl ?_
  refine Z_if_ne (t := 18) (off := 9) (q := 12) (by decide +kernel) (by decide) rfl (fun hc => ?_) (fun hc => ?_)
  · replace h := h.1 hc
    refine Z_iload_n (a := 1) (q := 19) (by decide +kernel) rfl rfl ?_
    obtain ⟨Q2, hm, h⟩ := h
    refine Z_callSi (M2 := mX11_isK) (idx := 238) (d2 := d) (As := [.int _]) (q := 22) (by decide +kernel) kX11_isK lX11_238 rfl rfl (by decide +kernel) (Nat.le_of_ble_eq_true rfl) (Nat.le_refl _) hm rfl (fun v7 iv3 rv4 lv5 hq => ?_)
    obtain ⟨hT6, h⟩ := h v7 iv3 rv4 lv5 hq
    refine Z_if_ne (t := 31) (off := 9) (q := 25) (by decide +kernel) (by decide) rfl (fun hc => ?_) (fun hc => ?_)
    · replace h := h.1 hc
      refine Z_aload_n (a := 0) (q := 32) (by decide +kernel) rfl rfl ?_
      refine Z_iload_n (a := 1) (q := 33) (by decide +kernel) rfl rfl ?_
      obtain ⟨Q8, hm, h⟩ := h
      refine Z_callVv (M2 := mX11_multiplies) (idx := 313) (d2 := d) (ci := 11) (As := [.int _]) (q := 36) (by decide +kernel) kX11_multiplies lX11_313 rfl rfl (by decide) rfl rfl (by decide +kernel) (Nat.le_of_ble_eq_true rfl) (Nat.le_refl _) hm rfl (fun iv9 rv10 lv11 hq => ?_)
      obtain ⟨hT12, h⟩ := h iv9 rv10 lv11 hq
      refine Z_aload_n (a := 0) (q := 37) (by decide +kernel) rfl rfl ?_
      refine Z_aload_n (a := 0) (q := 38) (by decide +kernel) rfl rfl ?_
      refine Z_iconst (a := 0) (v := 0) (q := 39) (by decide +kernel) (by decide +kernel) rfl ?_
      refine Z_iload_n (a := 1) (q := 40) (by decide +kernel) rfl rfl ?_
      obtain ⟨Q14, hm, h⟩ := h
      refine Z_callVi (M2 := mX11_width) (idx := 304) (d2 := d) (ci := 11) (As := [.int _, .int _]) (q := 43) (by decide +kernel) kX11_width lX11_304 rfl rfl (by decide) rfl rfl (by decide +kernel) (Nat.le_of_ble_eq_true rfl) (Nat.le_refl _) hm rfl (fun v19 iv15 rv16 lv17 hq => ?_)
      obtain ⟨hT18, h⟩ := h v19 iv15 rv16 lv17 hq
      obtain ⟨Q20, hm, h⟩ := h
      refine Z_callVi (M2 := mX11_good) (idx := 214) (d2 := d) (ci := 11) (As := [.int _]) (q := 46) (by decide +kernel) kX11_good lX11_214 rfl rfl (by decide) rfl rfl (by decide +kernel) (Nat.le_of_ble_eq_true rfl) (Nat.le_refl _) hm rfl (fun v25 iv21 rv22 lv23 hq => ?_)
      obtain ⟨hT24, h⟩ := h v25 iv21 rv22 lv23 hq
      exact Z_iret (ty := .int) (by decide +kernel) rfl rfl rfl ⟨_, rfl, h⟩
    · replace h := h.2 hc
      refine Z_aload_n (a := 0) (q := 26) (by decide +kernel) rfl rfl ?_
      refine Z_iconst (a := 2) (v := 2) (q := 27) (by decide +kernel) (by decide +kernel) rfl ?_
      obtain ⟨Q26, hm, h⟩ := h
      refine Z_callVi (M2 := mX11_refused) (idx := 201) (d2 := d) (ci := 11) (As := [.int _]) (q := 30) (by decide +kernel) kX11_refused lX11_201 rfl rfl (by decide) rfl rfl (by decide +kernel) (Nat.le_of_ble_eq_true rfl) (Nat.le_refl _) hm rfl (fun v31 iv27 rv28 lv29 hq => ?_)
      obtain ⟨hT30, h⟩ := h v31 iv27 rv28 lv29 hq
      exact Z_iret (ty := .int) (by decide +kernel) rfl rfl rfl ⟨_, rfl, h⟩
  · replace h := h.2 hc
    refine Z_aload_n (a := 0) (q := 13) (by decide +kernel) rfl rfl ?_
    refine Z_iconst (a := 1) (v := 1) (q := 14) (by decide +kernel) (by decide +kernel) rfl ?_
    obtain ⟨Q32, hm, h⟩ := h
    refine Z_callVi (M2 := mX11_refused) (idx := 201) (d2 := d) (ci := 11) (As := [.int _]) (q := 17) (by decide +kernel) kX11_refused lX11_201 rfl rfl (by decide) rfl rfl (by decide +kernel) (Nat.le_of_ble_eq_true rfl) (Nat.le_refl _) hm rfl (fun v37 iv33 rv34 lv35 hq => ?_)
    obtain ⟨hT36, h⟩ := h v37 iv33 rv34 lv35 hq
    exact Z_iret (ty := .int) (by decide +kernel) rfl rfl rfl ⟨_, rfl, h⟩
theorem eX11_multiOf {d : Nat} (x1 : Int32) (x2 : Int32) {iv : zI} {rv : zR} {lv : zJ} {Q : Int32 → zI → zR → zJ → Prop} (h : Zi mX11_multiOf (d + 1) 0 [some (.ref 174), some (.int x1), some (.int x2), none] [] iv rv lv Q) : Ci mX11_multiOf (d + 1) [.ref 174, .int x1, .int x2] iv rv lv Q := Ci.of (by decide +kernel) (by simp [Value.category]) (Nat.le_of_ble_eq_true rfl) rfl h
set_option maxRecDepth 4000 in
theorem bX11_multiOf_0 {d : Nat} (x1 : Int32) (x2 : Int32) {iv : zI} {rv : zR} {lv : zJ} {Q : Int32 → zI → zR → zJ → Prop} (hT : zTop rv) 
    (h : ∀ iv1 : zI, iv1 = zu iv 174 0 (0 : Int32) → ∃ Q2 : Int32 → zI → zR → zJ → Prop, Ci mX11_isNumber d [.ref 174, .int x2] iv1 rv lv Q2 ∧ ∀ (v7 : Int32) (iv3 : zI) (rv4 : zR) (lv5 : zJ), Q2 v7 iv3 rv4 lv5 → zTop rv4 ∧ ((¬ v7 = 0 → ∃ Q8 : Int32 → zI → zR → zJ → Prop, Ci mX11_isK d [.int x1] iv3 rv4 lv5 Q8 ∧ ∀ (v13 : Int32) (iv9 : zI) (rv10 : zR) (lv11 : zJ), Q8 v13 iv9 rv10 lv11 → zTop rv10 ∧ ((¬ v13 = 0 → ∃ Q14 : zI → zR → zJ → Prop, Cv mX11_multiplies d [.ref 174, .int x1] iv9 rv10 lv11 Q14 ∧ ∀ (iv15 : zI) (rv16 : zR) (lv17 : zJ), Q14 iv15 rv16 lv17 → zTop rv16 ∧ (Zi mX11_multiOf (d + 1) 39 [some (.ref 174), some (.int x1), some (.int x2), some (.int (0 : Int32))] [] iv15 rv16 lv17 Q)) ∧ (v13 = 0 → ∃ Q20 : Int32 → zI → zR → zJ → Prop, Ci mX11_refused d [.ref 174, .int (2 : Int32)] iv9 rv10 lv11 Q20 ∧ ∀ (v25 : Int32) (iv21 : zI) (rv22 : zR) (lv23 : zJ), Q20 v25 iv21 rv22 lv23 → zTop rv22 ∧ (Q v25 iv21 rv22 lv23)))) ∧ (v7 = 0 → ∃ Q26 : Int32 → zI → zR → zJ → Prop, Ci mX11_refused d [.ref 174, .int (1 : Int32)] iv3 rv4 lv5 Q26 ∧ ∀ (v31 : Int32) (iv27 : zI) (rv28 : zR) (lv29 : zJ), Q26 v31 iv27 rv28 lv29 → zTop rv28 ∧ (Q v31 iv27 rv28 lv29)))) :
    Zi mX11_multiOf (d + 1) 0 [some (.ref 174), some (.int x1), some (.int x2), none] [] iv rv lv Q := by
  unfold Zi
  refine Z_aload_n (a := 0) (q := 1) (by decide +kernel) rfl rfl ?_
  refine Z_iconst (a := 0) (v := 0) (q := 2) (by decide +kernel) (by decide +kernel) rfl ?_
  refine p11_0 (idx := 87) (q := 5) (by decide +kernel) fX11_87 rfl (by decide) rfl ?_
  replace h := h _ rfl
  refine Z_aload_n (a := 0) (q := 6) (by decide +kernel) rfl rfl ?_
  refine Z_iload_n (a := 2) (q := 7) (by decide +kernel) rfl rfl ?_
  obtain ⟨Q2, hm, h⟩ := h
  refine Z_callVi (M2 := mX11_isNumber) (idx := 229) (d2 := d) (ci := 11) (As := [.int _]) (q := 10) (by decide +kernel) kX11_isNumber lX11_229 rfl rfl (by decide) rfl rfl (by decide +kernel) (Nat.le_of_ble_eq_true rfl) (Nat.le_refl _) hm rfl (fun v7 iv3 rv4 lv5 hq => ?_)
  obtain ⟨hT6, h⟩ := h v7 iv3 rv4 lv5 hq
  refine Z_if_ne (t := 19) (off := 9) (q := 13) (by decide +kernel) (by decide) rfl (fun hc => ?_) (fun hc => ?_)
  · replace h := h.1 hc
    refine Z_iload_n (a := 1) (q := 20) (by decide +kernel) rfl rfl ?_
    obtain ⟨Q8, hm, h⟩ := h
    refine Z_callSi (M2 := mX11_isK) (idx := 238) (d2 := d) (As := [.int _]) (q := 23) (by decide +kernel) kX11_isK lX11_238 rfl rfl (by decide +kernel) (Nat.le_of_ble_eq_true rfl) (Nat.le_refl _) hm rfl (fun v13 iv9 rv10 lv11 hq => ?_)
    obtain ⟨hT12, h⟩ := h v13 iv9 rv10 lv11 hq
    refine Z_if_ne (t := 32) (off := 9) (q := 26) (by decide +kernel) (by decide) rfl (fun hc => ?_) (fun hc => ?_)
    · replace h := h.1 hc
      refine Z_aload_n (a := 0) (q := 33) (by decide +kernel) rfl rfl ?_
      refine Z_iload_n (a := 1) (q := 34) (by decide +kernel) rfl rfl ?_
      obtain ⟨Q14, hm, h⟩ := h
      refine Z_callVv (M2 := mX11_multiplies) (idx := 313) (d2 := d) (ci := 11) (As := [.int _]) (q := 37) (by decide +kernel) kX11_multiplies lX11_313 rfl rfl (by decide) rfl rfl (by decide +kernel) (Nat.le_of_ble_eq_true rfl) (Nat.le_refl _) hm rfl (fun iv15 rv16 lv17 hq => ?_)
      obtain ⟨hT18, h⟩ := h iv15 rv16 lv17 hq
      refine Z_iconst (a := 0) (v := 0) (q := 38) (by decide +kernel) (by decide +kernel) rfl ?_
      refine Z_istore_n (a := 3) (loc2 := [_, _, _, _]) (q := 39) (by decide +kernel) (by decide +kernel) rfl rfl rfl ?_
      exact h
    · replace h := h.2 hc
      refine Z_aload_n (a := 0) (q := 27) (by decide +kernel) rfl rfl ?_
      refine Z_iconst (a := 2) (v := 2) (q := 28) (by decide +kernel) (by decide +kernel) rfl ?_
      obtain ⟨Q20, hm, h⟩ := h
      refine Z_callVi (M2 := mX11_refused) (idx := 201) (d2 := d) (ci := 11) (As := [.int _]) (q := 31) (by decide +kernel) kX11_refused lX11_201 rfl rfl (by decide) rfl rfl (by decide +kernel) (Nat.le_of_ble_eq_true rfl) (Nat.le_refl _) hm rfl (fun v25 iv21 rv22 lv23 hq => ?_)
      obtain ⟨hT24, h⟩ := h v25 iv21 rv22 lv23 hq
      exact Z_iret (ty := .int) (by decide +kernel) rfl rfl rfl ⟨_, rfl, h⟩
  · replace h := h.2 hc
    refine Z_aload_n (a := 0) (q := 14) (by decide +kernel) rfl rfl ?_
    refine Z_iconst (a := 1) (v := 1) (q := 15) (by decide +kernel) (by decide +kernel) rfl ?_
    obtain ⟨Q26, hm, h⟩ := h
    refine Z_callVi (M2 := mX11_refused) (idx := 201) (d2 := d) (ci := 11) (As := [.int _]) (q := 18) (by decide +kernel) kX11_refused lX11_201 rfl rfl (by decide) rfl rfl (by decide +kernel) (Nat.le_of_ble_eq_true rfl) (Nat.le_refl _) hm rfl (fun v31 iv27 rv28 lv29 hq => ?_)
    obtain ⟨hT30, h⟩ := h v31 iv27 rv28 lv29 hq
    exact Z_iret (ty := .int) (by decide +kernel) rfl rfl rfl ⟨_, rfl, h⟩
set_option maxRecDepth 4000 in
theorem bX11_multiOf_39 {d : Nat} (x1 : Int32) (x2 : Int32) (x3 : Int32) {iv : zI} {rv : zR} {lv : zJ} {Q : Int32 → zI → zR → zJ → Prop} (hT : zTop rv) 
    (h : vp_in x3 40 ∧ (∃ Q2 : Int32 → zI → zR → zJ → Prop, Ci mX11_has d [.int (iv 193 x3.toNatClampNeg), .int x2] iv rv lv Q2 ∧ ∀ (v7 : Int32) (iv3 : zI) (rv4 : zR) (lv5 : zJ), Q2 v7 iv3 rv4 lv5 → zTop rv4 ∧ ((¬ v7 = 0 → ∃ Q8 : Int32 → zI → zR → zJ → Prop, Ci mX11_good d [.ref 174, .int x3] iv3 rv4 lv5 Q8 ∧ ∀ (v13 : Int32) (iv9 : zI) (rv10 : zR) (lv11 : zJ), Q8 v13 iv9 rv10 lv11 → zTop rv10 ∧ (Q v13 iv9 rv10 lv11)) ∧ (v7 = 0 → Zi mX11_multiOf (d + 1) 39 [some (.ref 174), some (.int x1), some (.int x2), some (.int (x3 + 1))] [] iv3 rv4 lv5 Q)))) :
    Zi mX11_multiOf (d + 1) 39 [some (.ref 174), some (.int x1), some (.int x2), some (.int x3)] [] iv rv lv Q := by
  unfold Zi
  refine Z_aload_n (a := 0) (q := 40) (by decide +kernel) rfl rfl ?_
  refine g11_40 (idx := 69) (q := 43) (by decide +kernel) fX11_69 rfl (by decide) (t11_40 hT) rfl ?_
  refine Z_iload_n (a := 3) (q := 44) (by decide +kernel) rfl rfl ?_
  obtain ⟨hin1, h⟩ := h
  refine Z_iald (len := 40) (q := 45) (by decide +kernel) rfl (by decide) hin1 rfl ?_
  refine Z_iload_n (a := 2) (q := 46) (by decide +kernel) rfl rfl ?_
  obtain ⟨Q2, hm, h⟩ := h
  refine Z_callSi (M2 := mX11_has) (idx := 93) (d2 := d) (As := [.int _, .int _]) (q := 49) (by decide +kernel) kX11_has lX11_93 rfl rfl (by decide +kernel) (Nat.le_of_ble_eq_true rfl) (Nat.le_refl _) hm rfl (fun v7 iv3 rv4 lv5 hq => ?_)
  obtain ⟨hT6, h⟩ := h v7 iv3 rv4 lv5 hq
  refine Z_if_ne (t := 58) (off := 9) (q := 52) (by decide +kernel) (by decide) rfl (fun hc => ?_) (fun hc => ?_)
  · replace h := h.1 hc
    refine Z_aload_n (a := 0) (q := 59) (by decide +kernel) rfl rfl ?_
    refine Z_iload_n (a := 3) (q := 60) (by decide +kernel) rfl rfl ?_
    obtain ⟨Q8, hm, h⟩ := h
    refine Z_callVi (M2 := mX11_good) (idx := 214) (d2 := d) (ci := 11) (As := [.int _]) (q := 63) (by decide +kernel) kX11_good lX11_214 rfl rfl (by decide) rfl rfl (by decide +kernel) (Nat.le_of_ble_eq_true rfl) (Nat.le_refl _) hm rfl (fun v13 iv9 rv10 lv11 hq => ?_)
    obtain ⟨hT12, h⟩ := h v13 iv9 rv10 lv11 hq
    exact Z_iret (ty := .int) (by decide +kernel) rfl rfl rfl ⟨_, rfl, h⟩
  · replace h := h.2 hc
    refine Z_iinc (a := 3) (b := 1) (v := _ + 1) (loc2 := [_, _, _, _]) (q := 55) (by decide +kernel) rfl (zinc _) (by decide +kernel) rfl rfl rfl ?_
    refine Z_goto (q := 39) (off := -16) (by decide +kernel) (by decide) ?_
    exact h
theorem eX11_bound {d : Nat} (x1 : Int32) {iv : zI} {rv : zR} {lv : zJ} {Q : Int32 → zI → zR → zJ → Prop} (h : Zi mX11_bound (d + 1) 0 [some (.ref 174), some (.int x1), none, none, none] [] iv rv lv Q) : Ci mX11_bound (d + 1) [.ref 174, .int x1] iv rv lv Q := Ci.of (by decide +kernel) (by simp [Value.category]) (Nat.le_of_ble_eq_true rfl) rfl h
set_option maxRecDepth 4000 in
theorem bX11_bound_0 {d : Nat} (x1 : Int32) {iv : zI} {rv : zR} {lv : zJ} {Q : Int32 → zI → zR → zJ → Prop} (hT : zTop rv) 
    (h : ∀ iv1 : zI, iv1 = zu iv 174 0 (0 : Int32) → (¬ (iv1 174 19) = 0 → ∃ Q2 : Int32 → zI → zR → zJ → Prop, Ci mX11_isK d [.int x1] iv1 rv lv Q2 ∧ ∀ (v7 : Int32) (iv3 : zI) (rv4 : zR) (lv5 : zJ), Q2 v7 iv3 rv4 lv5 → zTop rv4 ∧ ((¬ v7 = 0 → ∃ Q8 : Int32 → zI → zR → zJ → Prop, Ci mX11_total d [.ref 174] iv3 rv4 lv5 Q8 ∧ ∀ (v13 : Int32) (iv9 : zI) (rv10 : zR) (lv11 : zJ), Q8 v13 iv9 rv10 lv11 → zTop rv10 ∧ (¬ x1 = 0 ∧ (∃ Q14 : Int32 → zI → zR → zJ → Prop, Ci mX11_ranked d [.ref 174, .int (0 : Int32)] iv9 rv10 lv11 Q14 ∧ ∀ (v19 : Int32) (iv15 : zI) (rv16 : zR) (lv17 : zJ), Q14 v19 iv15 rv16 lv17 → zTop rv16 ∧ (∃ Q20 : Int32 → zI → zR → zJ → Prop, Ci mX11_value d [.ref 174, .int v19] iv15 rv16 lv17 Q20 ∧ ∀ (v25 : Int32) (iv21 : zI) (rv22 : zR) (lv23 : zJ), Q20 v25 iv21 rv22 lv23 → zTop rv22 ∧ ((v25 ≤ (((v13 + x1) - (1 : Int32)) / x1) → Zi mX11_bound (d + 1) 62 [some (.ref 174), some (.int x1), some (.int (((v13 + x1) - (1 : Int32)) / x1)), some (.int v25), none] [.int (((v13 + x1) - (1 : Int32)) / x1)] iv21 rv22 lv23 Q) ∧ (¬ v25 ≤ (((v13 + x1) - (1 : Int32)) / x1) → Zi mX11_bound (d + 1) 62 [some (.ref 174), some (.int x1), some (.int (((v13 + x1) - (1 : Int32)) / x1)), some (.int v25), none] [.int v25] iv21 rv22 lv23 Q)))))) ∧ (v7 = 0 → ∃ Q26 : Int32 → zI → zR → zJ → Prop, Ci mX11_refused d [.ref 174, .int (2 : Int32)] iv3 rv4 lv5 Q26 ∧ ∀ (v31 : Int32) (iv27 : zI) (rv28 : zR) (lv29 : zJ), Q26 v31 iv27 rv28 lv29 → zTop rv28 ∧ (Q v31 iv27 rv28 lv29)))) ∧ ((iv1 174 19) = 0 → ∃ Q32 : Int32 → zI → zR → zJ → Prop, Ci mX11_refused d [.ref 174, .int (1 : Int32)] iv1 rv lv Q32 ∧ ∀ (v37 : Int32) (iv33 : zI) (rv34 : zR) (lv35 : zJ), Q32 v37 iv33 rv34 lv35 → zTop rv34 ∧ (Q v37 iv33 rv34 lv35))) :
    Zi mX11_bound (d + 1) 0 [some (.ref 174), some (.int x1), none, none, none] [] iv rv lv Q := by
  unfold Zi
  refine Z_aload_n (a := 0) (q := 1) (by decide +kernel) rfl rfl ?_
  refine Z_iconst (a := 0) (v := 0) (q := 2) (by decide +kernel) (by decide +kernel) rfl ?_
  refine p11_0 (idx := 87) (q := 5) (by decide +kernel) fX11_87 rfl (by decide) rfl ?_
  replace h := h _ rfl
  refine Z_aload_n (a := 0) (q := 6) (by decide +kernel) rfl rfl ?_
  refine g11_19 (idx := 211) (q := 9) (by decide +kernel) fX11_211 rfl (by decide) rfl ?_
  refine Z_if_ne (t := 18) (off := 9) (q := 12) (by decide +kernel) (by decide) rfl (fun hc => ?_) (fun hc => ?_)
  · replace h := h.1 hc
    refine Z_iload_n (a := 1) (q := 19) (by decide +kernel) rfl rfl ?_
    obtain ⟨Q2, hm, h⟩ := h
    refine Z_callSi (M2 := mX11_isK) (idx := 238) (d2 := d) (As := [.int _]) (q := 22) (by decide +kernel) kX11_isK lX11_238 rfl rfl (by decide +kernel) (Nat.le_of_ble_eq_true rfl) (Nat.le_refl _) hm rfl (fun v7 iv3 rv4 lv5 hq => ?_)
    obtain ⟨hT6, h⟩ := h v7 iv3 rv4 lv5 hq
    refine Z_if_ne (t := 31) (off := 9) (q := 25) (by decide +kernel) (by decide) rfl (fun hc => ?_) (fun hc => ?_)
    · replace h := h.1 hc
      refine Z_aload_n (a := 0) (q := 32) (by decide +kernel) rfl rfl ?_
      obtain ⟨Q8, hm, h⟩ := h
      refine Z_callVi (M2 := mX11_total) (idx := 223) (d2 := d) (ci := 11) (As := []) (q := 35) (by decide +kernel) kX11_total lX11_223 rfl rfl (by decide) rfl rfl (by decide +kernel) (Nat.le_of_ble_eq_true rfl) (Nat.le_refl _) hm rfl (fun v13 iv9 rv10 lv11 hq => ?_)
      obtain ⟨hT12, h⟩ := h v13 iv9 rv10 lv11 hq
      refine Z_iload_n (a := 1) (q := 36) (by decide +kernel) rfl rfl ?_
      refine Z_iadd (q := 37) (by decide +kernel) rfl ?_
      refine Z_iconst (a := 1) (v := 1) (q := 38) (by decide +kernel) (by decide +kernel) rfl ?_
      refine Z_isub (q := 39) (by decide +kernel) rfl ?_
      refine Z_iload_n (a := 1) (q := 40) (by decide +kernel) rfl rfl ?_
      obtain ⟨hne, h⟩ := h
      refine Z_idiv (q := 41) (by decide +kernel) hne rfl ?_
      refine Z_istore_n (a := 2) (loc2 := [_, _, _, _, _]) (q := 42) (by decide +kernel) (by decide +kernel) rfl rfl rfl ?_
      refine Z_aload_n (a := 0) (q := 43) (by decide +kernel) rfl rfl ?_
      refine Z_aload_n (a := 0) (q := 44) (by decide +kernel) rfl rfl ?_
      refine Z_iconst (a := 0) (v := 0) (q := 45) (by decide +kernel) (by decide +kernel) rfl ?_
      obtain ⟨Q14, hm, h⟩ := h
      refine Z_callVi (M2 := mX11_ranked) (idx := 226) (d2 := d) (ci := 11) (As := [.int _]) (q := 48) (by decide +kernel) kX11_ranked lX11_226 rfl rfl (by decide) rfl rfl (by decide +kernel) (Nat.le_of_ble_eq_true rfl) (Nat.le_refl _) hm rfl (fun v19 iv15 rv16 lv17 hq => ?_)
      obtain ⟨hT18, h⟩ := h v19 iv15 rv16 lv17 hq
      obtain ⟨Q20, hm, h⟩ := h
      refine Z_callVi (M2 := mX11_value) (idx := 217) (d2 := d) (ci := 11) (As := [.int _]) (q := 51) (by decide +kernel) kX11_value lX11_217 rfl rfl (by decide) rfl rfl (by decide +kernel) (Nat.le_of_ble_eq_true rfl) (Nat.le_refl _) hm rfl (fun v25 iv21 rv22 lv23 hq => ?_)
      obtain ⟨hT24, h⟩ := h v25 iv21 rv22 lv23 hq
      refine Z_istore_n (a := 3) (loc2 := [_, _, _, _, _]) (q := 52) (by decide +kernel) (by decide +kernel) rfl rfl rfl ?_
      refine Z_iload_n (a := 3) (q := 53) (by decide +kernel) rfl rfl ?_
      refine Z_iload_n (a := 2) (q := 54) (by decide +kernel) rfl rfl ?_
      refine Z_icmp_le (t := 61) (off := 7) (q := 57) (by decide +kernel) (by decide) rfl (fun hc => ?_) (fun hc => ?_)
      · replace h := h.1 hc
        refine Z_iload_n (a := 2) (q := 62) (by decide +kernel) rfl rfl ?_
        exact h
      · replace h := h.2 hc
        refine Z_iload_n (a := 3) (q := 58) (by decide +kernel) rfl rfl ?_
        refine Z_goto (q := 62) (off := 4) (by decide +kernel) (by decide) ?_
        exact h
    · replace h := h.2 hc
      refine Z_aload_n (a := 0) (q := 26) (by decide +kernel) rfl rfl ?_
      refine Z_iconst (a := 2) (v := 2) (q := 27) (by decide +kernel) (by decide +kernel) rfl ?_
      obtain ⟨Q26, hm, h⟩ := h
      refine Z_callVi (M2 := mX11_refused) (idx := 201) (d2 := d) (ci := 11) (As := [.int _]) (q := 30) (by decide +kernel) kX11_refused lX11_201 rfl rfl (by decide) rfl rfl (by decide +kernel) (Nat.le_of_ble_eq_true rfl) (Nat.le_refl _) hm rfl (fun v31 iv27 rv28 lv29 hq => ?_)
      obtain ⟨hT30, h⟩ := h v31 iv27 rv28 lv29 hq
      exact Z_iret (ty := .int) (by decide +kernel) rfl rfl rfl ⟨_, rfl, h⟩
  · replace h := h.2 hc
    refine Z_aload_n (a := 0) (q := 13) (by decide +kernel) rfl rfl ?_
    refine Z_iconst (a := 1) (v := 1) (q := 14) (by decide +kernel) (by decide +kernel) rfl ?_
    obtain ⟨Q32, hm, h⟩ := h
    refine Z_callVi (M2 := mX11_refused) (idx := 201) (d2 := d) (ci := 11) (As := [.int _]) (q := 17) (by decide +kernel) kX11_refused lX11_201 rfl rfl (by decide) rfl rfl (by decide +kernel) (Nat.le_of_ble_eq_true rfl) (Nat.le_refl _) hm rfl (fun v37 iv33 rv34 lv35 hq => ?_)
    obtain ⟨hT36, h⟩ := h v37 iv33 rv34 lv35 hq
    exact Z_iret (ty := .int) (by decide +kernel) rfl rfl rfl ⟨_, rfl, h⟩
set_option maxRecDepth 4000 in
theorem bX11_bound_62 {d : Nat} (x1 : Int32) (x2 : Int32) (x3 : Int32) (y0 : Int32) {iv : zI} {rv : zR} {lv : zJ} {Q : Int32 → zI → zR → zJ → Prop} (hT : zTop rv) 
    (h : ((iv 176 0) ≤ x1 → ((0 : Int32) ≤ y0 → ∃ Q1 : Int32 → zI → zR → zJ → Prop, Ci mX11_good d [.ref 174, .int y0] iv rv lv Q1 ∧ ∀ (v6 : Int32) (iv2 : zI) (rv3 : zR) (lv4 : zJ), Q1 v6 iv2 rv3 lv4 → zTop rv3 ∧ (Q v6 iv2 rv3 lv4)) ∧ (¬ (0 : Int32) ≤ y0 → ∃ Q7 : Int32 → zI → zR → zJ → Prop, Ci mX11_good d [.ref 174, .int (0 : Int32)] iv rv lv Q7 ∧ ∀ (v12 : Int32) (iv8 : zI) (rv9 : zR) (lv10 : zJ), Q7 v12 iv8 rv9 lv10 → zTop rv9 ∧ (Q v12 iv8 rv9 lv10))) ∧ (¬ (iv 176 0) ≤ x1 → ∃ Q13 : Int32 → zI → zR → zJ → Prop, Ci mX11_ranked d [.ref 174, .int (x1 - (1 : Int32))] iv rv lv Q13 ∧ ∀ (v18 : Int32) (iv14 : zI) (rv15 : zR) (lv16 : zJ), Q13 v18 iv14 rv15 lv16 → zTop rv15 ∧ (∃ Q19 : Int32 → zI → zR → zJ → Prop, Ci mX11_value d [.ref 174, .int v18] iv14 rv15 lv16 Q19 ∧ ∀ (v24 : Int32) (iv20 : zI) (rv21 : zR) (lv22 : zJ), Q19 v24 iv20 rv21 lv22 → zTop rv21 ∧ (∃ Q25 : Int32 → zI → zR → zJ → Prop, Ci mX11_ranked d [.ref 174, .int x1] iv20 rv21 lv22 Q25 ∧ ∀ (v30 : Int32) (iv26 : zI) (rv27 : zR) (lv28 : zJ), Q25 v30 iv26 rv27 lv28 → zTop rv27 ∧ (∃ Q31 : Int32 → zI → zR → zJ → Prop, Ci mX11_value d [.ref 174, .int v30] iv26 rv27 lv28 Q31 ∧ ∀ (v36 : Int32) (iv32 : zI) (rv33 : zR) (lv34 : zJ), Q31 v36 iv32 rv33 lv34 → zTop rv33 ∧ (((v24 + v36) ≤ y0 → ∃ Q37 : Int32 → zI → zR → zJ → Prop, Ci mX11_good d [.ref 174, .int y0] iv32 rv33 lv34 Q37 ∧ ∀ (v42 : Int32) (iv38 : zI) (rv39 : zR) (lv40 : zJ), Q37 v42 iv38 rv39 lv40 → zTop rv39 ∧ (Q v42 iv38 rv39 lv40)) ∧ (¬ (v24 + v36) ≤ y0 → ∃ Q43 : Int32 → zI → zR → zJ → Prop, Ci mX11_good d [.ref 174, .int (v24 + v36)] iv32 rv33 lv34 Q43 ∧ ∀ (v48 : Int32) (iv44 : zI) (rv45 : zR) (lv46 : zJ), Q43 v48 iv44 rv45 lv46 → zTop rv45 ∧ (Q v48 iv44 rv45 lv46)))))))) :
    Zi mX11_bound (d + 1) 62 [some (.ref 174), some (.int x1), some (.int x2), some (.int x3), none] [.int y0] iv rv lv Q := by
  unfold Zi
  refine Z_istore_n (a := 2) (loc2 := [_, _, _, _, _]) (q := 63) (by decide +kernel) (by decide +kernel) rfl rfl rfl ?_
  refine Z_aload_n (a := 0) (q := 64) (by decide +kernel) rfl rfl ?_
  refine g11_14 (idx := 17) (q := 67) (by decide +kernel) fX11_17 rfl (by decide) (t11_14 hT) rfl ?_
  refine Z_iconst (a := 0) (v := 0) (q := 68) (by decide +kernel) (by decide +kernel) rfl ?_
  refine Z_iald (len := 35) (q := 69) (by decide +kernel) rfl (by decide) (by unfold vp_in; decide) rfl ?_
  refine Z_iload_n (a := 1) (q := 70) (by decide +kernel) rfl rfl ?_
  refine Z_icmp_le (t := 97) (off := 27) (q := 73) (by decide +kernel) (by decide) rfl (fun hc => ?_) (fun hc => ?_)
  · replace h := h.1 hc
    refine Z_iconst (a := 0) (v := 0) (q := 98) (by decide +kernel) (by decide +kernel) rfl ?_
    refine Z_istore (a := 4) (loc2 := [_, _, _, _, _]) (q := 100) (by decide +kernel) (by decide +kernel) rfl rfl rfl ?_
    refine Z_aload_n (a := 0) (q := 101) (by decide +kernel) rfl rfl ?_
    refine Z_iload (a := 4) (q := 103) (by decide +kernel) rfl rfl ?_
    refine Z_iload_n (a := 2) (q := 104) (by decide +kernel) rfl rfl ?_
    refine Z_icmp_le (t := 112) (off := 8) (q := 107) (by decide +kernel) (by decide) rfl (fun hc => ?_) (fun hc => ?_)
    · replace h := h.1 hc
      refine Z_iload_n (a := 2) (q := 113) (by decide +kernel) rfl rfl ?_
      obtain ⟨Q1, hm, h⟩ := h
      refine Z_callVi (M2 := mX11_good) (idx := 214) (d2 := d) (ci := 11) (As := [.int _]) (q := 116) (by decide +kernel) kX11_good lX11_214 rfl rfl (by decide) rfl rfl (by decide +kernel) (Nat.le_of_ble_eq_true rfl) (Nat.le_refl _) hm rfl (fun v6 iv2 rv3 lv4 hq => ?_)
      obtain ⟨hT5, h⟩ := h v6 iv2 rv3 lv4 hq
      exact Z_iret (ty := .int) (by decide +kernel) rfl rfl rfl ⟨_, rfl, h⟩
    · replace h := h.2 hc
      refine Z_iload (a := 4) (q := 109) (by decide +kernel) rfl rfl ?_
      refine Z_goto (q := 113) (off := 4) (by decide +kernel) (by decide) ?_
      obtain ⟨Q7, hm, h⟩ := h
      refine Z_callVi (M2 := mX11_good) (idx := 214) (d2 := d) (ci := 11) (As := [.int _]) (q := 116) (by decide +kernel) kX11_good lX11_214 rfl rfl (by decide) rfl rfl (by decide +kernel) (Nat.le_of_ble_eq_true rfl) (Nat.le_refl _) hm rfl (fun v12 iv8 rv9 lv10 hq => ?_)
      obtain ⟨hT11, h⟩ := h v12 iv8 rv9 lv10 hq
      exact Z_iret (ty := .int) (by decide +kernel) rfl rfl rfl ⟨_, rfl, h⟩
  · replace h := h.2 hc
    refine Z_aload_n (a := 0) (q := 74) (by decide +kernel) rfl rfl ?_
    refine Z_aload_n (a := 0) (q := 75) (by decide +kernel) rfl rfl ?_
    refine Z_iload_n (a := 1) (q := 76) (by decide +kernel) rfl rfl ?_
    refine Z_iconst (a := 1) (v := 1) (q := 77) (by decide +kernel) (by decide +kernel) rfl ?_
    refine Z_isub (q := 78) (by decide +kernel) rfl ?_
    obtain ⟨Q13, hm, h⟩ := h
    refine Z_callVi (M2 := mX11_ranked) (idx := 226) (d2 := d) (ci := 11) (As := [.int _]) (q := 81) (by decide +kernel) kX11_ranked lX11_226 rfl rfl (by decide) rfl rfl (by decide +kernel) (Nat.le_of_ble_eq_true rfl) (Nat.le_refl _) hm rfl (fun v18 iv14 rv15 lv16 hq => ?_)
    obtain ⟨hT17, h⟩ := h v18 iv14 rv15 lv16 hq
    obtain ⟨Q19, hm, h⟩ := h
    refine Z_callVi (M2 := mX11_value) (idx := 217) (d2 := d) (ci := 11) (As := [.int _]) (q := 84) (by decide +kernel) kX11_value lX11_217 rfl rfl (by decide) rfl rfl (by decide +kernel) (Nat.le_of_ble_eq_true rfl) (Nat.le_refl _) hm rfl (fun v24 iv20 rv21 lv22 hq => ?_)
    obtain ⟨hT23, h⟩ := h v24 iv20 rv21 lv22 hq
    refine Z_aload_n (a := 0) (q := 85) (by decide +kernel) rfl rfl ?_
    refine Z_aload_n (a := 0) (q := 86) (by decide +kernel) rfl rfl ?_
    refine Z_iload_n (a := 1) (q := 87) (by decide +kernel) rfl rfl ?_
    obtain ⟨Q25, hm, h⟩ := h
    refine Z_callVi (M2 := mX11_ranked) (idx := 226) (d2 := d) (ci := 11) (As := [.int _]) (q := 90) (by decide +kernel) kX11_ranked lX11_226 rfl rfl (by decide) rfl rfl (by decide +kernel) (Nat.le_of_ble_eq_true rfl) (Nat.le_refl _) hm rfl (fun v30 iv26 rv27 lv28 hq => ?_)
    obtain ⟨hT29, h⟩ := h v30 iv26 rv27 lv28 hq
    obtain ⟨Q31, hm, h⟩ := h
    refine Z_callVi (M2 := mX11_value) (idx := 217) (d2 := d) (ci := 11) (As := [.int _]) (q := 93) (by decide +kernel) kX11_value lX11_217 rfl rfl (by decide) rfl rfl (by decide +kernel) (Nat.le_of_ble_eq_true rfl) (Nat.le_refl _) hm rfl (fun v36 iv32 rv33 lv34 hq => ?_)
    obtain ⟨hT35, h⟩ := h v36 iv32 rv33 lv34 hq
    refine Z_iadd (q := 94) (by decide +kernel) rfl ?_
    refine Z_goto (q := 98) (off := 4) (by decide +kernel) (by decide) ?_
    refine Z_istore (a := 4) (loc2 := [_, _, _, _, _]) (q := 100) (by decide +kernel) (by decide +kernel) rfl rfl rfl ?_
    refine Z_aload_n (a := 0) (q := 101) (by decide +kernel) rfl rfl ?_
    refine Z_iload (a := 4) (q := 103) (by decide +kernel) rfl rfl ?_
    refine Z_iload_n (a := 2) (q := 104) (by decide +kernel) rfl rfl ?_
    refine Z_icmp_le (t := 112) (off := 8) (q := 107) (by decide +kernel) (by decide) rfl (fun hc => ?_) (fun hc => ?_)
    · replace h := h.1 hc
      refine Z_iload_n (a := 2) (q := 113) (by decide +kernel) rfl rfl ?_
      obtain ⟨Q37, hm, h⟩ := h
      refine Z_callVi (M2 := mX11_good) (idx := 214) (d2 := d) (ci := 11) (As := [.int _]) (q := 116) (by decide +kernel) kX11_good lX11_214 rfl rfl (by decide) rfl rfl (by decide +kernel) (Nat.le_of_ble_eq_true rfl) (Nat.le_refl _) hm rfl (fun v42 iv38 rv39 lv40 hq => ?_)
      obtain ⟨hT41, h⟩ := h v42 iv38 rv39 lv40 hq
      exact Z_iret (ty := .int) (by decide +kernel) rfl rfl rfl ⟨_, rfl, h⟩
    · replace h := h.2 hc
      refine Z_iload (a := 4) (q := 109) (by decide +kernel) rfl rfl ?_
      refine Z_goto (q := 113) (off := 4) (by decide +kernel) (by decide) ?_
      obtain ⟨Q43, hm, h⟩ := h
      refine Z_callVi (M2 := mX11_good) (idx := 214) (d2 := d) (ci := 11) (As := [.int _]) (q := 116) (by decide +kernel) kX11_good lX11_214 rfl rfl (by decide) rfl rfl (by decide +kernel) (Nat.le_of_ble_eq_true rfl) (Nat.le_refl _) hm rfl (fun v48 iv44 rv45 lv46 hq => ?_)
      obtain ⟨hT47, h⟩ := h v48 iv44 rv45 lv46 hq
      exact Z_iret (ty := .int) (by decide +kernel) rfl rfl rfl ⟨_, rfl, h⟩
theorem eX11_mayLie {d : Nat} (x1 : Int32) (x2 : Int32) {iv : zI} {rv : zR} {lv : zJ} {Q : Int32 → zI → zR → zJ → Prop} (h : Zi mX11_mayLie d 0 [some (.ref 174), some (.int x1), some (.int x2), none, none, none] [] iv rv lv Q) : Ci mX11_mayLie d [.ref 174, .int x1, .int x2] iv rv lv Q := Ci.of (by decide +kernel) (by simp [Value.category]) (Nat.le_of_ble_eq_true rfl) rfl h
set_option maxRecDepth 4000 in
theorem bX11_mayLie_0 {d : Nat} (x1 : Int32) (x2 : Int32) {iv : zI} {rv : zR} {lv : zJ} {Q : Int32 → zI → zR → zJ → Prop} (hT : zTop rv) 
    (h : vp_in ((12 : Int32) + x1) 35 ∧ (((iv 176 ((12 : Int32) + x1).toNatClampNeg) ≤ 0 → Zi mX11_mayLie d 31 [some (.ref 174), some (.int x1), some (.int x2), some (.int (0 : Int32)), none, none] [] iv rv lv Q) ∧ (¬ (iv 176 ((12 : Int32) + x1).toNatClampNeg) ≤ 0 → (((iv 176 ((12 : Int32) + x1).toNatClampNeg) - (1 : Int32)) = x2 → Zi mX11_mayLie d 31 [some (.ref 174), some (.int x1), some (.int x2), some (.int (0 : Int32)), none, none] [] iv rv lv Q) ∧ (¬ ((iv 176 ((12 : Int32) + x1).toNatClampNeg) - (1 : Int32)) = x2 → Q (0 : Int32) iv rv lv)))) :
    Zi mX11_mayLie d 0 [some (.ref 174), some (.int x1), some (.int x2), none, none, none] [] iv rv lv Q := by
  unfold Zi
  refine Z_aload_n (a := 0) (q := 1) (by decide +kernel) rfl rfl ?_
  refine g11_14 (idx := 17) (q := 4) (by decide +kernel) fX11_17 rfl (by decide) (t11_14 hT) rfl ?_
  refine Z_bipush (a := 12) (v := 12) (q := 6) (by decide +kernel) (by decide +kernel) rfl ?_
  refine Z_iload_n (a := 1) (q := 7) (by decide +kernel) rfl rfl ?_
  refine Z_iadd (q := 8) (by decide +kernel) rfl ?_
  obtain ⟨hin1, h⟩ := h
  refine Z_iald (len := 35) (q := 9) (by decide +kernel) rfl (by decide) hin1 rfl ?_
  refine Z_if_le (t := 29) (off := 20) (q := 12) (by decide +kernel) (by decide) rfl (fun hc => ?_) (fun hc => ?_)
  · replace h := h.1 hc
    refine Z_iconst (a := 0) (v := 0) (q := 30) (by decide +kernel) (by decide +kernel) rfl ?_
    refine Z_istore_n (a := 3) (loc2 := [_, _, _, _, _, _]) (q := 31) (by decide +kernel) (by decide +kernel) rfl rfl rfl ?_
    exact h
  · replace h := h.2 hc
    refine Z_aload_n (a := 0) (q := 13) (by decide +kernel) rfl rfl ?_
    refine g11_14 (idx := 17) (q := 16) (by decide +kernel) fX11_17 rfl (by decide) (t11_14 hT) rfl ?_
    refine Z_bipush (a := 12) (v := 12) (q := 18) (by decide +kernel) (by decide +kernel) rfl ?_
    refine Z_iload_n (a := 1) (q := 19) (by decide +kernel) rfl rfl ?_
    refine Z_iadd (q := 20) (by decide +kernel) rfl ?_
    refine Z_iald (len := 35) (q := 21) (by decide +kernel) rfl (by decide) hin1 rfl ?_
    refine Z_iconst (a := 1) (v := 1) (q := 22) (by decide +kernel) (by decide +kernel) rfl ?_
    refine Z_isub (q := 23) (by decide +kernel) rfl ?_
    refine Z_iload_n (a := 2) (q := 24) (by decide +kernel) rfl rfl ?_
    refine Z_icmp_eq (t := 29) (off := 5) (q := 27) (by decide +kernel) (by decide) rfl (fun hc => ?_) (fun hc => ?_)
    · replace h := h.1 hc
      refine Z_iconst (a := 0) (v := 0) (q := 30) (by decide +kernel) (by decide +kernel) rfl ?_
      refine Z_istore_n (a := 3) (loc2 := [_, _, _, _, _, _]) (q := 31) (by decide +kernel) (by decide +kernel) rfl rfl rfl ?_
      exact h
    · replace h := h.2 hc
      refine Z_iconst (a := 0) (v := 0) (q := 28) (by decide +kernel) (by decide +kernel) rfl ?_
      exact Z_iret (ty := .boolean) (by decide +kernel) rfl rfl rfl ⟨_, rfl, h⟩
set_option maxRecDepth 4000 in
theorem bX11_mayLie_31 {d : Nat} (x1 : Int32) (x2 : Int32) (x3 : Int32) {iv : zI} {rv : zR} {lv : zJ} {Q : Int32 → zI → zR → zJ → Prop} (hT : zTop rv) 
    (h : ((iv 176 22) ≤ x3 → Q (1 : Int32) iv rv lv) ∧ (¬ (iv 176 22) ≤ x3 → vp_in ((23 : Int32) + ((2 : Int32) * x3)) 35 ∧ (vp_in (((23 : Int32) + ((2 : Int32) * x3)) + (1 : Int32)) 35 ∧ ((¬ (iv 176 ((23 : Int32) + ((2 : Int32) * x3)).toNatClampNeg) = x1 → Zi mX11_mayLie d 93 [some (.ref 174), some (.int x1), some (.int x2), some (.int x3), some (.int (iv 176 ((23 : Int32) + ((2 : Int32) * x3)).toNatClampNeg)), some (.int (iv 176 (((23 : Int32) + ((2 : Int32) * x3)) + (1 : Int32)).toNatClampNeg))] [] iv rv lv Q) ∧ ((iv 176 ((23 : Int32) + ((2 : Int32) * x3)).toNatClampNeg) = x1 → (x1 ≤ (iv 176 (((23 : Int32) + ((2 : Int32) * x3)) + (1 : Int32)).toNatClampNeg) → Zi mX11_mayLie d 93 [some (.ref 174), some (.int x1), some (.int x2), some (.int x3), some (.int (iv 176 ((23 : Int32) + ((2 : Int32) * x3)).toNatClampNeg)), some (.int (iv 176 (((23 : Int32) + ((2 : Int32) * x3)) + (1 : Int32)).toNatClampNeg))] [] iv rv lv Q) ∧ (¬ x1 ≤ (iv 176 (((23 : Int32) + ((2 : Int32) * x3)) + (1 : Int32)).toNatClampNeg) → vp_in (iv 176 (((23 : Int32) + ((2 : Int32) * x3)) + (1 : Int32)).toNatClampNeg) 10 ∧ (((iv 181 (iv 176 (((23 : Int32) + ((2 : Int32) * x3)) + (1 : Int32)).toNatClampNeg).toNatClampNeg) = x2 → Q (0 : Int32) iv rv lv) ∧ (¬ (iv 181 (iv 176 (((23 : Int32) + ((2 : Int32) * x3)) + (1 : Int32)).toNatClampNeg).toNatClampNeg) = x2 → Zi mX11_mayLie d 93 [some (.ref 174), some (.int x1), some (.int x2), some (.int x3), some (.int (iv 176 ((23 : Int32) + ((2 : Int32) * x3)).toNatClampNeg)), some (.int (iv 176 (((23 : Int32) + ((2 : Int32) * x3)) + (1 : Int32)).toNatClampNeg))] [] iv rv lv Q)))))))) :
    Zi mX11_mayLie d 31 [some (.ref 174), some (.int x1), some (.int x2), some (.int x3), none, none] [] iv rv lv Q := by
  unfold Zi
  refine Z_iload_n (a := 3) (q := 32) (by decide +kernel) rfl rfl ?_
  refine Z_aload_n (a := 0) (q := 33) (by decide +kernel) rfl rfl ?_
  refine g11_14 (idx := 17) (q := 36) (by decide +kernel) fX11_17 rfl (by decide) (t11_14 hT) rfl ?_
  refine Z_bipush (a := 22) (v := 22) (q := 38) (by decide +kernel) (by decide +kernel) rfl ?_
  refine Z_iald (len := 35) (q := 39) (by decide +kernel) rfl (by decide) (by unfold vp_in; decide) rfl ?_
  refine Z_icmp_ge (t := 124) (off := 85) (q := 42) (by decide +kernel) (by decide) rfl (fun hc => ?_) (fun hc => ?_)
  · replace h := h.1 hc
    refine Z_iconst (a := 1) (v := 1) (q := 125) (by decide +kernel) (by decide +kernel) rfl ?_
    exact Z_iret (ty := .boolean) (by decide +kernel) rfl rfl rfl ⟨_, rfl, h⟩
  · replace h := h.2 hc
    refine Z_aload_n (a := 0) (q := 43) (by decide +kernel) rfl rfl ?_
    refine g11_14 (idx := 17) (q := 46) (by decide +kernel) fX11_17 rfl (by decide) (t11_14 hT) rfl ?_
    refine Z_bipush (a := 23) (v := 23) (q := 48) (by decide +kernel) (by decide +kernel) rfl ?_
    refine Z_iconst (a := 2) (v := 2) (q := 49) (by decide +kernel) (by decide +kernel) rfl ?_
    refine Z_iload_n (a := 3) (q := 50) (by decide +kernel) rfl rfl ?_
    refine Z_imul (q := 51) (by decide +kernel) rfl ?_
    refine Z_iadd (q := 52) (by decide +kernel) rfl ?_
    obtain ⟨hin1, h⟩ := h
    refine Z_iald (len := 35) (q := 53) (by decide +kernel) rfl (by decide) hin1 rfl ?_
    refine Z_istore (a := 4) (loc2 := [_, _, _, _, _, _]) (q := 55) (by decide +kernel) (by decide +kernel) rfl rfl rfl ?_
    refine Z_aload_n (a := 0) (q := 56) (by decide +kernel) rfl rfl ?_
    refine g11_14 (idx := 17) (q := 59) (by decide +kernel) fX11_17 rfl (by decide) (t11_14 hT) rfl ?_
    refine Z_bipush (a := 23) (v := 23) (q := 61) (by decide +kernel) (by decide +kernel) rfl ?_
    refine Z_iconst (a := 2) (v := 2) (q := 62) (by decide +kernel) (by decide +kernel) rfl ?_
    refine Z_iload_n (a := 3) (q := 63) (by decide +kernel) rfl rfl ?_
    refine Z_imul (q := 64) (by decide +kernel) rfl ?_
    refine Z_iadd (q := 65) (by decide +kernel) rfl ?_
    refine Z_iconst (a := 1) (v := 1) (q := 66) (by decide +kernel) (by decide +kernel) rfl ?_
    refine Z_iadd (q := 67) (by decide +kernel) rfl ?_
    obtain ⟨hin2, h⟩ := h
    refine Z_iald (len := 35) (q := 68) (by decide +kernel) rfl (by decide) hin2 rfl ?_
    refine Z_istore (a := 5) (loc2 := [_, _, _, _, _, _]) (q := 70) (by decide +kernel) (by decide +kernel) rfl rfl rfl ?_
    refine Z_iload (a := 4) (q := 72) (by decide +kernel) rfl rfl ?_
    refine Z_iload_n (a := 1) (q := 73) (by decide +kernel) rfl rfl ?_
    refine Z_icmp_ne (t := 93) (off := 20) (q := 76) (by decide +kernel) (by decide) rfl (fun hc => ?_) (fun hc => ?_)
    · replace h := h.1 hc
      exact h
    · replace h := h.2 hc
      refine Z_iload (a := 5) (q := 78) (by decide +kernel) rfl rfl ?_
      refine Z_iload_n (a := 1) (q := 79) (by decide +kernel) rfl rfl ?_
      refine Z_icmp_ge (t := 93) (off := 14) (q := 82) (by decide +kernel) (by decide) rfl (fun hc => ?_) (fun hc => ?_)
      · replace h := h.1 hc
        exact h
      · replace h := h.2 hc
        refine Z_aload_n (a := 0) (q := 83) (by decide +kernel) rfl rfl ?_
        refine g11_22 (idx := 33) (q := 86) (by decide +kernel) fX11_33 rfl (by decide) (t11_22 hT) rfl ?_
        refine Z_iload (a := 5) (q := 88) (by decide +kernel) rfl rfl ?_
        obtain ⟨hin3, h⟩ := h
        refine Z_iald (len := 10) (q := 89) (by decide +kernel) rfl (by decide) hin3 rfl ?_
        refine Z_iload_n (a := 2) (q := 90) (by decide +kernel) rfl rfl ?_
        refine Z_icmp_eq (t := 116) (off := 26) (q := 93) (by decide +kernel) (by decide) rfl (fun hc => ?_) (fun hc => ?_)
        · replace h := h.1 hc
          refine Z_iconst (a := 0) (v := 0) (q := 117) (by decide +kernel) (by decide +kernel) rfl ?_
          exact Z_iret (ty := .boolean) (by decide +kernel) rfl rfl rfl ⟨_, rfl, h⟩
        · replace h := h.2 hc
          exact h
set_option maxRecDepth 4000 in
theorem bX11_mayLie_93 {d : Nat} (x1 : Int32) (x2 : Int32) (x3 : Int32) (x4 : Int32) (x5 : Int32) {iv : zI} {rv : zR} {lv : zJ} {Q : Int32 → zI → zR → zJ → Prop} (hT : zTop rv) 
    (h : (¬ x5 = x1 → Zi mX11_mayLie d 31 [some (.ref 174), some (.int x1), some (.int x2), some (.int (x3 + 1)), none, none] [] iv rv lv Q) ∧ (x5 = x1 → (x1 ≤ x4 → Zi mX11_mayLie d 31 [some (.ref 174), some (.int x1), some (.int x2), some (.int (x3 + 1)), none, none] [] iv rv lv Q) ∧ (¬ x1 ≤ x4 → vp_in x4 10 ∧ ((¬ (iv 181 x4.toNatClampNeg) = x2 → Zi mX11_mayLie d 31 [some (.ref 174), some (.int x1), some (.int x2), some (.int (x3 + 1)), none, none] [] iv rv lv Q) ∧ ((iv 181 x4.toNatClampNeg) = x2 → Q (0 : Int32) iv rv lv))))) :
    Zi mX11_mayLie d 93 [some (.ref 174), some (.int x1), some (.int x2), some (.int x3), some (.int x4), some (.int x5)] [] iv rv lv Q := by
  unfold Zi
  refine Z_iload (a := 5) (q := 95) (by decide +kernel) rfl rfl ?_
  refine Z_iload_n (a := 1) (q := 96) (by decide +kernel) rfl rfl ?_
  refine Z_icmp_ne (t := 118) (off := 22) (q := 99) (by decide +kernel) (by decide) rfl (fun hc => ?_) (fun hc => ?_)
  · replace h := h.1 hc
    refine Z_iinc (a := 3) (b := 1) (v := _ + 1) (loc2 := [_, _, _, _, _, _]) (q := 121) (by decide +kernel) rfl (zinc _) (by decide +kernel) rfl rfl rfl ?_
    refine Z_goto (q := 31) (off := -90) (by decide +kernel) (by decide) ?_
    exact Z_forget h (And.intro rfl (And.intro rfl (And.intro rfl (And.intro rfl trivial))))
  · replace h := h.2 hc
    refine Z_iload (a := 4) (q := 101) (by decide +kernel) rfl rfl ?_
    refine Z_iload_n (a := 1) (q := 102) (by decide +kernel) rfl rfl ?_
    refine Z_icmp_ge (t := 118) (off := 16) (q := 105) (by decide +kernel) (by decide) rfl (fun hc => ?_) (fun hc => ?_)
    · replace h := h.1 hc
      refine Z_iinc (a := 3) (b := 1) (v := _ + 1) (loc2 := [_, _, _, _, _, _]) (q := 121) (by decide +kernel) rfl (zinc _) (by decide +kernel) rfl rfl rfl ?_
      refine Z_goto (q := 31) (off := -90) (by decide +kernel) (by decide) ?_
      exact Z_forget h (And.intro rfl (And.intro rfl (And.intro rfl (And.intro rfl trivial))))
    · replace h := h.2 hc
      refine Z_aload_n (a := 0) (q := 106) (by decide +kernel) rfl rfl ?_
      refine g11_22 (idx := 33) (q := 109) (by decide +kernel) fX11_33 rfl (by decide) (t11_22 hT) rfl ?_
      refine Z_iload (a := 4) (q := 111) (by decide +kernel) rfl rfl ?_
      obtain ⟨hin1, h⟩ := h
      refine Z_iald (len := 10) (q := 112) (by decide +kernel) rfl (by decide) hin1 rfl ?_
      refine Z_iload_n (a := 2) (q := 113) (by decide +kernel) rfl rfl ?_
      refine Z_icmp_ne (t := 118) (off := 5) (q := 116) (by decide +kernel) (by decide) rfl (fun hc => ?_) (fun hc => ?_)
      · replace h := h.1 hc
        refine Z_iinc (a := 3) (b := 1) (v := _ + 1) (loc2 := [_, _, _, _, _, _]) (q := 121) (by decide +kernel) rfl (zinc _) (by decide +kernel) rfl rfl rfl ?_
        refine Z_goto (q := 31) (off := -90) (by decide +kernel) (by decide) ?_
        exact Z_forget h (And.intro rfl (And.intro rfl (And.intro rfl (And.intro rfl trivial))))
      · replace h := h.2 hc
        refine Z_iconst (a := 0) (v := 0) (q := 117) (by decide +kernel) (by decide +kernel) rfl ?_
        exact Z_iret (ty := .boolean) (by decide +kernel) rfl rfl rfl ⟨_, rfl, h⟩
theorem eX11_goes {d : Nat} (x1 : Int32) (x2 : Int32) {iv : zI} {rv : zR} {lv : zJ} {Q : zI → zR → zJ → Prop} (h : Zv mX11_goes (d + 1) 0 [some (.ref 174), some (.int x1), some (.int x2), none, none, none] [] iv rv lv Q) : Cv mX11_goes (d + 1) [.ref 174, .int x1, .int x2] iv rv lv Q := Cv.of (by decide +kernel) (by simp [Value.category]) (Nat.le_of_ble_eq_true rfl) rfl h
set_option maxRecDepth 4000 in
theorem bX11_goes_0 {d : Nat} (x1 : Int32) (x2 : Int32) {iv : zI} {rv : zR} {lv : zJ} {Q : zI → zR → zJ → Prop} (hT : zTop rv) 
    (h : (¬ x2 = (iv 176 0) → Zv mX11_goes (d + 1) 146 [some (.ref 174), some (.int x1), some (.int x2), some (.int (0 : Int32)), none, none] [] iv rv lv Q) ∧ (x2 = (iv 176 0) → ∃ Q1 : Int32 → zI → zR → zJ → Prop, Ci mX11_spread d [.ref 174, .int x1] iv rv lv Q1 ∧ ∀ (v6 : Int32) (iv2 : zI) (rv3 : zR) (lv4 : zJ), Q1 v6 iv2 rv3 lv4 → zTop rv3 ∧ (∃ Q7 : Int32 → zI → zR → zJ → Prop, Ci mX11_top d [.ref 174, .int x1] iv2 rv3 lv4 Q7 ∧ ∀ (v12 : Int32) (iv8 : zI) (rv9 : zR) (lv10 : zJ), Q7 v12 iv8 rv9 lv10 → zTop rv9 ∧ (((iv8 174 44) = 0 → Zv mX11_goes (d + 1) 49 [some (.ref 174), some (.int x1), some (.int x2), some (.int v6), some (.int v12), none] [.int v12, .ref 174] iv8 rv9 lv10 Q) ∧ (¬ (iv8 174 44) = 0 → ((iv8 174 47) ≤ v12 → Zv mX11_goes (d + 1) 49 [some (.ref 174), some (.int x1), some (.int x2), some (.int v6), some (.int v12), none] [.int (iv8 174 47), .ref 174] iv8 rv9 lv10 Q) ∧ (¬ (iv8 174 47) ≤ v12 → Zv mX11_goes (d + 1) 49 [some (.ref 174), some (.int x1), some (.int x2), some (.int v6), some (.int v12), none] [.int v12, .ref 174] iv8 rv9 lv10 Q)))))) :
    Zv mX11_goes (d + 1) 0 [some (.ref 174), some (.int x1), some (.int x2), none, none, none] [] iv rv lv Q := by
  unfold Zv
  refine Z_iload_n (a := 2) (q := 1) (by decide +kernel) rfl rfl ?_
  refine Z_aload_n (a := 0) (q := 2) (by decide +kernel) rfl rfl ?_
  refine g11_14 (idx := 17) (q := 5) (by decide +kernel) fX11_17 rfl (by decide) (t11_14 hT) rfl ?_
  refine Z_iconst (a := 0) (v := 0) (q := 6) (by decide +kernel) (by decide +kernel) rfl ?_
  refine Z_iald (len := 35) (q := 7) (by decide +kernel) rfl (by decide) (by unfold vp_in; decide) rfl ?_
  refine Z_icmp_ne (t := 144) (off := 137) (q := 10) (by decide +kernel) (by decide) rfl (fun hc => ?_) (fun hc => ?_)
  · replace h := h.1 hc
    refine Z_iconst (a := 0) (v := 0) (q := 145) (by decide +kernel) (by decide +kernel) rfl ?_
    refine Z_istore_n (a := 3) (loc2 := [_, _, _, _, _, _]) (q := 146) (by decide +kernel) (by decide +kernel) rfl rfl rfl ?_
    exact h
  · replace h := h.2 hc
    refine Z_aload_n (a := 0) (q := 11) (by decide +kernel) rfl rfl ?_
    refine Z_iload_n (a := 1) (q := 12) (by decide +kernel) rfl rfl ?_
    obtain ⟨Q1, hm, h⟩ := h
    refine Z_callVi (M2 := mX11_spread) (idx := 244) (d2 := d) (ci := 11) (As := [.int _]) (q := 15) (by decide +kernel) kX11_spread lX11_244 rfl rfl (by decide) rfl rfl (by decide +kernel) (Nat.le_of_ble_eq_true rfl) (Nat.le_refl _) hm rfl (fun v6 iv2 rv3 lv4 hq => ?_)
    obtain ⟨hT5, h⟩ := h v6 iv2 rv3 lv4 hq
    refine Z_istore_n (a := 3) (loc2 := [_, _, _, _, _, _]) (q := 16) (by decide +kernel) (by decide +kernel) rfl rfl rfl ?_
    refine Z_aload_n (a := 0) (q := 17) (by decide +kernel) rfl rfl ?_
    refine Z_iload_n (a := 1) (q := 18) (by decide +kernel) rfl rfl ?_
    obtain ⟨Q7, hm, h⟩ := h
    refine Z_callVi (M2 := mX11_top) (idx := 235) (d2 := d) (ci := 11) (As := [.int _]) (q := 21) (by decide +kernel) kX11_top lX11_235 rfl rfl (by decide) rfl rfl (by decide +kernel) (Nat.le_of_ble_eq_true rfl) (Nat.le_refl _) hm rfl (fun v12 iv8 rv9 lv10 hq => ?_)
    obtain ⟨hT11, h⟩ := h v12 iv8 rv9 lv10 hq
    refine Z_istore (a := 4) (loc2 := [_, _, _, _, _, _]) (q := 23) (by decide +kernel) (by decide +kernel) rfl rfl rfl ?_
    refine Z_aload_n (a := 0) (q := 24) (by decide +kernel) rfl rfl ?_
    refine Z_aload_n (a := 0) (q := 25) (by decide +kernel) rfl rfl ?_
    refine g11_44 (idx := 316) (q := 28) (by decide +kernel) fX11_316 rfl (by decide) rfl ?_
    refine Z_if_eq (t := 40) (off := 12) (q := 31) (by decide +kernel) (by decide) rfl (fun hc => ?_) (fun hc => ?_)
    · replace h := h.1 hc
      refine Z_iload (a := 4) (q := 42) (by decide +kernel) rfl rfl ?_
      refine Z_goto (q := 49) (off := 7) (by decide +kernel) (by decide) ?_
      exact h
    · replace h := h.2 hc
      refine Z_iload (a := 4) (q := 33) (by decide +kernel) rfl rfl ?_
      refine Z_aload_n (a := 0) (q := 34) (by decide +kernel) rfl rfl ?_
      refine g11_47 (idx := 319) (q := 37) (by decide +kernel) fX11_319 rfl (by decide) rfl ?_
      refine Z_icmp_ge (t := 45) (off := 8) (q := 40) (by decide +kernel) (by decide) rfl (fun hc => ?_) (fun hc => ?_)
      · replace h := h.1 hc
        refine Z_aload_n (a := 0) (q := 46) (by decide +kernel) rfl rfl ?_
        refine g11_47 (idx := 319) (q := 49) (by decide +kernel) fX11_319 rfl (by decide) rfl ?_
        exact h
      · replace h := h.2 hc
        refine Z_iload (a := 4) (q := 42) (by decide +kernel) rfl rfl ?_
        refine Z_goto (q := 49) (off := 7) (by decide +kernel) (by decide) ?_
        exact h
set_option maxRecDepth 4000 in
theorem bX11_goes_49 {d : Nat} (x1 : Int32) (x2 : Int32) (x3 : Int32) (x4 : Int32) (y0 : Int32) {iv : zI} {rv : zR} {lv : zJ} {Q : zI → zR → zJ → Prop} (hT : zTop rv) 
    (h : ∀ iv1 : zI, iv1 = zu iv 174 47 y0 → ((iv1 174 44) = 0 → ∀ iv2 : zI, iv2 = zu iv1 174 45 x3 → ∀ iv3 : zI, iv3 = zu iv2 174 46 (0 : Int32) → Zv mX11_goes (d + 1) 80 [some (.ref 174), some (.int x1), some (.int x2), some (.int x3), some (.int x4), some (.int (0 : Int32))] [] iv3 rv lv Q) ∧ (¬ (iv1 174 44) = 0 → ((iv1 174 45) ≤ x3 → Zv mX11_goes (d + 1) 111 [some (.ref 174), some (.int x1), some (.int x2), some (.int x3), some (.int x4), none] [] iv1 rv lv Q) ∧ (¬ (iv1 174 45) ≤ x3 → ∀ iv4 : zI, iv4 = zu iv1 174 45 x3 → ∀ iv5 : zI, iv5 = zu iv4 174 46 (0 : Int32) → Zv mX11_goes (d + 1) 80 [some (.ref 174), some (.int x1), some (.int x2), some (.int x3), some (.int x4), some (.int (0 : Int32))] [] iv5 rv lv Q))) :
    Zv mX11_goes (d + 1) 49 [some (.ref 174), some (.int x1), some (.int x2), some (.int x3), some (.int x4), none] [.int y0, .ref 174] iv rv lv Q := by
  unfold Zv
  refine p11_47 (idx := 319) (q := 52) (by decide +kernel) fX11_319 rfl (by decide) rfl ?_
  replace h := h _ rfl
  refine Z_aload_n (a := 0) (q := 53) (by decide +kernel) rfl rfl ?_
  refine g11_44 (idx := 316) (q := 56) (by decide +kernel) fX11_316 rfl (by decide) rfl ?_
  refine Z_if_eq (t := 67) (off := 11) (q := 59) (by decide +kernel) (by decide) rfl (fun hc => ?_) (fun hc => ?_)
  · replace h := h.1 hc
    refine Z_aload_n (a := 0) (q := 68) (by decide +kernel) rfl rfl ?_
    refine Z_iload_n (a := 3) (q := 69) (by decide +kernel) rfl rfl ?_
    refine p11_45 (idx := 322) (q := 72) (by decide +kernel) fX11_322 rfl (by decide) rfl ?_
    replace h := h _ rfl
    refine Z_aload_n (a := 0) (q := 73) (by decide +kernel) rfl rfl ?_
    refine Z_iconst (a := 0) (v := 0) (q := 74) (by decide +kernel) (by decide +kernel) rfl ?_
    refine p11_46 (idx := 325) (q := 77) (by decide +kernel) fX11_325 rfl (by decide) rfl ?_
    replace h := h _ rfl
    refine Z_iconst (a := 0) (v := 0) (q := 78) (by decide +kernel) (by decide +kernel) rfl ?_
    refine Z_istore (a := 5) (loc2 := [_, _, _, _, _, _]) (q := 80) (by decide +kernel) (by decide +kernel) rfl rfl rfl ?_
    exact h
  · replace h := h.2 hc
    refine Z_iload_n (a := 3) (q := 60) (by decide +kernel) rfl rfl ?_
    refine Z_aload_n (a := 0) (q := 61) (by decide +kernel) rfl rfl ?_
    refine g11_45 (idx := 322) (q := 64) (by decide +kernel) fX11_322 rfl (by decide) rfl ?_
    refine Z_icmp_ge (t := 111) (off := 47) (q := 67) (by decide +kernel) (by decide) rfl (fun hc => ?_) (fun hc => ?_)
    · replace h := h.1 hc
      exact h
    · replace h := h.2 hc
      refine Z_aload_n (a := 0) (q := 68) (by decide +kernel) rfl rfl ?_
      refine Z_iload_n (a := 3) (q := 69) (by decide +kernel) rfl rfl ?_
      refine p11_45 (idx := 322) (q := 72) (by decide +kernel) fX11_322 rfl (by decide) rfl ?_
      replace h := h _ rfl
      refine Z_aload_n (a := 0) (q := 73) (by decide +kernel) rfl rfl ?_
      refine Z_iconst (a := 0) (v := 0) (q := 74) (by decide +kernel) (by decide +kernel) rfl ?_
      refine p11_46 (idx := 325) (q := 77) (by decide +kernel) fX11_325 rfl (by decide) rfl ?_
      replace h := h _ rfl
      refine Z_iconst (a := 0) (v := 0) (q := 78) (by decide +kernel) (by decide +kernel) rfl ?_
      refine Z_istore (a := 5) (loc2 := [_, _, _, _, _, _]) (q := 80) (by decide +kernel) (by decide +kernel) rfl rfl rfl ?_
      exact h
set_option maxRecDepth 4000 in
theorem bX11_goes_80 {d : Nat} (x1 : Int32) (x2 : Int32) (x3 : Int32) (x4 : Int32) (x5 : Int32) {iv : zI} {rv : zR} {lv : zJ} {Q : zI → zR → zJ → Prop} (hT : zTop rv) 
    (h : ((iv 176 0) ≤ x5 → Zv mX11_goes (d + 1) 111 [some (.ref 174), some (.int x1), some (.int x2), some (.int x3), some (.int x4), none] [] iv rv lv Q) ∧ (¬ (iv 176 0) ≤ x5 → vp_in x5 10 ∧ (∀ iv2 : zI, iv2 = zu iv 183 x5.toNatClampNeg (iv 181 x5.toNatClampNeg) → Zv mX11_goes (d + 1) 80 [some (.ref 174), some (.int x1), some (.int x2), some (.int x3), some (.int x4), some (.int (x5 + 1))] [] iv2 rv lv Q))) :
    Zv mX11_goes (d + 1) 80 [some (.ref 174), some (.int x1), some (.int x2), some (.int x3), some (.int x4), some (.int x5)] [] iv rv lv Q := by
  unfold Zv
  refine Z_iload (a := 5) (q := 82) (by decide +kernel) rfl rfl ?_
  refine Z_aload_n (a := 0) (q := 83) (by decide +kernel) rfl rfl ?_
  refine g11_14 (idx := 17) (q := 86) (by decide +kernel) fX11_17 rfl (by decide) (t11_14 hT) rfl ?_
  refine Z_iconst (a := 0) (v := 0) (q := 87) (by decide +kernel) (by decide +kernel) rfl ?_
  refine Z_iald (len := 35) (q := 88) (by decide +kernel) rfl (by decide) (by unfold vp_in; decide) rfl ?_
  refine Z_icmp_ge (t := 111) (off := 23) (q := 91) (by decide +kernel) (by decide) rfl (fun hc => ?_) (fun hc => ?_)
  · replace h := h.1 hc
    exact Z_forget h (And.intro rfl (And.intro rfl (And.intro rfl (And.intro rfl (And.intro rfl trivial)))))
  · replace h := h.2 hc
    refine Z_aload_n (a := 0) (q := 92) (by decide +kernel) rfl rfl ?_
    refine g11_24 (idx := 39) (q := 95) (by decide +kernel) fX11_39 rfl (by decide) (t11_24 hT) rfl ?_
    refine Z_iload (a := 5) (q := 97) (by decide +kernel) rfl rfl ?_
    refine Z_aload_n (a := 0) (q := 98) (by decide +kernel) rfl rfl ?_
    refine g11_22 (idx := 33) (q := 101) (by decide +kernel) fX11_33 rfl (by decide) (t11_22 hT) rfl ?_
    refine Z_iload (a := 5) (q := 103) (by decide +kernel) rfl rfl ?_
    obtain ⟨hin1, h⟩ := h
    refine Z_iald (len := 10) (q := 104) (by decide +kernel) rfl (by decide) hin1 rfl ?_
    refine Z_iast (len := 10) (q := 105) (by decide +kernel) rfl (by decide) hin1 rfl ?_
    replace h := h _ rfl
    refine Z_iinc (a := 5) (b := 1) (v := _ + 1) (loc2 := [_, _, _, _, _, _]) (q := 108) (by decide +kernel) rfl (zinc _) (by decide +kernel) rfl rfl rfl ?_
    refine Z_goto (q := 80) (off := -28) (by decide +kernel) (by decide) ?_
    exact h
set_option maxRecDepth 4000 in
theorem bX11_goes_111 {d : Nat} (x1 : Int32) (x2 : Int32) (x3 : Int32) (x4 : Int32) {iv : zI} {rv : zR} {lv : zJ} {Q : zI → zR → zJ → Prop} (hT : zTop rv) 
    (h : (¬ x3 = (iv 174 45) → ∀ iv1 : zI, iv1 = zu iv 174 46 ((iv 174 46) + (0 : Int32)) → ∀ iv2 : zI, iv2 = zu iv1 174 44 ((iv1 174 44) + (1 : Int32)) → Q iv2 rv lv) ∧ (x3 = (iv 174 45) → ∀ iv3 : zI, iv3 = zu iv 174 46 ((iv 174 46) + (1 : Int32)) → ∀ iv4 : zI, iv4 = zu iv3 174 44 ((iv3 174 44) + (1 : Int32)) → Q iv4 rv lv)) :
    Zv mX11_goes (d + 1) 111 [some (.ref 174), some (.int x1), some (.int x2), some (.int x3), some (.int x4), none] [] iv rv lv Q := by
  unfold Zv
  refine Z_aload_n (a := 0) (q := 112) (by decide +kernel) rfl rfl ?_
  refine Z_dup (q := 113) (by decide +kernel) rfl rfl ?_
  refine g11_46 (idx := 325) (q := 116) (by decide +kernel) fX11_325 rfl (by decide) rfl ?_
  refine Z_iload_n (a := 3) (q := 117) (by decide +kernel) rfl rfl ?_
  refine Z_aload_n (a := 0) (q := 118) (by decide +kernel) rfl rfl ?_
  refine g11_45 (idx := 322) (q := 121) (by decide +kernel) fX11_322 rfl (by decide) rfl ?_
  refine Z_icmp_ne (t := 128) (off := 7) (q := 124) (by decide +kernel) (by decide) rfl (fun hc => ?_) (fun hc => ?_)
  · replace h := h.1 hc
    refine Z_iconst (a := 0) (v := 0) (q := 129) (by decide +kernel) (by decide +kernel) rfl ?_
    refine Z_iadd (q := 130) (by decide +kernel) rfl ?_
    refine p11_46 (idx := 325) (q := 133) (by decide +kernel) fX11_325 rfl (by decide) rfl ?_
    replace h := h _ rfl
    refine Z_aload_n (a := 0) (q := 134) (by decide +kernel) rfl rfl ?_
    refine Z_dup (q := 135) (by decide +kernel) rfl rfl ?_
    refine g11_44 (idx := 316) (q := 138) (by decide +kernel) fX11_316 rfl (by decide) rfl ?_
    refine Z_iconst (a := 1) (v := 1) (q := 139) (by decide +kernel) (by decide +kernel) rfl ?_
    refine Z_iadd (q := 140) (by decide +kernel) rfl ?_
    refine p11_44 (idx := 316) (q := 143) (by decide +kernel) fX11_316 rfl (by decide) rfl ?_
    replace h := h _ rfl
    exact Z_vret (by decide +kernel) rfl rfl ⟨rfl, h⟩
  · replace h := h.2 hc
    refine Z_iconst (a := 1) (v := 1) (q := 125) (by decide +kernel) (by decide +kernel) rfl ?_
    refine Z_goto (q := 129) (off := 4) (by decide +kernel) (by decide) ?_
    refine Z_iadd (q := 130) (by decide +kernel) rfl ?_
    refine p11_46 (idx := 325) (q := 133) (by decide +kernel) fX11_325 rfl (by decide) rfl ?_
    replace h := h _ rfl
    refine Z_aload_n (a := 0) (q := 134) (by decide +kernel) rfl rfl ?_
    refine Z_dup (q := 135) (by decide +kernel) rfl rfl ?_
    refine g11_44 (idx := 316) (q := 138) (by decide +kernel) fX11_316 rfl (by decide) rfl ?_
    refine Z_iconst (a := 1) (v := 1) (q := 139) (by decide +kernel) (by decide +kernel) rfl ?_
    refine Z_iadd (q := 140) (by decide +kernel) rfl ?_
    refine p11_44 (idx := 316) (q := 143) (by decide +kernel) fX11_316 rfl (by decide) rfl ?_
    replace h := h _ rfl
    exact Z_vret (by decide +kernel) rfl rfl ⟨rfl, h⟩
set_option maxRecDepth 4000 in
theorem bX11_goes_146 {d : Nat} (x1 : Int32) (x2 : Int32) (x3 : Int32) {iv : zI} {rv : zR} {lv : zJ} {Q : zI → zR → zJ → Prop} (hT : zTop rv) 
    (h : (x1 ≤ x3 → Q iv rv lv) ∧ (¬ x1 ≤ x3 → ∃ Q1 : Int32 → zI → zR → zJ → Prop, Ci mX11_mayLie d [.ref 174, .int x2, .int x3] iv rv lv Q1 ∧ ∀ (v6 : Int32) (iv2 : zI) (rv3 : zR) (lv4 : zJ), Q1 v6 iv2 rv3 lv4 → zTop rv3 ∧ ((¬ v6 = 0 → vp_in x2 10 ∧ (∀ iv8 : zI, iv8 = zu iv2 181 x2.toNatClampNeg x3 → vp_in x3 4 ∧ (∃ Q10 : Int32 → zI → zR → zJ → Prop, Ci mX11_value d [.ref 174, .int x2] iv8 rv3 lv4 Q10 ∧ ∀ (v15 : Int32) (iv11 : zI) (rv12 : zR) (lv13 : zJ), Q10 v15 iv11 rv12 lv13 → zTop rv12 ∧ (∀ iv16 : zI, iv16 = zu iv11 182 x3.toNatClampNeg ((iv8 182 x3.toNatClampNeg) + v15) → ∃ Q17 : zI → zR → zJ → Prop, Cv mX11_goes d [.ref 174, .int x1, .int (x2 + (1 : Int32))] iv16 rv12 lv13 Q17 ∧ ∀ (iv18 : zI) (rv19 : zR) (lv20 : zJ), Q17 iv18 rv19 lv20 → zTop rv19 ∧ (∃ Q23 : Int32 → zI → zR → zJ → Prop, Ci mX11_value d [.ref 174, .int x2] iv18 rv19 lv20 Q23 ∧ ∀ (v28 : Int32) (iv24 : zI) (rv25 : zR) (lv26 : zJ), Q23 v28 iv24 rv25 lv26 → zTop rv25 ∧ (∀ iv29 : zI, iv29 = zu iv24 182 x3.toNatClampNeg ((iv18 182 x3.toNatClampNeg) - v28) → Zv mX11_goes (d + 1) 146 [some (.ref 174), some (.int x1), some (.int x2), some (.int (x3 + 1)), none, none] [] iv29 rv25 lv26 Q)))))) ∧ (v6 = 0 → Zv mX11_goes (d + 1) 146 [some (.ref 174), some (.int x1), some (.int x2), some (.int (x3 + 1)), none, none] [] iv2 rv3 lv4 Q)))) :
    Zv mX11_goes (d + 1) 146 [some (.ref 174), some (.int x1), some (.int x2), some (.int x3), none, none] [] iv rv lv Q := by
  unfold Zv
  refine Z_iload_n (a := 3) (q := 147) (by decide +kernel) rfl rfl ?_
  refine Z_iload_n (a := 1) (q := 148) (by decide +kernel) rfl rfl ?_
  refine Z_icmp_ge (t := 212) (off := 64) (q := 151) (by decide +kernel) (by decide) rfl (fun hc => ?_) (fun hc => ?_)
  · replace h := h.1 hc
    exact Z_vret (by decide +kernel) rfl rfl ⟨rfl, h⟩
  · replace h := h.2 hc
    refine Z_aload_n (a := 0) (q := 152) (by decide +kernel) rfl rfl ?_
    refine Z_iload_n (a := 2) (q := 153) (by decide +kernel) rfl rfl ?_
    refine Z_iload_n (a := 3) (q := 154) (by decide +kernel) rfl rfl ?_
    obtain ⟨Q1, hm, h⟩ := h
    refine Z_callVi (M2 := mX11_mayLie) (idx := 328) (d2 := d) (ci := 11) (As := [.int _, .int _]) (q := 157) (by decide +kernel) kX11_mayLie lX11_328 rfl rfl (by decide) rfl rfl (by decide +kernel) (Nat.le_of_ble_eq_true rfl) (Nat.le_refl _) hm rfl (fun v6 iv2 rv3 lv4 hq => ?_)
    obtain ⟨hT5, h⟩ := h v6 iv2 rv3 lv4 hq
    refine Z_if_ne (t := 163) (off := 6) (q := 160) (by decide +kernel) (by decide) rfl (fun hc => ?_) (fun hc => ?_)
    · replace h := h.1 hc
      refine Z_aload_n (a := 0) (q := 164) (by decide +kernel) rfl rfl ?_
      refine g11_22 (idx := 33) (q := 167) (by decide +kernel) fX11_33 rfl (by decide) (t11_22 hT5) rfl ?_
      refine Z_iload_n (a := 2) (q := 168) (by decide +kernel) rfl rfl ?_
      refine Z_iload_n (a := 3) (q := 169) (by decide +kernel) rfl rfl ?_
      obtain ⟨hin7, h⟩ := h
      refine Z_iast (len := 10) (q := 170) (by decide +kernel) rfl (by decide) hin7 rfl ?_
      replace h := h _ rfl
      refine Z_aload_n (a := 0) (q := 171) (by decide +kernel) rfl rfl ?_
      refine g11_23 (idx := 36) (q := 174) (by decide +kernel) fX11_36 rfl (by decide) (t11_23 hT5) rfl ?_
      refine Z_iload_n (a := 3) (q := 175) (by decide +kernel) rfl rfl ?_
      refine Z_dup2 (q := 176) (by decide +kernel) rfl rfl rfl ?_
      obtain ⟨hin9, h⟩ := h
      refine Z_iald (len := 4) (q := 177) (by decide +kernel) rfl (by decide) hin9 rfl ?_
      refine Z_aload_n (a := 0) (q := 178) (by decide +kernel) rfl rfl ?_
      refine Z_iload_n (a := 2) (q := 179) (by decide +kernel) rfl rfl ?_
      obtain ⟨Q10, hm, h⟩ := h
      refine Z_callVi (M2 := mX11_value) (idx := 217) (d2 := d) (ci := 11) (As := [.int _]) (q := 182) (by decide +kernel) kX11_value lX11_217 rfl rfl (by decide) rfl rfl (by decide +kernel) (Nat.le_of_ble_eq_true rfl) (Nat.le_refl _) hm rfl (fun v15 iv11 rv12 lv13 hq => ?_)
      obtain ⟨hT14, h⟩ := h v15 iv11 rv12 lv13 hq
      refine Z_iadd (q := 183) (by decide +kernel) rfl ?_
      refine Z_iast (len := 4) (q := 184) (by decide +kernel) rfl (by decide) hin9 rfl ?_
      replace h := h _ rfl
      refine Z_aload_n (a := 0) (q := 185) (by decide +kernel) rfl rfl ?_
      refine Z_iload_n (a := 1) (q := 186) (by decide +kernel) rfl rfl ?_
      refine Z_iload_n (a := 2) (q := 187) (by decide +kernel) rfl rfl ?_
      refine Z_iconst (a := 1) (v := 1) (q := 188) (by decide +kernel) (by decide +kernel) rfl ?_
      refine Z_iadd (q := 189) (by decide +kernel) rfl ?_
      obtain ⟨Q17, hm, h⟩ := h
      refine Z_callVv (M2 := mX11_goes) (idx := 331) (d2 := d) (ci := 11) (As := [.int _, .int _]) (q := 192) (by decide +kernel) kX11_goes lX11_331 rfl rfl (by decide) rfl rfl (by decide +kernel) (Nat.le_of_ble_eq_true rfl) (Nat.le_refl _) hm rfl (fun iv18 rv19 lv20 hq => ?_)
      obtain ⟨hT21, h⟩ := h iv18 rv19 lv20 hq
      refine Z_aload_n (a := 0) (q := 193) (by decide +kernel) rfl rfl ?_
      refine g11_23 (idx := 36) (q := 196) (by decide +kernel) fX11_36 rfl (by decide) (t11_23 hT21) rfl ?_
      refine Z_iload_n (a := 3) (q := 197) (by decide +kernel) rfl rfl ?_
      refine Z_dup2 (q := 198) (by decide +kernel) rfl rfl rfl ?_
      refine Z_iald (len := 4) (q := 199) (by decide +kernel) rfl (by decide) hin9 rfl ?_
      refine Z_aload_n (a := 0) (q := 200) (by decide +kernel) rfl rfl ?_
      refine Z_iload_n (a := 2) (q := 201) (by decide +kernel) rfl rfl ?_
      obtain ⟨Q23, hm, h⟩ := h
      refine Z_callVi (M2 := mX11_value) (idx := 217) (d2 := d) (ci := 11) (As := [.int _]) (q := 204) (by decide +kernel) kX11_value lX11_217 rfl rfl (by decide) rfl rfl (by decide +kernel) (Nat.le_of_ble_eq_true rfl) (Nat.le_refl _) hm rfl (fun v28 iv24 rv25 lv26 hq => ?_)
      obtain ⟨hT27, h⟩ := h v28 iv24 rv25 lv26 hq
      refine Z_isub (q := 205) (by decide +kernel) rfl ?_
      refine Z_iast (len := 4) (q := 206) (by decide +kernel) rfl (by decide) hin9 rfl ?_
      replace h := h _ rfl
      refine Z_iinc (a := 3) (b := 1) (v := _ + 1) (loc2 := [_, _, _, _, _, _]) (q := 209) (by decide +kernel) rfl (zinc _) (by decide +kernel) rfl rfl rfl ?_
      refine Z_goto (q := 146) (off := -63) (by decide +kernel) (by decide) ?_
      exact h
    · replace h := h.2 hc
      refine Z_goto (q := 206) (off := 46) (by decide +kernel) (by decide) ?_
      refine Z_iinc (a := 3) (b := 1) (v := _ + 1) (loc2 := [_, _, _, _, _, _]) (q := 209) (by decide +kernel) rfl (zinc _) (by decide +kernel) rfl rfl rfl ?_
      refine Z_goto (q := 146) (off := -63) (by decide +kernel) (by decide) ?_
      exact h
theorem eX11_areRows {d : Nat} (x1 : Int32) {iv : zI} {rv : zR} {lv : zJ} {Q : Int32 → zI → zR → zJ → Prop} (h : Zi mX11_areRows (d + 1) 0 [some (.ref 174), some (.int x1), none] [] iv rv lv Q) : Ci mX11_areRows (d + 1) [.ref 174, .int x1] iv rv lv Q := Ci.of (by decide +kernel) (by simp [Value.category]) (Nat.le_of_ble_eq_true rfl) rfl h
set_option maxRecDepth 4000 in
theorem bX11_areRows_0 {d : Nat} (x1 : Int32) {iv : zI} {rv : zR} {lv : zJ} {Q : Int32 → zI → zR → zJ → Prop} (hT : zTop rv) 
    (h : ∀ iv1 : zI, iv1 = zu iv 174 44 (0 : Int32) → Zi mX11_areRows (d + 1) 7 [some (.ref 174), some (.int x1), some (.int (0 : Int32))] [] iv1 rv lv Q) :
    Zi mX11_areRows (d + 1) 0 [some (.ref 174), some (.int x1), none] [] iv rv lv Q := by
  unfold Zi
  refine Z_aload_n (a := 0) (q := 1) (by decide +kernel) rfl rfl ?_
  refine Z_iconst (a := 0) (v := 0) (q := 2) (by decide +kernel) (by decide +kernel) rfl ?_
  refine p11_44 (idx := 316) (q := 5) (by decide +kernel) fX11_316 rfl (by decide) rfl ?_
  replace h := h _ rfl
  refine Z_iconst (a := 0) (v := 0) (q := 6) (by decide +kernel) (by decide +kernel) rfl ?_
  refine Z_istore_n (a := 2) (loc2 := [_, _, _]) (q := 7) (by decide +kernel) (by decide +kernel) rfl rfl rfl ?_
  exact h
set_option maxRecDepth 4000 in
theorem bX11_areRows_7 {d : Nat} (x1 : Int32) (x2 : Int32) {iv : zI} {rv : zR} {lv : zJ} {Q : Int32 → zI → zR → zJ → Prop} (hT : zTop rv) 
    (h : ((4 : Int32) ≤ x2 → ∃ Q1 : zI → zR → zJ → Prop, Cv mX11_goes d [.ref 174, .int x1, .int (0 : Int32)] iv rv lv Q1 ∧ ∀ (iv2 : zI) (rv3 : zR) (lv4 : zJ), Q1 iv2 rv3 lv4 → zTop rv3 ∧ (((iv2 174 44) ≤ 0 → Q (0 : Int32) iv2 rv3 lv4) ∧ (¬ (iv2 174 44) ≤ 0 → Q (1 : Int32) iv2 rv3 lv4))) ∧ (¬ (4 : Int32) ≤ x2 → vp_in x2 4 ∧ (∀ iv8 : zI, iv8 = zu iv 182 x2.toNatClampNeg (0 : Int32) → Zi mX11_areRows (d + 1) 7 [some (.ref 174), some (.int x1), some (.int (x2 + 1))] [] iv8 rv lv Q))) :
    Zi mX11_areRows (d + 1) 7 [some (.ref 174), some (.int x1), some (.int x2)] [] iv rv lv Q := by
  unfold Zi
  refine Z_iload_n (a := 2) (q := 8) (by decide +kernel) rfl rfl ?_
  refine Z_iconst (a := 4) (v := 4) (q := 9) (by decide +kernel) (by decide +kernel) rfl ?_
  refine Z_icmp_ge (t := 25) (off := 16) (q := 12) (by decide +kernel) (by decide) rfl (fun hc => ?_) (fun hc => ?_)
  · replace h := h.1 hc
    refine Z_aload_n (a := 0) (q := 26) (by decide +kernel) rfl rfl ?_
    refine Z_iload_n (a := 1) (q := 27) (by decide +kernel) rfl rfl ?_
    refine Z_iconst (a := 0) (v := 0) (q := 28) (by decide +kernel) (by decide +kernel) rfl ?_
    obtain ⟨Q1, hm, h⟩ := h
    refine Z_callVv (M2 := mX11_goes) (idx := 331) (d2 := d) (ci := 11) (As := [.int _, .int _]) (q := 31) (by decide +kernel) kX11_goes lX11_331 rfl rfl (by decide) rfl rfl (by decide +kernel) (Nat.le_of_ble_eq_true rfl) (Nat.le_refl _) hm rfl (fun iv2 rv3 lv4 hq => ?_)
    obtain ⟨hT5, h⟩ := h iv2 rv3 lv4 hq
    refine Z_aload_n (a := 0) (q := 32) (by decide +kernel) rfl rfl ?_
    refine g11_44 (idx := 316) (q := 35) (by decide +kernel) fX11_316 rfl (by decide) rfl ?_
    refine Z_if_le (t := 42) (off := 7) (q := 38) (by decide +kernel) (by decide) rfl (fun hc => ?_) (fun hc => ?_)
    · replace h := h.1 hc
      refine Z_iconst (a := 0) (v := 0) (q := 43) (by decide +kernel) (by decide +kernel) rfl ?_
      exact Z_iret (ty := .boolean) (by decide +kernel) rfl rfl rfl ⟨_, rfl, h⟩
    · replace h := h.2 hc
      refine Z_iconst (a := 1) (v := 1) (q := 39) (by decide +kernel) (by decide +kernel) rfl ?_
      refine Z_goto (q := 43) (off := 4) (by decide +kernel) (by decide) ?_
      exact Z_iret (ty := .boolean) (by decide +kernel) rfl rfl rfl ⟨_, rfl, h⟩
  · replace h := h.2 hc
    refine Z_aload_n (a := 0) (q := 13) (by decide +kernel) rfl rfl ?_
    refine g11_23 (idx := 36) (q := 16) (by decide +kernel) fX11_36 rfl (by decide) (t11_23 hT) rfl ?_
    refine Z_iload_n (a := 2) (q := 17) (by decide +kernel) rfl rfl ?_
    refine Z_iconst (a := 0) (v := 0) (q := 18) (by decide +kernel) (by decide +kernel) rfl ?_
    obtain ⟨hin7, h⟩ := h
    refine Z_iast (len := 4) (q := 19) (by decide +kernel) rfl (by decide) hin7 rfl ?_
    replace h := h _ rfl
    refine Z_iinc (a := 2) (b := 1) (v := _ + 1) (loc2 := [_, _, _]) (q := 22) (by decide +kernel) rfl (zinc _) (by decide +kernel) rfl rfl rfl ?_
    refine Z_goto (q := 7) (off := -15) (by decide +kernel) (by decide) ?_
    exact h
theorem eX11_least {d : Nat} (x1 : Int32) (x2 : Int32) {iv : zI} {rv : zR} {lv : zJ} {Q : Int32 → zI → zR → zJ → Prop} (h : Zi mX11_least (d + 1) 0 [some (.ref 174), some (.int x1), some (.int x2)] [] iv rv lv Q) : Ci mX11_least (d + 1) [.ref 174, .int x1, .int x2] iv rv lv Q := Ci.of (by decide +kernel) (by simp [Value.category]) (Nat.le_of_ble_eq_true rfl) rfl h
set_option maxRecDepth 4000 in
theorem bX11_least_0 {d : Nat} (x1 : Int32) (x2 : Int32) {iv : zI} {rv : zR} {lv : zJ} {Q : Int32 → zI → zR → zJ → Prop} (hT : zTop rv) 
    (h : ∀ iv1 : zI, iv1 = zu iv 174 0 (0 : Int32) → ((iv1 174 19) = 0 → ∃ Q2 : Int32 → zI → zR → zJ → Prop, Ci mX11_refused d [.ref 174, .int (1 : Int32)] iv1 rv lv Q2 ∧ ∀ (v7 : Int32) (iv3 : zI) (rv4 : zR) (lv5 : zJ), Q2 v7 iv3 rv4 lv5 → zTop rv4 ∧ (Q v7 iv3 rv4 lv5)) ∧ (¬ (iv1 174 19) = 0 → ∃ Q8 : Int32 → zI → zR → zJ → Prop, Ci mX11_in d [.int x2, .int (0 : Int32), .int (1 : Int32)] iv1 rv lv Q8 ∧ ∀ (v13 : Int32) (iv9 : zI) (rv10 : zR) (lv11 : zJ), Q8 v13 iv9 rv10 lv11 → zTop rv10 ∧ ((¬ v13 = 0 → ∃ Q14 : Int32 → zI → zR → zJ → Prop, Ci mX11_isK d [.int x1] iv9 rv10 lv11 Q14 ∧ ∀ (v19 : Int32) (iv15 : zI) (rv16 : zR) (lv17 : zJ), Q14 v19 iv15 rv16 lv17 → zTop rv16 ∧ ((¬ v19 = 0 → ∃ Q20 : Int32 → zI → zR → zJ → Prop, Ci mX11_areRows d [.ref 174, .int x1] iv15 rv16 lv17 Q20 ∧ ∀ (v25 : Int32) (iv21 : zI) (rv22 : zR) (lv23 : zJ), Q20 v25 iv21 rv22 lv23 → zTop rv22 ∧ ((¬ v25 = 0 → (¬ x2 = 0 → ∃ Q26 : Int32 → zI → zR → zJ → Prop, Ci mX11_good d [.ref 174, .int (iv21 174 46)] iv21 rv22 lv23 Q26 ∧ ∀ (v31 : Int32) (iv27 : zI) (rv28 : zR) (lv29 : zJ), Q26 v31 iv27 rv28 lv29 → zTop rv28 ∧ (Q v31 iv27 rv28 lv29)) ∧ (x2 = 0 → ∃ Q32 : Int32 → zI → zR → zJ → Prop, Ci mX11_good d [.ref 174, .int (iv21 174 45)] iv21 rv22 lv23 Q32 ∧ ∀ (v37 : Int32) (iv33 : zI) (rv34 : zR) (lv35 : zJ), Q32 v37 iv33 rv34 lv35 → zTop rv34 ∧ (Q v37 iv33 rv34 lv35))) ∧ (v25 = 0 → ∃ Q38 : Int32 → zI → zR → zJ → Prop, Ci mX11_refused d [.ref 174, .int (6 : Int32)] iv21 rv22 lv23 Q38 ∧ ∀ (v43 : Int32) (iv39 : zI) (rv40 : zR) (lv41 : zJ), Q38 v43 iv39 rv40 lv41 → zTop rv40 ∧ (Q v43 iv39 rv40 lv41)))) ∧ (v19 = 0 → ∃ Q44 : Int32 → zI → zR → zJ → Prop, Ci mX11_refused d [.ref 174, .int (2 : Int32)] iv15 rv16 lv17 Q44 ∧ ∀ (v49 : Int32) (iv45 : zI) (rv46 : zR) (lv47 : zJ), Q44 v49 iv45 rv46 lv47 → zTop rv46 ∧ (Q v49 iv45 rv46 lv47)))) ∧ (v13 = 0 → ∃ Q50 : Int32 → zI → zR → zJ → Prop, Ci mX11_refused d [.ref 174, .int (1 : Int32)] iv9 rv10 lv11 Q50 ∧ ∀ (v55 : Int32) (iv51 : zI) (rv52 : zR) (lv53 : zJ), Q50 v55 iv51 rv52 lv53 → zTop rv52 ∧ (Q v55 iv51 rv52 lv53))))) :
    Zi mX11_least (d + 1) 0 [some (.ref 174), some (.int x1), some (.int x2)] [] iv rv lv Q := by
  unfold Zi
  refine Z_aload_n (a := 0) (q := 1) (by decide +kernel) rfl rfl ?_
  refine Z_iconst (a := 0) (v := 0) (q := 2) (by decide +kernel) (by decide +kernel) rfl ?_
  refine p11_0 (idx := 87) (q := 5) (by decide +kernel) fX11_87 rfl (by decide) rfl ?_
  replace h := h _ rfl
  refine Z_aload_n (a := 0) (q := 6) (by decide +kernel) rfl rfl ?_
  refine g11_19 (idx := 211) (q := 9) (by decide +kernel) fX11_211 rfl (by decide) rfl ?_
  refine Z_if_eq (t := 21) (off := 12) (q := 12) (by decide +kernel) (by decide) rfl (fun hc => ?_) (fun hc => ?_)
  · replace h := h.1 hc
    refine Z_aload_n (a := 0) (q := 22) (by decide +kernel) rfl rfl ?_
    refine Z_iconst (a := 1) (v := 1) (q := 23) (by decide +kernel) (by decide +kernel) rfl ?_
    obtain ⟨Q2, hm, h⟩ := h
    refine Z_callVi (M2 := mX11_refused) (idx := 201) (d2 := d) (ci := 11) (As := [.int _]) (q := 26) (by decide +kernel) kX11_refused lX11_201 rfl rfl (by decide) rfl rfl (by decide +kernel) (Nat.le_of_ble_eq_true rfl) (Nat.le_refl _) hm rfl (fun v7 iv3 rv4 lv5 hq => ?_)
    obtain ⟨hT6, h⟩ := h v7 iv3 rv4 lv5 hq
    exact Z_iret (ty := .int) (by decide +kernel) rfl rfl rfl ⟨_, rfl, h⟩
  · replace h := h.2 hc
    refine Z_iload_n (a := 2) (q := 13) (by decide +kernel) rfl rfl ?_
    refine Z_iconst (a := 0) (v := 0) (q := 14) (by decide +kernel) (by decide +kernel) rfl ?_
    refine Z_iconst (a := 1) (v := 1) (q := 15) (by decide +kernel) (by decide +kernel) rfl ?_
    obtain ⟨Q8, hm, h⟩ := h
    refine Z_callSi (M2 := mX11_in) (idx := 112) (d2 := d) (As := [.int _, .int _, .int _]) (q := 18) (by decide +kernel) kX11_in lX11_112 rfl rfl (by decide +kernel) (Nat.le_of_ble_eq_true rfl) (Nat.le_refl _) hm rfl (fun v13 iv9 rv10 lv11 hq => ?_)
    obtain ⟨hT12, h⟩ := h v13 iv9 rv10 lv11 hq
    refine Z_if_ne (t := 27) (off := 9) (q := 21) (by decide +kernel) (by decide) rfl (fun hc => ?_) (fun hc => ?_)
    · replace h := h.1 hc
      refine Z_iload_n (a := 1) (q := 28) (by decide +kernel) rfl rfl ?_
      obtain ⟨Q14, hm, h⟩ := h
      refine Z_callSi (M2 := mX11_isK) (idx := 238) (d2 := d) (As := [.int _]) (q := 31) (by decide +kernel) kX11_isK lX11_238 rfl rfl (by decide +kernel) (Nat.le_of_ble_eq_true rfl) (Nat.le_refl _) hm rfl (fun v19 iv15 rv16 lv17 hq => ?_)
      obtain ⟨hT18, h⟩ := h v19 iv15 rv16 lv17 hq
      refine Z_if_ne (t := 40) (off := 9) (q := 34) (by decide +kernel) (by decide) rfl (fun hc => ?_) (fun hc => ?_)
      · replace h := h.1 hc
        refine Z_aload_n (a := 0) (q := 41) (by decide +kernel) rfl rfl ?_
        refine Z_iload_n (a := 1) (q := 42) (by decide +kernel) rfl rfl ?_
        obtain ⟨Q20, hm, h⟩ := h
        refine Z_callVi (M2 := mX11_areRows) (idx := 334) (d2 := d) (ci := 11) (As := [.int _]) (q := 45) (by decide +kernel) kX11_areRows lX11_334 rfl rfl (by decide) rfl rfl (by decide +kernel) (Nat.le_of_ble_eq_true rfl) (Nat.le_refl _) hm rfl (fun v25 iv21 rv22 lv23 hq => ?_)
        obtain ⟨hT24, h⟩ := h v25 iv21 rv22 lv23 hq
        refine Z_if_ne (t := 55) (off := 10) (q := 48) (by decide +kernel) (by decide) rfl (fun hc => ?_) (fun hc => ?_)
        · replace h := h.1 hc
          refine Z_aload_n (a := 0) (q := 56) (by decide +kernel) rfl rfl ?_
          refine Z_iload_n (a := 2) (q := 57) (by decide +kernel) rfl rfl ?_
          refine Z_if_ne (t := 67) (off := 10) (q := 60) (by decide +kernel) (by decide) rfl (fun hc => ?_) (fun hc => ?_)
          · replace h := h.1 hc
            refine Z_aload_n (a := 0) (q := 68) (by decide +kernel) rfl rfl ?_
            refine g11_46 (idx := 325) (q := 71) (by decide +kernel) fX11_325 rfl (by decide) rfl ?_
            obtain ⟨Q26, hm, h⟩ := h
            refine Z_callVi (M2 := mX11_good) (idx := 214) (d2 := d) (ci := 11) (As := [.int _]) (q := 74) (by decide +kernel) kX11_good lX11_214 rfl rfl (by decide) rfl rfl (by decide +kernel) (Nat.le_of_ble_eq_true rfl) (Nat.le_refl _) hm rfl (fun v31 iv27 rv28 lv29 hq => ?_)
            obtain ⟨hT30, h⟩ := h v31 iv27 rv28 lv29 hq
            exact Z_iret (ty := .int) (by decide +kernel) rfl rfl rfl ⟨_, rfl, h⟩
          · replace h := h.2 hc
            refine Z_aload_n (a := 0) (q := 61) (by decide +kernel) rfl rfl ?_
            refine g11_45 (idx := 322) (q := 64) (by decide +kernel) fX11_322 rfl (by decide) rfl ?_
            refine Z_goto (q := 71) (off := 7) (by decide +kernel) (by decide) ?_
            obtain ⟨Q32, hm, h⟩ := h
            refine Z_callVi (M2 := mX11_good) (idx := 214) (d2 := d) (ci := 11) (As := [.int _]) (q := 74) (by decide +kernel) kX11_good lX11_214 rfl rfl (by decide) rfl rfl (by decide +kernel) (Nat.le_of_ble_eq_true rfl) (Nat.le_refl _) hm rfl (fun v37 iv33 rv34 lv35 hq => ?_)
            obtain ⟨hT36, h⟩ := h v37 iv33 rv34 lv35 hq
            exact Z_iret (ty := .int) (by decide +kernel) rfl rfl rfl ⟨_, rfl, h⟩
        · replace h := h.2 hc
          refine Z_aload_n (a := 0) (q := 49) (by decide +kernel) rfl rfl ?_
          refine Z_bipush (a := 6) (v := 6) (q := 51) (by decide +kernel) (by decide +kernel) rfl ?_
          obtain ⟨Q38, hm, h⟩ := h
          refine Z_callVi (M2 := mX11_refused) (idx := 201) (d2 := d) (ci := 11) (As := [.int _]) (q := 54) (by decide +kernel) kX11_refused lX11_201 rfl rfl (by decide) rfl rfl (by decide +kernel) (Nat.le_of_ble_eq_true rfl) (Nat.le_refl _) hm rfl (fun v43 iv39 rv40 lv41 hq => ?_)
          obtain ⟨hT42, h⟩ := h v43 iv39 rv40 lv41 hq
          exact Z_iret (ty := .int) (by decide +kernel) rfl rfl rfl ⟨_, rfl, h⟩
      · replace h := h.2 hc
        refine Z_aload_n (a := 0) (q := 35) (by decide +kernel) rfl rfl ?_
        refine Z_iconst (a := 2) (v := 2) (q := 36) (by decide +kernel) (by decide +kernel) rfl ?_
        obtain ⟨Q44, hm, h⟩ := h
        refine Z_callVi (M2 := mX11_refused) (idx := 201) (d2 := d) (ci := 11) (As := [.int _]) (q := 39) (by decide +kernel) kX11_refused lX11_201 rfl rfl (by decide) rfl rfl (by decide +kernel) (Nat.le_of_ble_eq_true rfl) (Nat.le_refl _) hm rfl (fun v49 iv45 rv46 lv47 hq => ?_)
        obtain ⟨hT48, h⟩ := h v49 iv45 rv46 lv47 hq
        exact Z_iret (ty := .int) (by decide +kernel) rfl rfl rfl ⟨_, rfl, h⟩
    · replace h := h.2 hc
      refine Z_aload_n (a := 0) (q := 22) (by decide +kernel) rfl rfl ?_
      refine Z_iconst (a := 1) (v := 1) (q := 23) (by decide +kernel) (by decide +kernel) rfl ?_
      obtain ⟨Q50, hm, h⟩ := h
      refine Z_callVi (M2 := mX11_refused) (idx := 201) (d2 := d) (ci := 11) (As := [.int _]) (q := 26) (by decide +kernel) kX11_refused lX11_201 rfl rfl (by decide) rfl rfl (by decide +kernel) (Nat.le_of_ble_eq_true rfl) (Nat.le_refl _) hm rfl (fun v55 iv51 rv52 lv53 hq => ?_)
      obtain ⟨hT54, h⟩ := h v55 iv51 rv52 lv53 hq
      exact Z_iret (ty := .int) (by decide +kernel) rfl rfl rfl ⟨_, rfl, h⟩
theorem eX11_leastOf {d : Nat} (x1 : Int32) (x2 : Int32) {iv : zI} {rv : zR} {lv : zJ} {Q : Int32 → zI → zR → zJ → Prop} (h : Zi mX11_leastOf (d + 1) 0 [some (.ref 174), some (.int x1), some (.int x2)] [] iv rv lv Q) : Ci mX11_leastOf (d + 1) [.ref 174, .int x1, .int x2] iv rv lv Q := Ci.of (by decide +kernel) (by simp [Value.category]) (Nat.le_of_ble_eq_true rfl) rfl h
set_option maxRecDepth 4000 in
theorem bX11_leastOf_0 {d : Nat} (x1 : Int32) (x2 : Int32) {iv : zI} {rv : zR} {lv : zJ} {Q : Int32 → zI → zR → zJ → Prop} (hT : zTop rv) 
    (h : ∀ iv1 : zI, iv1 = zu iv 174 0 (0 : Int32) → ∃ Q2 : Int32 → zI → zR → zJ → Prop, Ci mX11_isNumber d [.ref 174, .int x2] iv1 rv lv Q2 ∧ ∀ (v7 : Int32) (iv3 : zI) (rv4 : zR) (lv5 : zJ), Q2 v7 iv3 rv4 lv5 → zTop rv4 ∧ ((¬ v7 = 0 → ∃ Q8 : Int32 → zI → zR → zJ → Prop, Ci mX11_isK d [.int x1] iv3 rv4 lv5 Q8 ∧ ∀ (v13 : Int32) (iv9 : zI) (rv10 : zR) (lv11 : zJ), Q8 v13 iv9 rv10 lv11 → zTop rv10 ∧ ((¬ v13 = 0 → ∃ Q14 : Int32 → zI → zR → zJ → Prop, Ci mX11_areRows d [.ref 174, .int x1] iv9 rv10 lv11 Q14 ∧ ∀ (v19 : Int32) (iv15 : zI) (rv16 : zR) (lv17 : zJ), Q14 v19 iv15 rv16 lv17 → zTop rv16 ∧ ((v19 = 0 → ∃ Q20 : Int32 → zI → zR → zJ → Prop, Ci mX11_refused d [.ref 174, .int (6 : Int32)] iv15 rv16 lv17 Q20 ∧ ∀ (v25 : Int32) (iv21 : zI) (rv22 : zR) (lv23 : zJ), Q20 v25 iv21 rv22 lv23 → zTop rv22 ∧ (Q v25 iv21 rv22 lv23)) ∧ (¬ v19 = 0 → vp_in x2 10 ∧ (∃ Q27 : Int32 → zI → zR → zJ → Prop, Ci mX11_good d [.ref 174, .int (iv15 183 x2.toNatClampNeg)] iv15 rv16 lv17 Q27 ∧ ∀ (v32 : Int32) (iv28 : zI) (rv29 : zR) (lv30 : zJ), Q27 v32 iv28 rv29 lv30 → zTop rv29 ∧ (Q v32 iv28 rv29 lv30))))) ∧ (v13 = 0 → ∃ Q33 : Int32 → zI → zR → zJ → Prop, Ci mX11_refused d [.ref 174, .int (2 : Int32)] iv9 rv10 lv11 Q33 ∧ ∀ (v38 : Int32) (iv34 : zI) (rv35 : zR) (lv36 : zJ), Q33 v38 iv34 rv35 lv36 → zTop rv35 ∧ (Q v38 iv34 rv35 lv36)))) ∧ (v7 = 0 → ∃ Q39 : Int32 → zI → zR → zJ → Prop, Ci mX11_refused d [.ref 174, .int (1 : Int32)] iv3 rv4 lv5 Q39 ∧ ∀ (v44 : Int32) (iv40 : zI) (rv41 : zR) (lv42 : zJ), Q39 v44 iv40 rv41 lv42 → zTop rv41 ∧ (Q v44 iv40 rv41 lv42)))) :
    Zi mX11_leastOf (d + 1) 0 [some (.ref 174), some (.int x1), some (.int x2)] [] iv rv lv Q := by
  unfold Zi
  refine Z_aload_n (a := 0) (q := 1) (by decide +kernel) rfl rfl ?_
  refine Z_iconst (a := 0) (v := 0) (q := 2) (by decide +kernel) (by decide +kernel) rfl ?_
  refine p11_0 (idx := 87) (q := 5) (by decide +kernel) fX11_87 rfl (by decide) rfl ?_
  replace h := h _ rfl
  refine Z_aload_n (a := 0) (q := 6) (by decide +kernel) rfl rfl ?_
  refine Z_iload_n (a := 2) (q := 7) (by decide +kernel) rfl rfl ?_
  obtain ⟨Q2, hm, h⟩ := h
  refine Z_callVi (M2 := mX11_isNumber) (idx := 229) (d2 := d) (ci := 11) (As := [.int _]) (q := 10) (by decide +kernel) kX11_isNumber lX11_229 rfl rfl (by decide) rfl rfl (by decide +kernel) (Nat.le_of_ble_eq_true rfl) (Nat.le_refl _) hm rfl (fun v7 iv3 rv4 lv5 hq => ?_)
  obtain ⟨hT6, h⟩ := h v7 iv3 rv4 lv5 hq
  refine Z_if_ne (t := 19) (off := 9) (q := 13) (by decide +kernel) (by decide) rfl (fun hc => ?_) (fun hc => ?_)
  · replace h := h.1 hc
    refine Z_iload_n (a := 1) (q := 20) (by decide +kernel) rfl rfl ?_
    obtain ⟨Q8, hm, h⟩ := h
    refine Z_callSi (M2 := mX11_isK) (idx := 238) (d2 := d) (As := [.int _]) (q := 23) (by decide +kernel) kX11_isK lX11_238 rfl rfl (by decide +kernel) (Nat.le_of_ble_eq_true rfl) (Nat.le_refl _) hm rfl (fun v13 iv9 rv10 lv11 hq => ?_)
    obtain ⟨hT12, h⟩ := h v13 iv9 rv10 lv11 hq
    refine Z_if_ne (t := 32) (off := 9) (q := 26) (by decide +kernel) (by decide) rfl (fun hc => ?_) (fun hc => ?_)
    · replace h := h.1 hc
      refine Z_aload_n (a := 0) (q := 33) (by decide +kernel) rfl rfl ?_
      refine Z_iload_n (a := 1) (q := 34) (by decide +kernel) rfl rfl ?_
      obtain ⟨Q14, hm, h⟩ := h
      refine Z_callVi (M2 := mX11_areRows) (idx := 334) (d2 := d) (ci := 11) (As := [.int _]) (q := 37) (by decide +kernel) kX11_areRows lX11_334 rfl rfl (by decide) rfl rfl (by decide +kernel) (Nat.le_of_ble_eq_true rfl) (Nat.le_refl _) hm rfl (fun v19 iv15 rv16 lv17 hq => ?_)
      obtain ⟨hT18, h⟩ := h v19 iv15 rv16 lv17 hq
      refine Z_if_eq (t := 53) (off := 16) (q := 40) (by decide +kernel) (by decide) rfl (fun hc => ?_) (fun hc => ?_)
      · replace h := h.1 hc
        refine Z_aload_n (a := 0) (q := 54) (by decide +kernel) rfl rfl ?_
        refine Z_bipush (a := 6) (v := 6) (q := 56) (by decide +kernel) (by decide +kernel) rfl ?_
        obtain ⟨Q20, hm, h⟩ := h
        refine Z_callVi (M2 := mX11_refused) (idx := 201) (d2 := d) (ci := 11) (As := [.int _]) (q := 59) (by decide +kernel) kX11_refused lX11_201 rfl rfl (by decide) rfl rfl (by decide +kernel) (Nat.le_of_ble_eq_true rfl) (Nat.le_refl _) hm rfl (fun v25 iv21 rv22 lv23 hq => ?_)
        obtain ⟨hT24, h⟩ := h v25 iv21 rv22 lv23 hq
        exact Z_iret (ty := .int) (by decide +kernel) rfl rfl rfl ⟨_, rfl, h⟩
      · replace h := h.2 hc
        refine Z_aload_n (a := 0) (q := 41) (by decide +kernel) rfl rfl ?_
        refine Z_aload_n (a := 0) (q := 42) (by decide +kernel) rfl rfl ?_
        refine g11_24 (idx := 39) (q := 45) (by decide +kernel) fX11_39 rfl (by decide) (t11_24 hT18) rfl ?_
        refine Z_iload_n (a := 2) (q := 46) (by decide +kernel) rfl rfl ?_
        obtain ⟨hin26, h⟩ := h
        refine Z_iald (len := 10) (q := 47) (by decide +kernel) rfl (by decide) hin26 rfl ?_
        obtain ⟨Q27, hm, h⟩ := h
        refine Z_callVi (M2 := mX11_good) (idx := 214) (d2 := d) (ci := 11) (As := [.int _]) (q := 50) (by decide +kernel) kX11_good lX11_214 rfl rfl (by decide) rfl rfl (by decide +kernel) (Nat.le_of_ble_eq_true rfl) (Nat.le_refl _) hm rfl (fun v32 iv28 rv29 lv30 hq => ?_)
        obtain ⟨hT31, h⟩ := h v32 iv28 rv29 lv30 hq
        refine Z_goto (q := 59) (off := 9) (by decide +kernel) (by decide) ?_
        exact Z_iret (ty := .int) (by decide +kernel) rfl rfl rfl ⟨_, rfl, h⟩
    · replace h := h.2 hc
      refine Z_aload_n (a := 0) (q := 27) (by decide +kernel) rfl rfl ?_
      refine Z_iconst (a := 2) (v := 2) (q := 28) (by decide +kernel) (by decide +kernel) rfl ?_
      obtain ⟨Q33, hm, h⟩ := h
      refine Z_callVi (M2 := mX11_refused) (idx := 201) (d2 := d) (ci := 11) (As := [.int _]) (q := 31) (by decide +kernel) kX11_refused lX11_201 rfl rfl (by decide) rfl rfl (by decide +kernel) (Nat.le_of_ble_eq_true rfl) (Nat.le_refl _) hm rfl (fun v38 iv34 rv35 lv36 hq => ?_)
      obtain ⟨hT37, h⟩ := h v38 iv34 rv35 lv36 hq
      exact Z_iret (ty := .int) (by decide +kernel) rfl rfl rfl ⟨_, rfl, h⟩
  · replace h := h.2 hc
    refine Z_aload_n (a := 0) (q := 14) (by decide +kernel) rfl rfl ?_
    refine Z_iconst (a := 1) (v := 1) (q := 15) (by decide +kernel) (by decide +kernel) rfl ?_
    obtain ⟨Q39, hm, h⟩ := h
    refine Z_callVi (M2 := mX11_refused) (idx := 201) (d2 := d) (ci := 11) (As := [.int _]) (q := 18) (by decide +kernel) kX11_refused lX11_201 rfl rfl (by decide) rfl rfl (by decide +kernel) (Nat.le_of_ble_eq_true rfl) (Nat.le_refl _) hm rfl (fun v44 iv40 rv41 lv42 hq => ?_)
    obtain ⟨hT43, h⟩ := h v44 iv40 rv41 lv42 hq
    exact Z_iret (ty := .int) (by decide +kernel) rfl rfl rfl ⟨_, rfl, h⟩
theorem eX11_flat {d : Nat} (x1 : Int32) {iv : zI} {rv : zR} {lv : zJ} {Q : Int32 → zI → zR → zJ → Prop} (h : Zi mX11_flat (d + 1) 0 [some (.ref 174), some (.int x1)] [] iv rv lv Q) : Ci mX11_flat (d + 1) [.ref 174, .int x1] iv rv lv Q := Ci.of (by decide +kernel) (by simp [Value.category]) (Nat.le_of_ble_eq_true rfl) rfl h
set_option maxRecDepth 4000 in
theorem bX11_flat_0 {d : Nat} (x1 : Int32) {iv : zI} {rv : zR} {lv : zJ} {Q : Int32 → zI → zR → zJ → Prop} (hT : zTop rv) 
    (h : ∀ iv1 : zI, iv1 = zu iv 174 0 (0 : Int32) → (¬ (iv1 174 19) = 0 → ∃ Q2 : Int32 → zI → zR → zJ → Prop, Ci mX11_isK d [.int x1] iv1 rv lv Q2 ∧ ∀ (v7 : Int32) (iv3 : zI) (rv4 : zR) (lv5 : zJ), Q2 v7 iv3 rv4 lv5 → zTop rv4 ∧ ((¬ v7 = 0 → ∃ Q8 : Int32 → zI → zR → zJ → Prop, Ci mX11_areRows d [.ref 174, .int x1] iv3 rv4 lv5 Q8 ∧ ∀ (v13 : Int32) (iv9 : zI) (rv10 : zR) (lv11 : zJ), Q8 v13 iv9 rv10 lv11 → zTop rv10 ∧ ((v13 = 0 → ∃ Q14 : Int32 → zI → zR → zJ → Prop, Ci mX11_refused d [.ref 174, .int (6 : Int32)] iv9 rv10 lv11 Q14 ∧ ∀ (v19 : Int32) (iv15 : zI) (rv16 : zR) (lv17 : zJ), Q14 v19 iv15 rv16 lv17 → zTop rv16 ∧ (Q v19 iv15 rv16 lv17)) ∧ (¬ v13 = 0 → ∃ Q20 : Int32 → zI → zR → zJ → Prop, Ci mX11_good d [.ref 174, .int (iv9 174 47)] iv9 rv10 lv11 Q20 ∧ ∀ (v25 : Int32) (iv21 : zI) (rv22 : zR) (lv23 : zJ), Q20 v25 iv21 rv22 lv23 → zTop rv22 ∧ (Q v25 iv21 rv22 lv23)))) ∧ (v7 = 0 → ∃ Q26 : Int32 → zI → zR → zJ → Prop, Ci mX11_refused d [.ref 174, .int (2 : Int32)] iv3 rv4 lv5 Q26 ∧ ∀ (v31 : Int32) (iv27 : zI) (rv28 : zR) (lv29 : zJ), Q26 v31 iv27 rv28 lv29 → zTop rv28 ∧ (Q v31 iv27 rv28 lv29)))) ∧ ((iv1 174 19) = 0 → ∃ Q32 : Int32 → zI → zR → zJ → Prop, Ci mX11_refused d [.ref 174, .int (1 : Int32)] iv1 rv lv Q32 ∧ ∀ (v37 : Int32) (iv33 : zI) (rv34 : zR) (lv35 : zJ), Q32 v37 iv33 rv34 lv35 → zTop rv34 ∧ (Q v37 iv33 rv34 lv35))) :
    Zi mX11_flat (d + 1) 0 [some (.ref 174), some (.int x1)] [] iv rv lv Q := by
  unfold Zi
  refine Z_aload_n (a := 0) (q := 1) (by decide +kernel) rfl rfl ?_
  refine Z_iconst (a := 0) (v := 0) (q := 2) (by decide +kernel) (by decide +kernel) rfl ?_
  refine p11_0 (idx := 87) (q := 5) (by decide +kernel) fX11_87 rfl (by decide) rfl ?_
  replace h := h _ rfl
  refine Z_aload_n (a := 0) (q := 6) (by decide +kernel) rfl rfl ?_
  refine g11_19 (idx := 211) (q := 9) (by decide +kernel) fX11_211 rfl (by decide) rfl ?_
  refine Z_if_ne (t := 18) (off := 9) (q := 12) (by decide +kernel) (by decide) rfl (fun hc => ?_) (fun hc => ?_)
  · replace h := h.1 hc
    refine Z_iload_n (a := 1) (q := 19) (by decide +kernel) rfl rfl ?_
    obtain ⟨Q2, hm, h⟩ := h
    refine Z_callSi (M2 := mX11_isK) (idx := 238) (d2 := d) (As := [.int _]) (q := 22) (by decide +kernel) kX11_isK lX11_238 rfl rfl (by decide +kernel) (Nat.le_of_ble_eq_true rfl) (Nat.le_refl _) hm rfl (fun v7 iv3 rv4 lv5 hq => ?_)
    obtain ⟨hT6, h⟩ := h v7 iv3 rv4 lv5 hq
    refine Z_if_ne (t := 31) (off := 9) (q := 25) (by decide +kernel) (by decide) rfl (fun hc => ?_) (fun hc => ?_)
    · replace h := h.1 hc
      refine Z_aload_n (a := 0) (q := 32) (by decide +kernel) rfl rfl ?_
      refine Z_iload_n (a := 1) (q := 33) (by decide +kernel) rfl rfl ?_
      obtain ⟨Q8, hm, h⟩ := h
      refine Z_callVi (M2 := mX11_areRows) (idx := 334) (d2 := d) (ci := 11) (As := [.int _]) (q := 36) (by decide +kernel) kX11_areRows lX11_334 rfl rfl (by decide) rfl rfl (by decide +kernel) (Nat.le_of_ble_eq_true rfl) (Nat.le_refl _) hm rfl (fun v13 iv9 rv10 lv11 hq => ?_)
      obtain ⟨hT12, h⟩ := h v13 iv9 rv10 lv11 hq
      refine Z_if_eq (t := 50) (off := 14) (q := 39) (by decide +kernel) (by decide) rfl (fun hc => ?_) (fun hc => ?_)
      · replace h := h.1 hc
        refine Z_aload_n (a := 0) (q := 51) (by decide +kernel) rfl rfl ?_
        refine Z_bipush (a := 6) (v := 6) (q := 53) (by decide +kernel) (by decide +kernel) rfl ?_
        obtain ⟨Q14, hm, h⟩ := h
        refine Z_callVi (M2 := mX11_refused) (idx := 201) (d2 := d) (ci := 11) (As := [.int _]) (q := 56) (by decide +kernel) kX11_refused lX11_201 rfl rfl (by decide) rfl rfl (by decide +kernel) (Nat.le_of_ble_eq_true rfl) (Nat.le_refl _) hm rfl (fun v19 iv15 rv16 lv17 hq => ?_)
        obtain ⟨hT18, h⟩ := h v19 iv15 rv16 lv17 hq
        exact Z_iret (ty := .int) (by decide +kernel) rfl rfl rfl ⟨_, rfl, h⟩
      · replace h := h.2 hc
        refine Z_aload_n (a := 0) (q := 40) (by decide +kernel) rfl rfl ?_
        refine Z_aload_n (a := 0) (q := 41) (by decide +kernel) rfl rfl ?_
        refine g11_47 (idx := 319) (q := 44) (by decide +kernel) fX11_319 rfl (by decide) rfl ?_
        obtain ⟨Q20, hm, h⟩ := h
        refine Z_callVi (M2 := mX11_good) (idx := 214) (d2 := d) (ci := 11) (As := [.int _]) (q := 47) (by decide +kernel) kX11_good lX11_214 rfl rfl (by decide) rfl rfl (by decide +kernel) (Nat.le_of_ble_eq_true rfl) (Nat.le_refl _) hm rfl (fun v25 iv21 rv22 lv23 hq => ?_)
        obtain ⟨hT24, h⟩ := h v25 iv21 rv22 lv23 hq
        refine Z_goto (q := 56) (off := 9) (by decide +kernel) (by decide) ?_
        exact Z_iret (ty := .int) (by decide +kernel) rfl rfl rfl ⟨_, rfl, h⟩
    · replace h := h.2 hc
      refine Z_aload_n (a := 0) (q := 26) (by decide +kernel) rfl rfl ?_
      refine Z_iconst (a := 2) (v := 2) (q := 27) (by decide +kernel) (by decide +kernel) rfl ?_
      obtain ⟨Q26, hm, h⟩ := h
      refine Z_callVi (M2 := mX11_refused) (idx := 201) (d2 := d) (ci := 11) (As := [.int _]) (q := 30) (by decide +kernel) kX11_refused lX11_201 rfl rfl (by decide) rfl rfl (by decide +kernel) (Nat.le_of_ble_eq_true rfl) (Nat.le_refl _) hm rfl (fun v31 iv27 rv28 lv29 hq => ?_)
      obtain ⟨hT30, h⟩ := h v31 iv27 rv28 lv29 hq
      exact Z_iret (ty := .int) (by decide +kernel) rfl rfl rfl ⟨_, rfl, h⟩
  · replace h := h.2 hc
    refine Z_aload_n (a := 0) (q := 13) (by decide +kernel) rfl rfl ?_
    refine Z_iconst (a := 1) (v := 1) (q := 14) (by decide +kernel) (by decide +kernel) rfl ?_
    obtain ⟨Q32, hm, h⟩ := h
    refine Z_callVi (M2 := mX11_refused) (idx := 201) (d2 := d) (ci := 11) (As := [.int _]) (q := 17) (by decide +kernel) kX11_refused lX11_201 rfl rfl (by decide) rfl rfl (by decide +kernel) (Nat.le_of_ble_eq_true rfl) (Nat.le_refl _) hm rfl (fun v37 iv33 rv34 lv35 hq => ?_)
    obtain ⟨hT36, h⟩ := h v37 iv33 rv34 lv35 hq
    exact Z_iret (ty := .int) (by decide +kernel) rfl rfl rfl ⟨_, rfl, h⟩
theorem eX11_rows {d : Nat} (x1 : Int32) {iv : zI} {rv : zR} {lv : zJ} {Q : Int32 → zI → zR → zJ → Prop} (h : Zi mX11_rows (d + 1) 0 [some (.ref 174), some (.int x1), none] [] iv rv lv Q) : Ci mX11_rows (d + 1) [.ref 174, .int x1] iv rv lv Q := Ci.of (by decide +kernel) (by simp [Value.category]) (Nat.le_of_ble_eq_true rfl) rfl h
set_option maxRecDepth 4000 in
theorem bX11_rows_0 {d : Nat} (x1 : Int32) {iv : zI} {rv : zR} {lv : zJ} {Q : Int32 → zI → zR → zJ → Prop} (hT : zTop rv) 
    (h : ∀ iv1 : zI, iv1 = zu iv 174 0 (0 : Int32) → (¬ (iv1 174 19) = 0 → ∃ Q2 : Int32 → zI → zR → zJ → Prop, Ci mX11_isK d [.int x1] iv1 rv lv Q2 ∧ ∀ (v7 : Int32) (iv3 : zI) (rv4 : zR) (lv5 : zJ), Q2 v7 iv3 rv4 lv5 → zTop rv4 ∧ ((¬ v7 = 0 → ∃ Q8 : Int32 → zI → zR → zJ → Prop, Ci mX11_areRows d [.ref 174, .int x1] iv3 rv4 lv5 Q8 ∧ ∀ (v13 : Int32) (iv9 : zI) (rv10 : zR) (lv11 : zJ), Q8 v13 iv9 rv10 lv11 → zTop rv10 ∧ ((v13 = 0 → ∃ Q14 : Int32 → zI → zR → zJ → Prop, Ci mX11_good d [.ref 174, .int (0 : Int32)] iv9 rv10 lv11 Q14 ∧ ∀ (v19 : Int32) (iv15 : zI) (rv16 : zR) (lv17 : zJ), Q14 v19 iv15 rv16 lv17 → zTop rv16 ∧ (Q v19 iv15 rv16 lv17)) ∧ (¬ v13 = 0 → ∃ Q20 : Int32 → zI → zR → zJ → Prop, Ci mX11_good d [.ref 174, .int (iv9 174 44)] iv9 rv10 lv11 Q20 ∧ ∀ (v25 : Int32) (iv21 : zI) (rv22 : zR) (lv23 : zJ), Q20 v25 iv21 rv22 lv23 → zTop rv22 ∧ (Q v25 iv21 rv22 lv23)))) ∧ (v7 = 0 → ∃ Q26 : Int32 → zI → zR → zJ → Prop, Ci mX11_refused d [.ref 174, .int (2 : Int32)] iv3 rv4 lv5 Q26 ∧ ∀ (v31 : Int32) (iv27 : zI) (rv28 : zR) (lv29 : zJ), Q26 v31 iv27 rv28 lv29 → zTop rv28 ∧ (Q v31 iv27 rv28 lv29)))) ∧ ((iv1 174 19) = 0 → ∃ Q32 : Int32 → zI → zR → zJ → Prop, Ci mX11_refused d [.ref 174, .int (1 : Int32)] iv1 rv lv Q32 ∧ ∀ (v37 : Int32) (iv33 : zI) (rv34 : zR) (lv35 : zJ), Q32 v37 iv33 rv34 lv35 → zTop rv34 ∧ (Q v37 iv33 rv34 lv35))) :
    Zi mX11_rows (d + 1) 0 [some (.ref 174), some (.int x1), none] [] iv rv lv Q := by
  unfold Zi
  refine Z_aload_n (a := 0) (q := 1) (by decide +kernel) rfl rfl ?_
  refine Z_iconst (a := 0) (v := 0) (q := 2) (by decide +kernel) (by decide +kernel) rfl ?_
  refine p11_0 (idx := 87) (q := 5) (by decide +kernel) fX11_87 rfl (by decide) rfl ?_
  replace h := h _ rfl
  refine Z_aload_n (a := 0) (q := 6) (by decide +kernel) rfl rfl ?_
  refine g11_19 (idx := 211) (q := 9) (by decide +kernel) fX11_211 rfl (by decide) rfl ?_
  refine Z_if_ne (t := 18) (off := 9) (q := 12) (by decide +kernel) (by decide) rfl (fun hc => ?_) (fun hc => ?_)
  · replace h := h.1 hc
    refine Z_iload_n (a := 1) (q := 19) (by decide +kernel) rfl rfl ?_
    obtain ⟨Q2, hm, h⟩ := h
    refine Z_callSi (M2 := mX11_isK) (idx := 238) (d2 := d) (As := [.int _]) (q := 22) (by decide +kernel) kX11_isK lX11_238 rfl rfl (by decide +kernel) (Nat.le_of_ble_eq_true rfl) (Nat.le_refl _) hm rfl (fun v7 iv3 rv4 lv5 hq => ?_)
    obtain ⟨hT6, h⟩ := h v7 iv3 rv4 lv5 hq
    refine Z_if_ne (t := 31) (off := 9) (q := 25) (by decide +kernel) (by decide) rfl (fun hc => ?_) (fun hc => ?_)
    · replace h := h.1 hc
      refine Z_aload_n (a := 0) (q := 32) (by decide +kernel) rfl rfl ?_
      refine Z_iload_n (a := 1) (q := 33) (by decide +kernel) rfl rfl ?_
      obtain ⟨Q8, hm, h⟩ := h
      refine Z_callVi (M2 := mX11_areRows) (idx := 334) (d2 := d) (ci := 11) (As := [.int _]) (q := 36) (by decide +kernel) kX11_areRows lX11_334 rfl rfl (by decide) rfl rfl (by decide +kernel) (Nat.le_of_ble_eq_true rfl) (Nat.le_refl _) hm rfl (fun v13 iv9 rv10 lv11 hq => ?_)
      obtain ⟨hT12, h⟩ := h v13 iv9 rv10 lv11 hq
      refine Z_istore_n (a := 2) (loc2 := [_, _, _]) (q := 37) (by decide +kernel) (by decide +kernel) rfl rfl rfl ?_
      refine Z_aload_n (a := 0) (q := 38) (by decide +kernel) rfl rfl ?_
      refine Z_iload_n (a := 2) (q := 39) (by decide +kernel) rfl rfl ?_
      refine Z_if_eq (t := 49) (off := 10) (q := 42) (by decide +kernel) (by decide) rfl (fun hc => ?_) (fun hc => ?_)
      · replace h := h.1 hc
        refine Z_iconst (a := 0) (v := 0) (q := 50) (by decide +kernel) (by decide +kernel) rfl ?_
        obtain ⟨Q14, hm, h⟩ := h
        refine Z_callVi (M2 := mX11_good) (idx := 214) (d2 := d) (ci := 11) (As := [.int _]) (q := 53) (by decide +kernel) kX11_good lX11_214 rfl rfl (by decide) rfl rfl (by decide +kernel) (Nat.le_of_ble_eq_true rfl) (Nat.le_refl _) hm rfl (fun v19 iv15 rv16 lv17 hq => ?_)
        obtain ⟨hT18, h⟩ := h v19 iv15 rv16 lv17 hq
        exact Z_iret (ty := .int) (by decide +kernel) rfl rfl rfl ⟨_, rfl, h⟩
      · replace h := h.2 hc
        refine Z_aload_n (a := 0) (q := 43) (by decide +kernel) rfl rfl ?_
        refine g11_44 (idx := 316) (q := 46) (by decide +kernel) fX11_316 rfl (by decide) rfl ?_
        refine Z_goto (q := 50) (off := 4) (by decide +kernel) (by decide) ?_
        obtain ⟨Q20, hm, h⟩ := h
        refine Z_callVi (M2 := mX11_good) (idx := 214) (d2 := d) (ci := 11) (As := [.int _]) (q := 53) (by decide +kernel) kX11_good lX11_214 rfl rfl (by decide) rfl rfl (by decide +kernel) (Nat.le_of_ble_eq_true rfl) (Nat.le_refl _) hm rfl (fun v25 iv21 rv22 lv23 hq => ?_)
        obtain ⟨hT24, h⟩ := h v25 iv21 rv22 lv23 hq
        exact Z_iret (ty := .int) (by decide +kernel) rfl rfl rfl ⟨_, rfl, h⟩
    · replace h := h.2 hc
      refine Z_aload_n (a := 0) (q := 26) (by decide +kernel) rfl rfl ?_
      refine Z_iconst (a := 2) (v := 2) (q := 27) (by decide +kernel) (by decide +kernel) rfl ?_
      obtain ⟨Q26, hm, h⟩ := h
      refine Z_callVi (M2 := mX11_refused) (idx := 201) (d2 := d) (ci := 11) (As := [.int _]) (q := 30) (by decide +kernel) kX11_refused lX11_201 rfl rfl (by decide) rfl rfl (by decide +kernel) (Nat.le_of_ble_eq_true rfl) (Nat.le_refl _) hm rfl (fun v31 iv27 rv28 lv29 hq => ?_)
      obtain ⟨hT30, h⟩ := h v31 iv27 rv28 lv29 hq
      exact Z_iret (ty := .int) (by decide +kernel) rfl rfl rfl ⟨_, rfl, h⟩
  · replace h := h.2 hc
    refine Z_aload_n (a := 0) (q := 13) (by decide +kernel) rfl rfl ?_
    refine Z_iconst (a := 1) (v := 1) (q := 14) (by decide +kernel) (by decide +kernel) rfl ?_
    obtain ⟨Q32, hm, h⟩ := h
    refine Z_callVi (M2 := mX11_refused) (idx := 201) (d2 := d) (ci := 11) (As := [.int _]) (q := 17) (by decide +kernel) kX11_refused lX11_201 rfl rfl (by decide) rfl rfl (by decide +kernel) (Nat.le_of_ble_eq_true rfl) (Nat.le_refl _) hm rfl (fun v37 iv33 rv34 lv35 hq => ?_)
    obtain ⟨hT36, h⟩ := h v37 iv33 rv34 lv35 hq
    exact Z_iret (ty := .int) (by decide +kernel) rfl rfl rfl ⟨_, rfl, h⟩
theorem eX11_spreadNow {d : Nat} (x1 : Int32) {iv : zI} {rv : zR} {lv : zJ} {Q : Int32 → zI → zR → zJ → Prop} (h : Zi mX11_spreadNow (d + 1) 0 [some (.ref 174), some (.int x1)] [] iv rv lv Q) : Ci mX11_spreadNow (d + 1) [.ref 174, .int x1] iv rv lv Q := Ci.of (by decide +kernel) (by simp [Value.category]) (Nat.le_of_ble_eq_true rfl) rfl h
set_option maxRecDepth 4000 in
theorem bX11_spreadNow_0 {d : Nat} (x1 : Int32) {iv : zI} {rv : zR} {lv : zJ} {Q : Int32 → zI → zR → zJ → Prop} (hT : zTop rv) 
    (h : ∃ Q1 : zI → zR → zJ → Prop, Cv mX11_sums0 d [.ref 174, .int x1] iv rv lv Q1 ∧ ∀ (iv2 : zI) (rv3 : zR) (lv4 : zJ), Q1 iv2 rv3 lv4 → zTop rv3 ∧ (∃ Q7 : Int32 → zI → zR → zJ → Prop, Ci mX11_spread d [.ref 174, .int x1] iv2 rv3 lv4 Q7 ∧ ∀ (v12 : Int32) (iv8 : zI) (rv9 : zR) (lv10 : zJ), Q7 v12 iv8 rv9 lv10 → zTop rv9 ∧ (Q v12 iv8 rv9 lv10))) :
    Zi mX11_spreadNow (d + 1) 0 [some (.ref 174), some (.int x1)] [] iv rv lv Q := by
  unfold Zi
  refine Z_aload_n (a := 0) (q := 1) (by decide +kernel) rfl rfl ?_
  refine Z_iload_n (a := 1) (q := 2) (by decide +kernel) rfl rfl ?_
  obtain ⟨Q1, hm, h⟩ := h
  refine Z_callVv (M2 := mX11_sums0) (idx := 337) (d2 := d) (ci := 11) (As := [.int _]) (q := 5) (by decide +kernel) kX11_sums0 lX11_337 rfl rfl (by decide) rfl rfl (by decide +kernel) (Nat.le_of_ble_eq_true rfl) (Nat.le_refl _) hm rfl (fun iv2 rv3 lv4 hq => ?_)
  obtain ⟨hT5, h⟩ := h iv2 rv3 lv4 hq
  refine Z_aload_n (a := 0) (q := 6) (by decide +kernel) rfl rfl ?_
  refine Z_iload_n (a := 1) (q := 7) (by decide +kernel) rfl rfl ?_
  obtain ⟨Q7, hm, h⟩ := h
  refine Z_callVi (M2 := mX11_spread) (idx := 244) (d2 := d) (ci := 11) (As := [.int _]) (q := 10) (by decide +kernel) kX11_spread lX11_244 rfl rfl (by decide) rfl rfl (by decide +kernel) (Nat.le_of_ble_eq_true rfl) (Nat.le_refl _) hm rfl (fun v12 iv8 rv9 lv10 hq => ?_)
  obtain ⟨hT11, h⟩ := h v12 iv8 rv9 lv10 hq
  exact Z_iret (ty := .int) (by decide +kernel) rfl rfl rfl ⟨_, rfl, h⟩
theorem eX11_climbs {d : Nat} (x1 : Int32) {iv : zI} {rv : zR} {lv : zJ} {Q : Int32 → zI → zR → zJ → Prop} (h : Zi mX11_climbs (d + 1) 0 [some (.ref 174), some (.int x1), none, none, none, none, none, none, none, none, none] [] iv rv lv Q) : Ci mX11_climbs (d + 1) [.ref 174, .int x1] iv rv lv Q := Ci.of (by decide +kernel) (by simp [Value.category]) (Nat.le_of_ble_eq_true rfl) rfl h
set_option maxRecDepth 4000 in
theorem bX11_climbs_0 {d : Nat} (x1 : Int32) {iv : zI} {rv : zR} {lv : zJ} {Q : Int32 → zI → zR → zJ → Prop} (hT : zTop rv) 
    (h : ∃ Q1 : Int32 → zI → zR → zJ → Prop, Ci mX11_spreadNow d [.ref 174, .int x1] iv rv lv Q1 ∧ ∀ (v6 : Int32) (iv2 : zI) (rv3 : zR) (lv4 : zJ), Q1 v6 iv2 rv3 lv4 → zTop rv3 ∧ (Zi mX11_climbs (d + 1) 20 [some (.ref 174), some (.int x1), some (.int v6), some (.int v6), some (.int (-1 : Int32)), some (.int (-1 : Int32)), some (.int (1 : Int32)), some (.int (0 : Int32)), none, none, none] [] iv2 rv3 lv4 Q)) :
    Zi mX11_climbs (d + 1) 0 [some (.ref 174), some (.int x1), none, none, none, none, none, none, none, none, none] [] iv rv lv Q := by
  unfold Zi
  refine Z_aload_n (a := 0) (q := 1) (by decide +kernel) rfl rfl ?_
  refine Z_iload_n (a := 1) (q := 2) (by decide +kernel) rfl rfl ?_
  obtain ⟨Q1, hm, h⟩ := h
  refine Z_callVi (M2 := mX11_spreadNow) (idx := 340) (d2 := d) (ci := 11) (As := [.int _]) (q := 5) (by decide +kernel) kX11_spreadNow lX11_340 rfl rfl (by decide) rfl rfl (by decide +kernel) (Nat.le_of_ble_eq_true rfl) (Nat.le_refl _) hm rfl (fun v6 iv2 rv3 lv4 hq => ?_)
  obtain ⟨hT5, h⟩ := h v6 iv2 rv3 lv4 hq
  refine Z_istore_n (a := 2) (loc2 := [_, _, _, _, _, _, _, _, _, _, _]) (q := 6) (by decide +kernel) (by decide +kernel) rfl rfl rfl ?_
  refine Z_iload_n (a := 2) (q := 7) (by decide +kernel) rfl rfl ?_
  refine Z_istore_n (a := 3) (loc2 := [_, _, _, _, _, _, _, _, _, _, _]) (q := 8) (by decide +kernel) (by decide +kernel) rfl rfl rfl ?_
  refine Z_iconst (a := -1) (v := -1) (q := 9) (by decide +kernel) (by decide +kernel) rfl ?_
  refine Z_istore (a := 4) (loc2 := [_, _, _, _, _, _, _, _, _, _, _]) (q := 11) (by decide +kernel) (by decide +kernel) rfl rfl rfl ?_
  refine Z_iconst (a := -1) (v := -1) (q := 12) (by decide +kernel) (by decide +kernel) rfl ?_
  refine Z_istore (a := 5) (loc2 := [_, _, _, _, _, _, _, _, _, _, _]) (q := 14) (by decide +kernel) (by decide +kernel) rfl rfl rfl ?_
  refine Z_iconst (a := 1) (v := 1) (q := 15) (by decide +kernel) (by decide +kernel) rfl ?_
  refine Z_istore (a := 6) (loc2 := [_, _, _, _, _, _, _, _, _, _, _]) (q := 17) (by decide +kernel) (by decide +kernel) rfl rfl rfl ?_
  refine Z_iconst (a := 0) (v := 0) (q := 18) (by decide +kernel) (by decide +kernel) rfl ?_
  refine Z_istore (a := 7) (loc2 := [_, _, _, _, _, _, _, _, _, _, _]) (q := 20) (by decide +kernel) (by decide +kernel) rfl rfl rfl ?_
  exact h
set_option maxRecDepth 4000 in
theorem bX11_climbs_20 {d : Nat} (x1 : Int32) (x2 : Int32) (x3 : Int32) (x4 : Int32) (x5 : Int32) (x6 : Int32) (x7 : Int32) {iv : zI} {rv : zR} {lv : zJ} {Q : Int32 → zI → zR → zJ → Prop} (hT : zTop rv) 
    (h : ((iv 176 0) ≤ x7 → Zi mX11_climbs (d + 1) 109 [some (.ref 174), some (.int x1), some (.int x2), some (.int x3), some (.int x4), some (.int x5), some (.int x6), some (.int (0 : Int32)), none, none, none] [] iv rv lv Q) ∧ (¬ (iv 176 0) ≤ x7 → vp_in x7 10 ∧ (Zi mX11_climbs (d + 1) 43 [some (.ref 174), some (.int x1), some (.int x2), some (.int x3), some (.int x4), some (.int x5), some (.int x6), some (.int x7), some (.int (iv 181 x7.toNatClampNeg)), some (.int (0 : Int32)), none] [] iv rv lv Q))) :
    Zi mX11_climbs (d + 1) 20 [some (.ref 174), some (.int x1), some (.int x2), some (.int x3), some (.int x4), some (.int x5), some (.int x6), some (.int x7), none, none, none] [] iv rv lv Q := by
  unfold Zi
  refine Z_iload (a := 7) (q := 22) (by decide +kernel) rfl rfl ?_
  refine Z_aload_n (a := 0) (q := 23) (by decide +kernel) rfl rfl ?_
  refine g11_14 (idx := 17) (q := 26) (by decide +kernel) fX11_17 rfl (by decide) (t11_14 hT) rfl ?_
  refine Z_iconst (a := 0) (v := 0) (q := 27) (by decide +kernel) (by decide +kernel) rfl ?_
  refine Z_iald (len := 35) (q := 28) (by decide +kernel) rfl (by decide) (by unfold vp_in; decide) rfl ?_
  refine Z_icmp_ge (t := 106) (off := 78) (q := 31) (by decide +kernel) (by decide) rfl (fun hc => ?_) (fun hc => ?_)
  · replace h := h.1 hc
    refine Z_iconst (a := 0) (v := 0) (q := 107) (by decide +kernel) (by decide +kernel) rfl ?_
    refine Z_istore (a := 7) (loc2 := [_, _, _, _, _, _, _, _, _, _, _]) (q := 109) (by decide +kernel) (by decide +kernel) rfl rfl rfl ?_
    exact h
  · replace h := h.2 hc
    refine Z_aload_n (a := 0) (q := 32) (by decide +kernel) rfl rfl ?_
    refine g11_22 (idx := 33) (q := 35) (by decide +kernel) fX11_33 rfl (by decide) (t11_22 hT) rfl ?_
    refine Z_iload (a := 7) (q := 37) (by decide +kernel) rfl rfl ?_
    obtain ⟨hin1, h⟩ := h
    refine Z_iald (len := 10) (q := 38) (by decide +kernel) rfl (by decide) hin1 rfl ?_
    refine Z_istore (a := 8) (loc2 := [_, _, _, _, _, _, _, _, _, _, _]) (q := 40) (by decide +kernel) (by decide +kernel) rfl rfl rfl ?_
    refine Z_iconst (a := 0) (v := 0) (q := 41) (by decide +kernel) (by decide +kernel) rfl ?_
    refine Z_istore (a := 9) (loc2 := [_, _, _, _, _, _, _, _, _, _, _]) (q := 43) (by decide +kernel) (by decide +kernel) rfl rfl rfl ?_
    exact h
set_option maxRecDepth 4000 in
theorem bX11_climbs_43 {d : Nat} (x1 : Int32) (x2 : Int32) (x3 : Int32) (x4 : Int32) (x5 : Int32) (x6 : Int32) (x7 : Int32) (x8 : Int32) (x9 : Int32) {iv : zI} {rv : zR} {lv : zJ} {Q : Int32 → zI → zR → zJ → Prop} (hT : zTop rv) 
    (h : (x1 ≤ x9 → vp_in x7 10 ∧ (∀ iv2 : zI, iv2 = zu iv 181 x7.toNatClampNeg x8 → Zi mX11_climbs (d + 1) 20 [some (.ref 174), some (.int x1), some (.int x2), some (.int x3), some (.int x4), some (.int x5), some (.int x6), some (.int (x7 + 1)), none, none, none] [] iv2 rv lv Q)) ∧ (¬ x1 ≤ x9 → vp_in x7 10 ∧ (∀ iv4 : zI, iv4 = zu iv 181 x7.toNatClampNeg x9 → ∃ Q5 : Int32 → zI → zR → zJ → Prop, Ci mX11_spreadNow d [.ref 174, .int x1] iv4 rv lv Q5 ∧ ∀ (v10 : Int32) (iv6 : zI) (rv7 : zR) (lv8 : zJ), Q5 v10 iv6 rv7 lv8 → zTop rv7 ∧ ((v10 < x3 → Zi mX11_climbs (d + 1) 43 [some (.ref 174), some (.int x1), some (.int x2), some (.int v10), some (.int x7), some (.int x9), some (.int x6), some (.int x7), some (.int x8), some (.int (x9 + 1)), none] [] iv6 rv7 lv8 Q) ∧ (¬ v10 < x3 → Zi mX11_climbs (d + 1) 43 [some (.ref 174), some (.int x1), some (.int x2), some (.int x3), some (.int x4), some (.int x5), some (.int x6), some (.int x7), some (.int x8), some (.int (x9 + 1)), none] [] iv6 rv7 lv8 Q))))) :
    Zi mX11_climbs (d + 1) 43 [some (.ref 174), some (.int x1), some (.int x2), some (.int x3), some (.int x4), some (.int x5), some (.int x6), some (.int x7), some (.int x8), some (.int x9), none] [] iv rv lv Q := by
  unfold Zi
  refine Z_iload (a := 9) (q := 45) (by decide +kernel) rfl rfl ?_
  refine Z_iload_n (a := 1) (q := 46) (by decide +kernel) rfl rfl ?_
  refine Z_icmp_ge (t := 91) (off := 45) (q := 49) (by decide +kernel) (by decide) rfl (fun hc => ?_) (fun hc => ?_)
  · replace h := h.1 hc
    refine Z_aload_n (a := 0) (q := 92) (by decide +kernel) rfl rfl ?_
    refine g11_22 (idx := 33) (q := 95) (by decide +kernel) fX11_33 rfl (by decide) (t11_22 hT) rfl ?_
    refine Z_iload (a := 7) (q := 97) (by decide +kernel) rfl rfl ?_
    refine Z_iload (a := 8) (q := 99) (by decide +kernel) rfl rfl ?_
    obtain ⟨hin1, h⟩ := h
    refine Z_iast (len := 10) (q := 100) (by decide +kernel) rfl (by decide) hin1 rfl ?_
    replace h := h _ rfl
    refine Z_iinc (a := 7) (b := 1) (v := _ + 1) (loc2 := [_, _, _, _, _, _, _, _, _, _, _]) (q := 103) (by decide +kernel) rfl (zinc _) (by decide +kernel) rfl rfl rfl ?_
    refine Z_goto (q := 20) (off := -83) (by decide +kernel) (by decide) ?_
    exact Z_forget h (And.intro rfl (And.intro rfl (And.intro rfl (And.intro rfl (And.intro rfl (And.intro rfl (And.intro rfl (And.intro rfl trivial))))))))
  · replace h := h.2 hc
    refine Z_aload_n (a := 0) (q := 50) (by decide +kernel) rfl rfl ?_
    refine g11_22 (idx := 33) (q := 53) (by decide +kernel) fX11_33 rfl (by decide) (t11_22 hT) rfl ?_
    refine Z_iload (a := 7) (q := 55) (by decide +kernel) rfl rfl ?_
    refine Z_iload (a := 9) (q := 57) (by decide +kernel) rfl rfl ?_
    obtain ⟨hin3, h⟩ := h
    refine Z_iast (len := 10) (q := 58) (by decide +kernel) rfl (by decide) hin3 rfl ?_
    replace h := h _ rfl
    refine Z_aload_n (a := 0) (q := 59) (by decide +kernel) rfl rfl ?_
    refine Z_iload_n (a := 1) (q := 60) (by decide +kernel) rfl rfl ?_
    obtain ⟨Q5, hm, h⟩ := h
    refine Z_callVi (M2 := mX11_spreadNow) (idx := 340) (d2 := d) (ci := 11) (As := [.int _]) (q := 63) (by decide +kernel) kX11_spreadNow lX11_340 rfl rfl (by decide) rfl rfl (by decide +kernel) (Nat.le_of_ble_eq_true rfl) (Nat.le_refl _) hm rfl (fun v10 iv6 rv7 lv8 hq => ?_)
    obtain ⟨hT9, h⟩ := h v10 iv6 rv7 lv8 hq
    refine Z_istore (a := 10) (loc2 := [_, _, _, _, _, _, _, _, _, _, _]) (q := 65) (by decide +kernel) (by decide +kernel) rfl rfl rfl ?_
    refine Z_iload (a := 10) (q := 67) (by decide +kernel) rfl rfl ?_
    refine Z_iload_n (a := 3) (q := 68) (by decide +kernel) rfl rfl ?_
    refine Z_icmp_lt (t := 74) (off := 6) (q := 71) (by decide +kernel) (by decide) rfl (fun hc => ?_) (fun hc => ?_)
    · replace h := h.1 hc
      refine Z_iload (a := 10) (q := 76) (by decide +kernel) rfl rfl ?_
      refine Z_istore_n (a := 3) (loc2 := [_, _, _, _, _, _, _, _, _, _, _]) (q := 77) (by decide +kernel) (by decide +kernel) rfl rfl rfl ?_
      refine Z_iload (a := 7) (q := 79) (by decide +kernel) rfl rfl ?_
      refine Z_istore (a := 4) (loc2 := [_, _, _, _, _, _, _, _, _, _, _]) (q := 81) (by decide +kernel) (by decide +kernel) rfl rfl rfl ?_
      refine Z_iload (a := 9) (q := 83) (by decide +kernel) rfl rfl ?_
      refine Z_istore (a := 5) (loc2 := [_, _, _, _, _, _, _, _, _, _, _]) (q := 85) (by decide +kernel) (by decide +kernel) rfl rfl rfl ?_
      refine Z_iinc (a := 9) (b := 1) (v := _ + 1) (loc2 := [_, _, _, _, _, _, _, _, _, _, _]) (q := 88) (by decide +kernel) rfl (zinc _) (by decide +kernel) rfl rfl rfl ?_
      refine Z_goto (q := 43) (off := -45) (by decide +kernel) (by decide) ?_
      exact Z_forget h (And.intro rfl (And.intro rfl (And.intro rfl (And.intro rfl (And.intro rfl (And.intro rfl (And.intro rfl (And.intro rfl (And.intro rfl (And.intro rfl trivial))))))))))
    · replace h := h.2 hc
      refine Z_goto (q := 85) (off := 14) (by decide +kernel) (by decide) ?_
      refine Z_iinc (a := 9) (b := 1) (v := _ + 1) (loc2 := [_, _, _, _, _, _, _, _, _, _, _]) (q := 88) (by decide +kernel) rfl (zinc _) (by decide +kernel) rfl rfl rfl ?_
      refine Z_goto (q := 43) (off := -45) (by decide +kernel) (by decide) ?_
      exact Z_forget h (And.intro rfl (And.intro rfl (And.intro rfl (And.intro rfl (And.intro rfl (And.intro rfl (And.intro rfl (And.intro rfl (And.intro rfl (And.intro rfl trivial))))))))))
set_option maxRecDepth 4000 in
theorem bX11_climbs_109 {d : Nat} (x1 : Int32) (x2 : Int32) (x3 : Int32) (x4 : Int32) (x5 : Int32) (x6 : Int32) (x7 : Int32) {iv : zI} {rv : zR} {lv : zJ} {Q : Int32 → zI → zR → zJ → Prop} (hT : zTop rv) 
    (h : ((iv 176 0) ≤ x7 → (¬ x4 = (-1 : Int32) → (x6 = 0 → ∃ Q1 : zI → zR → zJ → Prop, Cv mX11_exchanges d [.ref 174, .int x4, .int x5] iv rv lv Q1 ∧ ∀ (iv2 : zI) (rv3 : zR) (lv4 : zJ), Q1 iv2 rv3 lv4 → zTop rv3 ∧ (Q (1 : Int32) iv2 rv3 lv4)) ∧ (¬ x6 = 0 → vp_in x4 10 ∧ (∀ iv8 : zI, iv8 = zu iv 181 x4.toNatClampNeg x5 → Q (1 : Int32) iv8 rv lv))) ∧ (x4 = (-1 : Int32) → Q (0 : Int32) iv rv lv)) ∧ (¬ (iv 176 0) ≤ x7 → Zi mX11_climbs (d + 1) 126 [some (.ref 174), some (.int x1), some (.int x2), some (.int x3), some (.int x4), some (.int x5), some (.int x6), some (.int x7), some (.int (x7 + (1 : Int32))), none, none] [] iv rv lv Q)) :
    Zi mX11_climbs (d + 1) 109 [some (.ref 174), some (.int x1), some (.int x2), some (.int x3), some (.int x4), some (.int x5), some (.int x6), some (.int x7), none, none, none] [] iv rv lv Q := by
  unfold Zi
  refine Z_iload (a := 7) (q := 111) (by decide +kernel) rfl rfl ?_
  refine Z_aload_n (a := 0) (q := 112) (by decide +kernel) rfl rfl ?_
  refine g11_14 (idx := 17) (q := 115) (by decide +kernel) fX11_17 rfl (by decide) (t11_14 hT) rfl ?_
  refine Z_iconst (a := 0) (v := 0) (q := 116) (by decide +kernel) (by decide +kernel) rfl ?_
  refine Z_iald (len := 35) (q := 117) (by decide +kernel) rfl (by decide) (by unfold vp_in; decide) rfl ?_
  refine Z_icmp_ge (t := 195) (off := 78) (q := 120) (by decide +kernel) (by decide) rfl (fun hc => ?_) (fun hc => ?_)
  · replace h := h.1 hc
    refine Z_iload (a := 4) (q := 197) (by decide +kernel) rfl rfl ?_
    refine Z_iconst (a := -1) (v := -1) (q := 198) (by decide +kernel) (by decide +kernel) rfl ?_
    refine Z_icmp_ne (t := 203) (off := 5) (q := 201) (by decide +kernel) (by decide) rfl (fun hc => ?_) (fun hc => ?_)
    · replace h := h.1 hc
      refine Z_iload (a := 6) (q := 205) (by decide +kernel) rfl rfl ?_
      refine Z_if_eq (t := 220) (off := 15) (q := 208) (by decide +kernel) (by decide) rfl (fun hc => ?_) (fun hc => ?_)
      · replace h := h.1 hc
        refine Z_aload_n (a := 0) (q := 221) (by decide +kernel) rfl rfl ?_
        refine Z_iload (a := 4) (q := 223) (by decide +kernel) rfl rfl ?_
        refine Z_iload (a := 5) (q := 225) (by decide +kernel) rfl rfl ?_
        obtain ⟨Q1, hm, h⟩ := h
        refine Z_callVv (M2 := mX11_exchanges) (idx := 343) (d2 := d) (ci := 11) (As := [.int _, .int _]) (q := 228) (by decide +kernel) kX11_exchanges lX11_343 rfl rfl (by decide) rfl rfl (by decide +kernel) (Nat.le_of_ble_eq_true rfl) (Nat.le_refl _) hm rfl (fun iv2 rv3 lv4 hq => ?_)
        obtain ⟨hT5, h⟩ := h iv2 rv3 lv4 hq
        refine Z_iconst (a := 1) (v := 1) (q := 229) (by decide +kernel) (by decide +kernel) rfl ?_
        exact Z_iret (ty := .boolean) (by decide +kernel) rfl rfl rfl ⟨_, rfl, h⟩
      · replace h := h.2 hc
        refine Z_aload_n (a := 0) (q := 209) (by decide +kernel) rfl rfl ?_
        refine g11_22 (idx := 33) (q := 212) (by decide +kernel) fX11_33 rfl (by decide) (t11_22 hT) rfl ?_
        refine Z_iload (a := 4) (q := 214) (by decide +kernel) rfl rfl ?_
        refine Z_iload (a := 5) (q := 216) (by decide +kernel) rfl rfl ?_
        obtain ⟨hin7, h⟩ := h
        refine Z_iast (len := 10) (q := 217) (by decide +kernel) rfl (by decide) hin7 rfl ?_
        replace h := h _ rfl
        refine Z_goto (q := 228) (off := 11) (by decide +kernel) (by decide) ?_
        refine Z_iconst (a := 1) (v := 1) (q := 229) (by decide +kernel) (by decide +kernel) rfl ?_
        exact Z_iret (ty := .boolean) (by decide +kernel) rfl rfl rfl ⟨_, rfl, h⟩
    · replace h := h.2 hc
      refine Z_iconst (a := 0) (v := 0) (q := 202) (by decide +kernel) (by decide +kernel) rfl ?_
      exact Z_iret (ty := .boolean) (by decide +kernel) rfl rfl rfl ⟨_, rfl, h⟩
  · replace h := h.2 hc
    refine Z_iload (a := 7) (q := 122) (by decide +kernel) rfl rfl ?_
    refine Z_iconst (a := 1) (v := 1) (q := 123) (by decide +kernel) (by decide +kernel) rfl ?_
    refine Z_iadd (q := 124) (by decide +kernel) rfl ?_
    refine Z_istore (a := 8) (loc2 := [_, _, _, _, _, _, _, _, _, _, _]) (q := 126) (by decide +kernel) (by decide +kernel) rfl rfl rfl ?_
    exact h
set_option maxRecDepth 4000 in
theorem bX11_climbs_126 {d : Nat} (x1 : Int32) (x2 : Int32) (x3 : Int32) (x4 : Int32) (x5 : Int32) (x6 : Int32) (x7 : Int32) (x8 : Int32) {iv : zI} {rv : zR} {lv : zJ} {Q : Int32 → zI → zR → zJ → Prop} (hT : zTop rv) 
    (h : ((iv 176 0) ≤ x8 → Zi mX11_climbs (d + 1) 109 [some (.ref 174), some (.int x1), some (.int x2), some (.int x3), some (.int x4), some (.int x5), some (.int x6), some (.int (x7 + 1)), none, none, none] [] iv rv lv Q) ∧ (¬ (iv 176 0) ≤ x8 → ∃ Q1 : zI → zR → zJ → Prop, Cv mX11_exchanges d [.ref 174, .int x7, .int x8] iv rv lv Q1 ∧ ∀ (iv2 : zI) (rv3 : zR) (lv4 : zJ), Q1 iv2 rv3 lv4 → zTop rv3 ∧ (∃ Q7 : Int32 → zI → zR → zJ → Prop, Ci mX11_spreadNow d [.ref 174, .int x1] iv2 rv3 lv4 Q7 ∧ ∀ (v12 : Int32) (iv8 : zI) (rv9 : zR) (lv10 : zJ), Q7 v12 iv8 rv9 lv10 → zTop rv9 ∧ (∃ Q13 : zI → zR → zJ → Prop, Cv mX11_exchanges d [.ref 174, .int x7, .int x8] iv8 rv9 lv10 Q13 ∧ ∀ (iv14 : zI) (rv15 : zR) (lv16 : zJ), Q13 iv14 rv15 lv16 → zTop rv15 ∧ ((v12 < x3 → Zi mX11_climbs (d + 1) 126 [some (.ref 174), some (.int x1), some (.int x2), some (.int v12), some (.int x7), some (.int x8), some (.int (0 : Int32)), some (.int x7), some (.int (x8 + 1)), none, none] [] iv14 rv15 lv16 Q) ∧ (¬ v12 < x3 → Zi mX11_climbs (d + 1) 126 [some (.ref 174), some (.int x1), some (.int x2), some (.int x3), some (.int x4), some (.int x5), some (.int x6), some (.int x7), some (.int (x8 + 1)), none, none] [] iv14 rv15 lv16 Q)))))) :
    Zi mX11_climbs (d + 1) 126 [some (.ref 174), some (.int x1), some (.int x2), some (.int x3), some (.int x4), some (.int x5), some (.int x6), some (.int x7), some (.int x8), none, none] [] iv rv lv Q := by
  unfold Zi
  refine Z_iload (a := 8) (q := 128) (by decide +kernel) rfl rfl ?_
  refine Z_aload_n (a := 0) (q := 129) (by decide +kernel) rfl rfl ?_
  refine g11_14 (idx := 17) (q := 132) (by decide +kernel) fX11_17 rfl (by decide) (t11_14 hT) rfl ?_
  refine Z_iconst (a := 0) (v := 0) (q := 133) (by decide +kernel) (by decide +kernel) rfl ?_
  refine Z_iald (len := 35) (q := 134) (by decide +kernel) rfl (by decide) (by unfold vp_in; decide) rfl ?_
  refine Z_icmp_ge (t := 189) (off := 55) (q := 137) (by decide +kernel) (by decide) rfl (fun hc => ?_) (fun hc => ?_)
  · replace h := h.1 hc
    refine Z_iinc (a := 7) (b := 1) (v := _ + 1) (loc2 := [_, _, _, _, _, _, _, _, _, _, _]) (q := 192) (by decide +kernel) rfl (zinc _) (by decide +kernel) rfl rfl rfl ?_
    refine Z_goto (q := 109) (off := -83) (by decide +kernel) (by decide) ?_
    exact Z_forget h (And.intro rfl (And.intro rfl (And.intro rfl (And.intro rfl (And.intro rfl (And.intro rfl (And.intro rfl (And.intro rfl trivial))))))))
  · replace h := h.2 hc
    refine Z_aload_n (a := 0) (q := 138) (by decide +kernel) rfl rfl ?_
    refine Z_iload (a := 7) (q := 140) (by decide +kernel) rfl rfl ?_
    refine Z_iload (a := 8) (q := 142) (by decide +kernel) rfl rfl ?_
    obtain ⟨Q1, hm, h⟩ := h
    refine Z_callVv (M2 := mX11_exchanges) (idx := 343) (d2 := d) (ci := 11) (As := [.int _, .int _]) (q := 145) (by decide +kernel) kX11_exchanges lX11_343 rfl rfl (by decide) rfl rfl (by decide +kernel) (Nat.le_of_ble_eq_true rfl) (Nat.le_refl _) hm rfl (fun iv2 rv3 lv4 hq => ?_)
    obtain ⟨hT5, h⟩ := h iv2 rv3 lv4 hq
    refine Z_aload_n (a := 0) (q := 146) (by decide +kernel) rfl rfl ?_
    refine Z_iload_n (a := 1) (q := 147) (by decide +kernel) rfl rfl ?_
    obtain ⟨Q7, hm, h⟩ := h
    refine Z_callVi (M2 := mX11_spreadNow) (idx := 340) (d2 := d) (ci := 11) (As := [.int _]) (q := 150) (by decide +kernel) kX11_spreadNow lX11_340 rfl rfl (by decide) rfl rfl (by decide +kernel) (Nat.le_of_ble_eq_true rfl) (Nat.le_refl _) hm rfl (fun v12 iv8 rv9 lv10 hq => ?_)
    obtain ⟨hT11, h⟩ := h v12 iv8 rv9 lv10 hq
    refine Z_istore (a := 9) (loc2 := [_, _, _, _, _, _, _, _, _, _, _]) (q := 152) (by decide +kernel) (by decide +kernel) rfl rfl rfl ?_
    refine Z_aload_n (a := 0) (q := 153) (by decide +kernel) rfl rfl ?_
    refine Z_iload (a := 7) (q := 155) (by decide +kernel) rfl rfl ?_
    refine Z_iload (a := 8) (q := 157) (by decide +kernel) rfl rfl ?_
    obtain ⟨Q13, hm, h⟩ := h
    refine Z_callVv (M2 := mX11_exchanges) (idx := 343) (d2 := d) (ci := 11) (As := [.int _, .int _]) (q := 160) (by decide +kernel) kX11_exchanges lX11_343 rfl rfl (by decide) rfl rfl (by decide +kernel) (Nat.le_of_ble_eq_true rfl) (Nat.le_refl _) hm rfl (fun iv14 rv15 lv16 hq => ?_)
    obtain ⟨hT17, h⟩ := h iv14 rv15 lv16 hq
    refine Z_iload (a := 9) (q := 162) (by decide +kernel) rfl rfl ?_
    refine Z_iload_n (a := 3) (q := 163) (by decide +kernel) rfl rfl ?_
    refine Z_icmp_lt (t := 169) (off := 6) (q := 166) (by decide +kernel) (by decide) rfl (fun hc => ?_) (fun hc => ?_)
    · replace h := h.1 hc
      refine Z_iload (a := 9) (q := 171) (by decide +kernel) rfl rfl ?_
      refine Z_istore_n (a := 3) (loc2 := [_, _, _, _, _, _, _, _, _, _, _]) (q := 172) (by decide +kernel) (by decide +kernel) rfl rfl rfl ?_
      refine Z_iload (a := 7) (q := 174) (by decide +kernel) rfl rfl ?_
      refine Z_istore (a := 4) (loc2 := [_, _, _, _, _, _, _, _, _, _, _]) (q := 176) (by decide +kernel) (by decide +kernel) rfl rfl rfl ?_
      refine Z_iload (a := 8) (q := 178) (by decide +kernel) rfl rfl ?_
      refine Z_istore (a := 5) (loc2 := [_, _, _, _, _, _, _, _, _, _, _]) (q := 180) (by decide +kernel) (by decide +kernel) rfl rfl rfl ?_
      refine Z_iconst (a := 0) (v := 0) (q := 181) (by decide +kernel) (by decide +kernel) rfl ?_
      refine Z_istore (a := 6) (loc2 := [_, _, _, _, _, _, _, _, _, _, _]) (q := 183) (by decide +kernel) (by decide +kernel) rfl rfl rfl ?_
      refine Z_iinc (a := 8) (b := 1) (v := _ + 1) (loc2 := [_, _, _, _, _, _, _, _, _, _, _]) (q := 186) (by decide +kernel) rfl (zinc _) (by decide +kernel) rfl rfl rfl ?_
      refine Z_goto (q := 126) (off := -60) (by decide +kernel) (by decide) ?_
      exact Z_forget h (And.intro rfl (And.intro rfl (And.intro rfl (And.intro rfl (And.intro rfl (And.intro rfl (And.intro rfl (And.intro rfl (And.intro rfl trivial)))))))))
    · replace h := h.2 hc
      refine Z_goto (q := 183) (off := 17) (by decide +kernel) (by decide) ?_
      refine Z_iinc (a := 8) (b := 1) (v := _ + 1) (loc2 := [_, _, _, _, _, _, _, _, _, _, _]) (q := 186) (by decide +kernel) rfl (zinc _) (by decide +kernel) rfl rfl rfl ?_
      refine Z_goto (q := 126) (off := -60) (by decide +kernel) (by decide) ?_
      exact Z_forget h (And.intro rfl (And.intro rfl (And.intro rfl (And.intro rfl (And.intro rfl (And.intro rfl (And.intro rfl (And.intro rfl (And.intro rfl trivial)))))))))
theorem eX11_exchanges {d : Nat} (x1 : Int32) (x2 : Int32) {iv : zI} {rv : zR} {lv : zJ} {Q : zI → zR → zJ → Prop} (h : Zv mX11_exchanges d 0 [some (.ref 174), some (.int x1), some (.int x2), none] [] iv rv lv Q) : Cv mX11_exchanges d [.ref 174, .int x1, .int x2] iv rv lv Q := Cv.of (by decide +kernel) (by simp [Value.category]) (Nat.le_of_ble_eq_true rfl) rfl h
set_option maxRecDepth 4000 in
theorem bX11_exchanges_0 {d : Nat} (x1 : Int32) (x2 : Int32) {iv : zI} {rv : zR} {lv : zJ} {Q : zI → zR → zJ → Prop} (hT : zTop rv) 
    (h : vp_in x1 10 ∧ (vp_in x2 10 ∧ (∀ iv3 : zI, iv3 = zu iv 181 x1.toNatClampNeg (iv 181 x2.toNatClampNeg) → ∀ iv4 : zI, iv4 = zu iv3 181 x2.toNatClampNeg (iv 181 x1.toNatClampNeg) → Q iv4 rv lv))) :
    Zv mX11_exchanges d 0 [some (.ref 174), some (.int x1), some (.int x2), none] [] iv rv lv Q := by
  unfold Zv
  refine Z_aload_n (a := 0) (q := 1) (by decide +kernel) rfl rfl ?_
  refine g11_22 (idx := 33) (q := 4) (by decide +kernel) fX11_33 rfl (by decide) (t11_22 hT) rfl ?_
  refine Z_iload_n (a := 1) (q := 5) (by decide +kernel) rfl rfl ?_
  obtain ⟨hin1, h⟩ := h
  refine Z_iald (len := 10) (q := 6) (by decide +kernel) rfl (by decide) hin1 rfl ?_
  refine Z_istore_n (a := 3) (loc2 := [_, _, _, _]) (q := 7) (by decide +kernel) (by decide +kernel) rfl rfl rfl ?_
  refine Z_aload_n (a := 0) (q := 8) (by decide +kernel) rfl rfl ?_
  refine g11_22 (idx := 33) (q := 11) (by decide +kernel) fX11_33 rfl (by decide) (t11_22 hT) rfl ?_
  refine Z_iload_n (a := 1) (q := 12) (by decide +kernel) rfl rfl ?_
  refine Z_aload_n (a := 0) (q := 13) (by decide +kernel) rfl rfl ?_
  refine g11_22 (idx := 33) (q := 16) (by decide +kernel) fX11_33 rfl (by decide) (t11_22 hT) rfl ?_
  refine Z_iload_n (a := 2) (q := 17) (by decide +kernel) rfl rfl ?_
  obtain ⟨hin2, h⟩ := h
  refine Z_iald (len := 10) (q := 18) (by decide +kernel) rfl (by decide) hin2 rfl ?_
  refine Z_iast (len := 10) (q := 19) (by decide +kernel) rfl (by decide) hin1 rfl ?_
  replace h := h _ rfl
  refine Z_aload_n (a := 0) (q := 20) (by decide +kernel) rfl rfl ?_
  refine g11_22 (idx := 33) (q := 23) (by decide +kernel) fX11_33 rfl (by decide) (t11_22 hT) rfl ?_
  refine Z_iload_n (a := 2) (q := 24) (by decide +kernel) rfl rfl ?_
  refine Z_iload_n (a := 3) (q := 25) (by decide +kernel) rfl rfl ?_
  refine Z_iast (len := 10) (q := 26) (by decide +kernel) rfl (by decide) hin2 rfl ?_
  replace h := h _ rfl
  exact Z_vret (by decide +kernel) rfl rfl ⟨rfl, h⟩
theorem eX11_climbsAll {d : Nat} (x1 : Int32) {iv : zI} {rv : zR} {lv : zJ} {Q : Int32 → zI → zR → zJ → Prop} (h : Zi mX11_climbsAll (d + 1) 0 [some (.ref 174), some (.int x1), none] [] iv rv lv Q) : Ci mX11_climbsAll (d + 1) [.ref 174, .int x1] iv rv lv Q := Ci.of (by decide +kernel) (by simp [Value.category]) (Nat.le_of_ble_eq_true rfl) rfl h
set_option maxRecDepth 4000 in
theorem bX11_climbsAll_0 {d : Nat} (x1 : Int32) {iv : zI} {rv : zR} {lv : zJ} {Q : Int32 → zI → zR → zJ → Prop} (hT : zTop rv) 
    (h : ∃ Q1 : zI → zR → zJ → Prop, Cv mX11_fills d [.ref 174, .int x1] iv rv lv Q1 ∧ ∀ (iv2 : zI) (rv3 : zR) (lv4 : zJ), Q1 iv2 rv3 lv4 → zTop rv3 ∧ (Zi mX11_climbsAll (d + 1) 7 [some (.ref 174), some (.int x1), some (.int (0 : Int32))] [] iv2 rv3 lv4 Q)) :
    Zi mX11_climbsAll (d + 1) 0 [some (.ref 174), some (.int x1), none] [] iv rv lv Q := by
  unfold Zi
  refine Z_aload_n (a := 0) (q := 1) (by decide +kernel) rfl rfl ?_
  refine Z_iload_n (a := 1) (q := 2) (by decide +kernel) rfl rfl ?_
  obtain ⟨Q1, hm, h⟩ := h
  refine Z_callVv (M2 := mX11_fills) (idx := 241) (d2 := d) (ci := 11) (As := [.int _]) (q := 5) (by decide +kernel) kX11_fills lX11_241 rfl rfl (by decide) rfl rfl (by decide +kernel) (Nat.le_of_ble_eq_true rfl) (Nat.le_refl _) hm rfl (fun iv2 rv3 lv4 hq => ?_)
  obtain ⟨hT5, h⟩ := h iv2 rv3 lv4 hq
  refine Z_iconst (a := 0) (v := 0) (q := 6) (by decide +kernel) (by decide +kernel) rfl ?_
  refine Z_istore_n (a := 2) (loc2 := [_, _, _]) (q := 7) (by decide +kernel) (by decide +kernel) rfl rfl rfl ?_
  exact h
set_option maxRecDepth 4000 in
theorem bX11_climbsAll_7 {d : Nat} (x1 : Int32) (x2 : Int32) {iv : zI} {rv : zR} {lv : zJ} {Q : Int32 → zI → zR → zJ → Prop} (hT : zTop rv) 
    (h : ∃ Q1 : Int32 → zI → zR → zJ → Prop, Ci mX11_climbs d [.ref 174, .int x1] iv rv lv Q1 ∧ ∀ (v6 : Int32) (iv2 : zI) (rv3 : zR) (lv4 : zJ), Q1 v6 iv2 rv3 lv4 → zTop rv3 ∧ ((v6 = 0 → Q x2 iv2 rv3 lv4) ∧ (¬ v6 = 0 → Zi mX11_climbsAll (d + 1) 7 [some (.ref 174), some (.int x1), some (.int (x2 + 1))] [] iv2 rv3 lv4 Q))) :
    Zi mX11_climbsAll (d + 1) 7 [some (.ref 174), some (.int x1), some (.int x2)] [] iv rv lv Q := by
  unfold Zi
  refine Z_aload_n (a := 0) (q := 8) (by decide +kernel) rfl rfl ?_
  refine Z_iload_n (a := 1) (q := 9) (by decide +kernel) rfl rfl ?_
  obtain ⟨Q1, hm, h⟩ := h
  refine Z_callVi (M2 := mX11_climbs) (idx := 346) (d2 := d) (ci := 11) (As := [.int _]) (q := 12) (by decide +kernel) kX11_climbs lX11_346 rfl rfl (by decide) rfl rfl (by decide +kernel) (Nat.le_of_ble_eq_true rfl) (Nat.le_refl _) hm rfl (fun v6 iv2 rv3 lv4 hq => ?_)
  obtain ⟨hT5, h⟩ := h v6 iv2 rv3 lv4 hq
  refine Z_if_eq (t := 21) (off := 9) (q := 15) (by decide +kernel) (by decide) rfl (fun hc => ?_) (fun hc => ?_)
  · replace h := h.1 hc
    refine Z_iload_n (a := 2) (q := 22) (by decide +kernel) rfl rfl ?_
    exact Z_iret (ty := .int) (by decide +kernel) rfl rfl rfl ⟨_, rfl, h⟩
  · replace h := h.2 hc
    refine Z_iinc (a := 2) (b := 1) (v := _ + 1) (loc2 := [_, _, _]) (q := 18) (by decide +kernel) rfl (zinc _) (by decide +kernel) rfl rfl rfl ?_
    refine Z_goto (q := 7) (off := -11) (by decide +kernel) (by decide) ?_
    exact h
theorem eX11_climb {d : Nat} (x1 : Int32) (x2 : Int32) {iv : zI} {rv : zR} {lv : zJ} {Q : Int32 → zI → zR → zJ → Prop} (h : Zi mX11_climb (d + 1) 0 [some (.ref 174), some (.int x1), some (.int x2), none] [] iv rv lv Q) : Ci mX11_climb (d + 1) [.ref 174, .int x1, .int x2] iv rv lv Q := Ci.of (by decide +kernel) (by simp [Value.category]) (Nat.le_of_ble_eq_true rfl) rfl h
set_option maxRecDepth 4000 in
theorem bX11_climb_0 {d : Nat} (x1 : Int32) (x2 : Int32) {iv : zI} {rv : zR} {lv : zJ} {Q : Int32 → zI → zR → zJ → Prop} (hT : zTop rv) 
    (h : ∀ iv1 : zI, iv1 = zu iv 174 0 (0 : Int32) → ((iv1 174 19) = 0 → ∃ Q2 : Int32 → zI → zR → zJ → Prop, Ci mX11_refused d [.ref 174, .int (1 : Int32)] iv1 rv lv Q2 ∧ ∀ (v7 : Int32) (iv3 : zI) (rv4 : zR) (lv5 : zJ), Q2 v7 iv3 rv4 lv5 → zTop rv4 ∧ (Q v7 iv3 rv4 lv5)) ∧ (¬ (iv1 174 19) = 0 → ∃ Q8 : Int32 → zI → zR → zJ → Prop, Ci mX11_in d [.int x2, .int (0 : Int32), .int (1 : Int32)] iv1 rv lv Q8 ∧ ∀ (v13 : Int32) (iv9 : zI) (rv10 : zR) (lv11 : zJ), Q8 v13 iv9 rv10 lv11 → zTop rv10 ∧ ((¬ v13 = 0 → ∃ Q14 : Int32 → zI → zR → zJ → Prop, Ci mX11_isK d [.int x1] iv9 rv10 lv11 Q14 ∧ ∀ (v19 : Int32) (iv15 : zI) (rv16 : zR) (lv17 : zJ), Q14 v19 iv15 rv16 lv17 → zTop rv16 ∧ ((¬ v19 = 0 → ∃ Q20 : Int32 → zI → zR → zJ → Prop, Ci mX11_climbsAll d [.ref 174, .int x1] iv15 rv16 lv17 Q20 ∧ ∀ (v25 : Int32) (iv21 : zI) (rv22 : zR) (lv23 : zJ), Q20 v25 iv21 rv22 lv23 → zTop rv22 ∧ ((¬ x2 = 0 → ∃ Q26 : Int32 → zI → zR → zJ → Prop, Ci mX11_good d [.ref 174, .int v25] iv21 rv22 lv23 Q26 ∧ ∀ (v31 : Int32) (iv27 : zI) (rv28 : zR) (lv29 : zJ), Q26 v31 iv27 rv28 lv29 → zTop rv28 ∧ (Q v31 iv27 rv28 lv29)) ∧ (x2 = 0 → ∃ Q32 : Int32 → zI → zR → zJ → Prop, Ci mX11_spreadNow d [.ref 174, .int x1] iv21 rv22 lv23 Q32 ∧ ∀ (v37 : Int32) (iv33 : zI) (rv34 : zR) (lv35 : zJ), Q32 v37 iv33 rv34 lv35 → zTop rv34 ∧ (∃ Q38 : Int32 → zI → zR → zJ → Prop, Ci mX11_good d [.ref 174, .int v37] iv33 rv34 lv35 Q38 ∧ ∀ (v43 : Int32) (iv39 : zI) (rv40 : zR) (lv41 : zJ), Q38 v43 iv39 rv40 lv41 → zTop rv40 ∧ (Q v43 iv39 rv40 lv41))))) ∧ (v19 = 0 → ∃ Q44 : Int32 → zI → zR → zJ → Prop, Ci mX11_refused d [.ref 174, .int (2 : Int32)] iv15 rv16 lv17 Q44 ∧ ∀ (v49 : Int32) (iv45 : zI) (rv46 : zR) (lv47 : zJ), Q44 v49 iv45 rv46 lv47 → zTop rv46 ∧ (Q v49 iv45 rv46 lv47)))) ∧ (v13 = 0 → ∃ Q50 : Int32 → zI → zR → zJ → Prop, Ci mX11_refused d [.ref 174, .int (1 : Int32)] iv9 rv10 lv11 Q50 ∧ ∀ (v55 : Int32) (iv51 : zI) (rv52 : zR) (lv53 : zJ), Q50 v55 iv51 rv52 lv53 → zTop rv52 ∧ (Q v55 iv51 rv52 lv53))))) :
    Zi mX11_climb (d + 1) 0 [some (.ref 174), some (.int x1), some (.int x2), none] [] iv rv lv Q := by
  unfold Zi
  refine Z_aload_n (a := 0) (q := 1) (by decide +kernel) rfl rfl ?_
  refine Z_iconst (a := 0) (v := 0) (q := 2) (by decide +kernel) (by decide +kernel) rfl ?_
  refine p11_0 (idx := 87) (q := 5) (by decide +kernel) fX11_87 rfl (by decide) rfl ?_
  replace h := h _ rfl
  refine Z_aload_n (a := 0) (q := 6) (by decide +kernel) rfl rfl ?_
  refine g11_19 (idx := 211) (q := 9) (by decide +kernel) fX11_211 rfl (by decide) rfl ?_
  refine Z_if_eq (t := 21) (off := 12) (q := 12) (by decide +kernel) (by decide) rfl (fun hc => ?_) (fun hc => ?_)
  · replace h := h.1 hc
    refine Z_aload_n (a := 0) (q := 22) (by decide +kernel) rfl rfl ?_
    refine Z_iconst (a := 1) (v := 1) (q := 23) (by decide +kernel) (by decide +kernel) rfl ?_
    obtain ⟨Q2, hm, h⟩ := h
    refine Z_callVi (M2 := mX11_refused) (idx := 201) (d2 := d) (ci := 11) (As := [.int _]) (q := 26) (by decide +kernel) kX11_refused lX11_201 rfl rfl (by decide) rfl rfl (by decide +kernel) (Nat.le_of_ble_eq_true rfl) (Nat.le_refl _) hm rfl (fun v7 iv3 rv4 lv5 hq => ?_)
    obtain ⟨hT6, h⟩ := h v7 iv3 rv4 lv5 hq
    exact Z_iret (ty := .int) (by decide +kernel) rfl rfl rfl ⟨_, rfl, h⟩
  · replace h := h.2 hc
    refine Z_iload_n (a := 2) (q := 13) (by decide +kernel) rfl rfl ?_
    refine Z_iconst (a := 0) (v := 0) (q := 14) (by decide +kernel) (by decide +kernel) rfl ?_
    refine Z_iconst (a := 1) (v := 1) (q := 15) (by decide +kernel) (by decide +kernel) rfl ?_
    obtain ⟨Q8, hm, h⟩ := h
    refine Z_callSi (M2 := mX11_in) (idx := 112) (d2 := d) (As := [.int _, .int _, .int _]) (q := 18) (by decide +kernel) kX11_in lX11_112 rfl rfl (by decide +kernel) (Nat.le_of_ble_eq_true rfl) (Nat.le_refl _) hm rfl (fun v13 iv9 rv10 lv11 hq => ?_)
    obtain ⟨hT12, h⟩ := h v13 iv9 rv10 lv11 hq
    refine Z_if_ne (t := 27) (off := 9) (q := 21) (by decide +kernel) (by decide) rfl (fun hc => ?_) (fun hc => ?_)
    · replace h := h.1 hc
      refine Z_iload_n (a := 1) (q := 28) (by decide +kernel) rfl rfl ?_
      obtain ⟨Q14, hm, h⟩ := h
      refine Z_callSi (M2 := mX11_isK) (idx := 238) (d2 := d) (As := [.int _]) (q := 31) (by decide +kernel) kX11_isK lX11_238 rfl rfl (by decide +kernel) (Nat.le_of_ble_eq_true rfl) (Nat.le_refl _) hm rfl (fun v19 iv15 rv16 lv17 hq => ?_)
      obtain ⟨hT18, h⟩ := h v19 iv15 rv16 lv17 hq
      refine Z_if_ne (t := 40) (off := 9) (q := 34) (by decide +kernel) (by decide) rfl (fun hc => ?_) (fun hc => ?_)
      · replace h := h.1 hc
        refine Z_aload_n (a := 0) (q := 41) (by decide +kernel) rfl rfl ?_
        refine Z_iload_n (a := 1) (q := 42) (by decide +kernel) rfl rfl ?_
        obtain ⟨Q20, hm, h⟩ := h
        refine Z_callVi (M2 := mX11_climbsAll) (idx := 349) (d2 := d) (ci := 11) (As := [.int _]) (q := 45) (by decide +kernel) kX11_climbsAll lX11_349 rfl rfl (by decide) rfl rfl (by decide +kernel) (Nat.le_of_ble_eq_true rfl) (Nat.le_refl _) hm rfl (fun v25 iv21 rv22 lv23 hq => ?_)
        obtain ⟨hT24, h⟩ := h v25 iv21 rv22 lv23 hq
        refine Z_istore_n (a := 3) (loc2 := [_, _, _, _]) (q := 46) (by decide +kernel) (by decide +kernel) rfl rfl rfl ?_
        refine Z_aload_n (a := 0) (q := 47) (by decide +kernel) rfl rfl ?_
        refine Z_iload_n (a := 2) (q := 48) (by decide +kernel) rfl rfl ?_
        refine Z_if_ne (t := 59) (off := 11) (q := 51) (by decide +kernel) (by decide) rfl (fun hc => ?_) (fun hc => ?_)
        · replace h := h.1 hc
          refine Z_iload_n (a := 3) (q := 60) (by decide +kernel) rfl rfl ?_
          obtain ⟨Q26, hm, h⟩ := h
          refine Z_callVi (M2 := mX11_good) (idx := 214) (d2 := d) (ci := 11) (As := [.int _]) (q := 63) (by decide +kernel) kX11_good lX11_214 rfl rfl (by decide) rfl rfl (by decide +kernel) (Nat.le_of_ble_eq_true rfl) (Nat.le_refl _) hm rfl (fun v31 iv27 rv28 lv29 hq => ?_)
          obtain ⟨hT30, h⟩ := h v31 iv27 rv28 lv29 hq
          exact Z_iret (ty := .int) (by decide +kernel) rfl rfl rfl ⟨_, rfl, h⟩
        · replace h := h.2 hc
          refine Z_aload_n (a := 0) (q := 52) (by decide +kernel) rfl rfl ?_
          refine Z_iload_n (a := 1) (q := 53) (by decide +kernel) rfl rfl ?_
          obtain ⟨Q32, hm, h⟩ := h
          refine Z_callVi (M2 := mX11_spreadNow) (idx := 340) (d2 := d) (ci := 11) (As := [.int _]) (q := 56) (by decide +kernel) kX11_spreadNow lX11_340 rfl rfl (by decide) rfl rfl (by decide +kernel) (Nat.le_of_ble_eq_true rfl) (Nat.le_refl _) hm rfl (fun v37 iv33 rv34 lv35 hq => ?_)
          obtain ⟨hT36, h⟩ := h v37 iv33 rv34 lv35 hq
          refine Z_goto (q := 60) (off := 4) (by decide +kernel) (by decide) ?_
          obtain ⟨Q38, hm, h⟩ := h
          refine Z_callVi (M2 := mX11_good) (idx := 214) (d2 := d) (ci := 11) (As := [.int _]) (q := 63) (by decide +kernel) kX11_good lX11_214 rfl rfl (by decide) rfl rfl (by decide +kernel) (Nat.le_of_ble_eq_true rfl) (Nat.le_refl _) hm rfl (fun v43 iv39 rv40 lv41 hq => ?_)
          obtain ⟨hT42, h⟩ := h v43 iv39 rv40 lv41 hq
          exact Z_iret (ty := .int) (by decide +kernel) rfl rfl rfl ⟨_, rfl, h⟩
      · replace h := h.2 hc
        refine Z_aload_n (a := 0) (q := 35) (by decide +kernel) rfl rfl ?_
        refine Z_iconst (a := 2) (v := 2) (q := 36) (by decide +kernel) (by decide +kernel) rfl ?_
        obtain ⟨Q44, hm, h⟩ := h
        refine Z_callVi (M2 := mX11_refused) (idx := 201) (d2 := d) (ci := 11) (As := [.int _]) (q := 39) (by decide +kernel) kX11_refused lX11_201 rfl rfl (by decide) rfl rfl (by decide +kernel) (Nat.le_of_ble_eq_true rfl) (Nat.le_refl _) hm rfl (fun v49 iv45 rv46 lv47 hq => ?_)
        obtain ⟨hT48, h⟩ := h v49 iv45 rv46 lv47 hq
        exact Z_iret (ty := .int) (by decide +kernel) rfl rfl rfl ⟨_, rfl, h⟩
    · replace h := h.2 hc
      refine Z_aload_n (a := 0) (q := 22) (by decide +kernel) rfl rfl ?_
      refine Z_iconst (a := 1) (v := 1) (q := 23) (by decide +kernel) (by decide +kernel) rfl ?_
      obtain ⟨Q50, hm, h⟩ := h
      refine Z_callVi (M2 := mX11_refused) (idx := 201) (d2 := d) (ci := 11) (As := [.int _]) (q := 26) (by decide +kernel) kX11_refused lX11_201 rfl rfl (by decide) rfl rfl (by decide +kernel) (Nat.le_of_ble_eq_true rfl) (Nat.le_refl _) hm rfl (fun v55 iv51 rv52 lv53 hq => ?_)
      obtain ⟨hT54, h⟩ := h v55 iv51 rv52 lv53 hq
      exact Z_iret (ty := .int) (by decide +kernel) rfl rfl rfl ⟨_, rfl, h⟩
theorem eX11_climbOf {d : Nat} (x1 : Int32) (x2 : Int32) {iv : zI} {rv : zR} {lv : zJ} {Q : Int32 → zI → zR → zJ → Prop} (h : Zi mX11_climbOf (d + 1) 0 [some (.ref 174), some (.int x1), some (.int x2), none] [] iv rv lv Q) : Ci mX11_climbOf (d + 1) [.ref 174, .int x1, .int x2] iv rv lv Q := Ci.of (by decide +kernel) (by simp [Value.category]) (Nat.le_of_ble_eq_true rfl) rfl h
set_option maxRecDepth 4000 in
theorem bX11_climbOf_0 {d : Nat} (x1 : Int32) (x2 : Int32) {iv : zI} {rv : zR} {lv : zJ} {Q : Int32 → zI → zR → zJ → Prop} (hT : zTop rv) 
    (h : ∀ iv1 : zI, iv1 = zu iv 174 0 (0 : Int32) → ∃ Q2 : Int32 → zI → zR → zJ → Prop, Ci mX11_isNumber d [.ref 174, .int x2] iv1 rv lv Q2 ∧ ∀ (v7 : Int32) (iv3 : zI) (rv4 : zR) (lv5 : zJ), Q2 v7 iv3 rv4 lv5 → zTop rv4 ∧ ((¬ v7 = 0 → ∃ Q8 : Int32 → zI → zR → zJ → Prop, Ci mX11_isK d [.int x1] iv3 rv4 lv5 Q8 ∧ ∀ (v13 : Int32) (iv9 : zI) (rv10 : zR) (lv11 : zJ), Q8 v13 iv9 rv10 lv11 → zTop rv10 ∧ ((¬ v13 = 0 → ∃ Q14 : Int32 → zI → zR → zJ → Prop, Ci mX11_climbsAll d [.ref 174, .int x1] iv9 rv10 lv11 Q14 ∧ ∀ (v19 : Int32) (iv15 : zI) (rv16 : zR) (lv17 : zJ), Q14 v19 iv15 rv16 lv17 → zTop rv16 ∧ ((0 ≤ v19 → vp_in x2 10 ∧ (∃ Q21 : Int32 → zI → zR → zJ → Prop, Ci mX11_good d [.ref 174, .int (iv15 181 x2.toNatClampNeg)] iv15 rv16 lv17 Q21 ∧ ∀ (v26 : Int32) (iv22 : zI) (rv23 : zR) (lv24 : zJ), Q21 v26 iv22 rv23 lv24 → zTop rv23 ∧ (Q v26 iv22 rv23 lv24))) ∧ (¬ 0 ≤ v19 → ∃ Q27 : Int32 → zI → zR → zJ → Prop, Ci mX11_good d [.ref 174, .int (0 : Int32)] iv15 rv16 lv17 Q27 ∧ ∀ (v32 : Int32) (iv28 : zI) (rv29 : zR) (lv30 : zJ), Q27 v32 iv28 rv29 lv30 → zTop rv29 ∧ (Q v32 iv28 rv29 lv30)))) ∧ (v13 = 0 → ∃ Q33 : Int32 → zI → zR → zJ → Prop, Ci mX11_refused d [.ref 174, .int (2 : Int32)] iv9 rv10 lv11 Q33 ∧ ∀ (v38 : Int32) (iv34 : zI) (rv35 : zR) (lv36 : zJ), Q33 v38 iv34 rv35 lv36 → zTop rv35 ∧ (Q v38 iv34 rv35 lv36)))) ∧ (v7 = 0 → ∃ Q39 : Int32 → zI → zR → zJ → Prop, Ci mX11_refused d [.ref 174, .int (1 : Int32)] iv3 rv4 lv5 Q39 ∧ ∀ (v44 : Int32) (iv40 : zI) (rv41 : zR) (lv42 : zJ), Q39 v44 iv40 rv41 lv42 → zTop rv41 ∧ (Q v44 iv40 rv41 lv42)))) :
    Zi mX11_climbOf (d + 1) 0 [some (.ref 174), some (.int x1), some (.int x2), none] [] iv rv lv Q := by
  unfold Zi
  refine Z_aload_n (a := 0) (q := 1) (by decide +kernel) rfl rfl ?_
  refine Z_iconst (a := 0) (v := 0) (q := 2) (by decide +kernel) (by decide +kernel) rfl ?_
  refine p11_0 (idx := 87) (q := 5) (by decide +kernel) fX11_87 rfl (by decide) rfl ?_
  replace h := h _ rfl
  refine Z_aload_n (a := 0) (q := 6) (by decide +kernel) rfl rfl ?_
  refine Z_iload_n (a := 2) (q := 7) (by decide +kernel) rfl rfl ?_
  obtain ⟨Q2, hm, h⟩ := h
  refine Z_callVi (M2 := mX11_isNumber) (idx := 229) (d2 := d) (ci := 11) (As := [.int _]) (q := 10) (by decide +kernel) kX11_isNumber lX11_229 rfl rfl (by decide) rfl rfl (by decide +kernel) (Nat.le_of_ble_eq_true rfl) (Nat.le_refl _) hm rfl (fun v7 iv3 rv4 lv5 hq => ?_)
  obtain ⟨hT6, h⟩ := h v7 iv3 rv4 lv5 hq
  refine Z_if_ne (t := 19) (off := 9) (q := 13) (by decide +kernel) (by decide) rfl (fun hc => ?_) (fun hc => ?_)
  · replace h := h.1 hc
    refine Z_iload_n (a := 1) (q := 20) (by decide +kernel) rfl rfl ?_
    obtain ⟨Q8, hm, h⟩ := h
    refine Z_callSi (M2 := mX11_isK) (idx := 238) (d2 := d) (As := [.int _]) (q := 23) (by decide +kernel) kX11_isK lX11_238 rfl rfl (by decide +kernel) (Nat.le_of_ble_eq_true rfl) (Nat.le_refl _) hm rfl (fun v13 iv9 rv10 lv11 hq => ?_)
    obtain ⟨hT12, h⟩ := h v13 iv9 rv10 lv11 hq
    refine Z_if_ne (t := 32) (off := 9) (q := 26) (by decide +kernel) (by decide) rfl (fun hc => ?_) (fun hc => ?_)
    · replace h := h.1 hc
      refine Z_aload_n (a := 0) (q := 33) (by decide +kernel) rfl rfl ?_
      refine Z_iload_n (a := 1) (q := 34) (by decide +kernel) rfl rfl ?_
      obtain ⟨Q14, hm, h⟩ := h
      refine Z_callVi (M2 := mX11_climbsAll) (idx := 349) (d2 := d) (ci := 11) (As := [.int _]) (q := 37) (by decide +kernel) kX11_climbsAll lX11_349 rfl rfl (by decide) rfl rfl (by decide +kernel) (Nat.le_of_ble_eq_true rfl) (Nat.le_refl _) hm rfl (fun v19 iv15 rv16 lv17 hq => ?_)
      obtain ⟨hT18, h⟩ := h v19 iv15 rv16 lv17 hq
      refine Z_istore_n (a := 3) (loc2 := [_, _, _, _]) (q := 38) (by decide +kernel) (by decide +kernel) rfl rfl rfl ?_
      refine Z_aload_n (a := 0) (q := 39) (by decide +kernel) rfl rfl ?_
      refine Z_iload_n (a := 3) (q := 40) (by decide +kernel) rfl rfl ?_
      refine Z_if_ge (t := 47) (off := 7) (q := 43) (by decide +kernel) (by decide) rfl (fun hc => ?_) (fun hc => ?_)
      · replace h := h.1 hc
        refine Z_aload_n (a := 0) (q := 48) (by decide +kernel) rfl rfl ?_
        refine g11_22 (idx := 33) (q := 51) (by decide +kernel) fX11_33 rfl (by decide) (t11_22 hT18) rfl ?_
        refine Z_iload_n (a := 2) (q := 52) (by decide +kernel) rfl rfl ?_
        obtain ⟨hin20, h⟩ := h
        refine Z_iald (len := 10) (q := 53) (by decide +kernel) rfl (by decide) hin20 rfl ?_
        obtain ⟨Q21, hm, h⟩ := h
        refine Z_callVi (M2 := mX11_good) (idx := 214) (d2 := d) (ci := 11) (As := [.int _]) (q := 56) (by decide +kernel) kX11_good lX11_214 rfl rfl (by decide) rfl rfl (by decide +kernel) (Nat.le_of_ble_eq_true rfl) (Nat.le_refl _) hm rfl (fun v26 iv22 rv23 lv24 hq => ?_)
        obtain ⟨hT25, h⟩ := h v26 iv22 rv23 lv24 hq
        exact Z_iret (ty := .int) (by decide +kernel) rfl rfl rfl ⟨_, rfl, h⟩
      · replace h := h.2 hc
        refine Z_iconst (a := 0) (v := 0) (q := 44) (by decide +kernel) (by decide +kernel) rfl ?_
        refine Z_goto (q := 53) (off := 9) (by decide +kernel) (by decide) ?_
        obtain ⟨Q27, hm, h⟩ := h
        refine Z_callVi (M2 := mX11_good) (idx := 214) (d2 := d) (ci := 11) (As := [.int _]) (q := 56) (by decide +kernel) kX11_good lX11_214 rfl rfl (by decide) rfl rfl (by decide +kernel) (Nat.le_of_ble_eq_true rfl) (Nat.le_refl _) hm rfl (fun v32 iv28 rv29 lv30 hq => ?_)
        obtain ⟨hT31, h⟩ := h v32 iv28 rv29 lv30 hq
        exact Z_iret (ty := .int) (by decide +kernel) rfl rfl rfl ⟨_, rfl, h⟩
    · replace h := h.2 hc
      refine Z_aload_n (a := 0) (q := 27) (by decide +kernel) rfl rfl ?_
      refine Z_iconst (a := 2) (v := 2) (q := 28) (by decide +kernel) (by decide +kernel) rfl ?_
      obtain ⟨Q33, hm, h⟩ := h
      refine Z_callVi (M2 := mX11_refused) (idx := 201) (d2 := d) (ci := 11) (As := [.int _]) (q := 31) (by decide +kernel) kX11_refused lX11_201 rfl rfl (by decide) rfl rfl (by decide +kernel) (Nat.le_of_ble_eq_true rfl) (Nat.le_refl _) hm rfl (fun v38 iv34 rv35 lv36 hq => ?_)
      obtain ⟨hT37, h⟩ := h v38 iv34 rv35 lv36 hq
      exact Z_iret (ty := .int) (by decide +kernel) rfl rfl rfl ⟨_, rfl, h⟩
  · replace h := h.2 hc
    refine Z_aload_n (a := 0) (q := 14) (by decide +kernel) rfl rfl ?_
    refine Z_iconst (a := 1) (v := 1) (q := 15) (by decide +kernel) (by decide +kernel) rfl ?_
    obtain ⟨Q39, hm, h⟩ := h
    refine Z_callVi (M2 := mX11_refused) (idx := 201) (d2 := d) (ci := 11) (As := [.int _]) (q := 18) (by decide +kernel) kX11_refused lX11_201 rfl rfl (by decide) rfl rfl (by decide +kernel) (Nat.le_of_ble_eq_true rfl) (Nat.le_refl _) hm rfl (fun v44 iv40 rv41 lv42 hq => ?_)
    obtain ⟨hT43, h⟩ := h v44 iv40 rv41 lv42 hq
    exact Z_iret (ty := .int) (by decide +kernel) rfl rfl rfl ⟨_, rfl, h⟩
theorem eX11_laysSums {d : Nat}  {iv : zI} {rv : zR} {lv : zJ} {Q : Int32 → zI → zR → zJ → Prop} (h : Zi mX11_laysSums (d + 1) 0 [some (.ref 174), none, none] [] iv rv lv Q) : Ci mX11_laysSums (d + 1) [.ref 174] iv rv lv Q := Ci.of (by decide +kernel) (by simp [Value.category]) (Nat.le_of_ble_eq_true rfl) rfl h
set_option maxRecDepth 4000 in
theorem bX11_laysSums_0 {d : Nat}  {iv : zI} {rv : zR} {lv : zJ} {Q : Int32 → zI → zR → zJ → Prop} (hT : zTop rv) 
    (h : ∀ iv1 : zI, iv1 = zu iv 196 0 (0 : Int32) → Zi mX11_laysSums (d + 1) 18 [some (.ref 174), some (.int ((1 : Int32) <<< ((iv1 176 0) &&& 31))), some (.int (1 : Int32))] [] iv1 rv lv Q) :
    Zi mX11_laysSums (d + 1) 0 [some (.ref 174), none, none] [] iv rv lv Q := by
  unfold Zi
  refine Z_aload_n (a := 0) (q := 1) (by decide +kernel) rfl rfl ?_
  refine g11_48 (idx := 78) (q := 4) (by decide +kernel) fX11_78 rfl (by decide) (t11_48 hT) rfl ?_
  refine Z_iconst (a := 0) (v := 0) (q := 5) (by decide +kernel) (by decide +kernel) rfl ?_
  refine Z_iconst (a := 0) (v := 0) (q := 6) (by decide +kernel) (by decide +kernel) rfl ?_
  refine Z_iast (len := 1024) (q := 7) (by decide +kernel) rfl (by decide) (by unfold vp_in; decide) rfl ?_
  replace h := h _ rfl
  refine Z_iconst (a := 1) (v := 1) (q := 8) (by decide +kernel) (by decide +kernel) rfl ?_
  refine Z_aload_n (a := 0) (q := 9) (by decide +kernel) rfl rfl ?_
  refine g11_14 (idx := 17) (q := 12) (by decide +kernel) fX11_17 rfl (by decide) (t11_14 hT) rfl ?_
  refine Z_iconst (a := 0) (v := 0) (q := 13) (by decide +kernel) (by decide +kernel) rfl ?_
  refine Z_iald (len := 35) (q := 14) (by decide +kernel) rfl (by decide) (by unfold vp_in; decide) rfl ?_
  refine Z_ishl (q := 15) (by decide +kernel) rfl ?_
  refine Z_istore_n (a := 1) (loc2 := [_, _, _]) (q := 16) (by decide +kernel) (by decide +kernel) rfl rfl rfl ?_
  refine Z_iconst (a := 1) (v := 1) (q := 17) (by decide +kernel) (by decide +kernel) rfl ?_
  refine Z_istore_n (a := 2) (loc2 := [_, _, _]) (q := 18) (by decide +kernel) (by decide +kernel) rfl rfl rfl ?_
  exact h
set_option maxRecDepth 4000 in
theorem bX11_laysSums_18 {d : Nat} (x1 : Int32) (x2 : Int32) {iv : zI} {rv : zR} {lv : zJ} {Q : Int32 → zI → zR → zJ → Prop} (hT : zTop rv) 
    (h : (x1 ≤ x2 → Q x1 iv rv lv) ∧ (¬ x1 ≤ x2 → vp_in (x2 &&& (x2 - (1 : Int32))) 1024 ∧ (∃ Q2 : Int32 → zI → zR → zJ → Prop, Ci mX11_lowest d [.int x2] iv rv lv Q2 ∧ ∀ (v7 : Int32) (iv3 : zI) (rv4 : zR) (lv5 : zJ), Q2 v7 iv3 rv4 lv5 → zTop rv4 ∧ (∃ Q8 : Int32 → zI → zR → zJ → Prop, Ci mX11_value d [.ref 174, .int v7] iv3 rv4 lv5 Q8 ∧ ∀ (v13 : Int32) (iv9 : zI) (rv10 : zR) (lv11 : zJ), Q8 v13 iv9 rv10 lv11 → zTop rv10 ∧ (vp_in x2 1024 ∧ (∀ iv15 : zI, iv15 = zu iv9 196 x2.toNatClampNeg ((iv 196 (x2 &&& (x2 - (1 : Int32))).toNatClampNeg) + v13) → Zi mX11_laysSums (d + 1) 18 [some (.ref 174), some (.int x1), some (.int (x2 + 1))] [] iv15 rv10 lv11 Q)))))) :
    Zi mX11_laysSums (d + 1) 18 [some (.ref 174), some (.int x1), some (.int x2)] [] iv rv lv Q := by
  unfold Zi
  refine Z_iload_n (a := 2) (q := 19) (by decide +kernel) rfl rfl ?_
  refine Z_iload_n (a := 1) (q := 20) (by decide +kernel) rfl rfl ?_
  refine Z_icmp_ge (t := 54) (off := 34) (q := 23) (by decide +kernel) (by decide) rfl (fun hc => ?_) (fun hc => ?_)
  · replace h := h.1 hc
    refine Z_iload_n (a := 1) (q := 55) (by decide +kernel) rfl rfl ?_
    exact Z_iret (ty := .int) (by decide +kernel) rfl rfl rfl ⟨_, rfl, h⟩
  · replace h := h.2 hc
    refine Z_aload_n (a := 0) (q := 24) (by decide +kernel) rfl rfl ?_
    refine g11_48 (idx := 78) (q := 27) (by decide +kernel) fX11_78 rfl (by decide) (t11_48 hT) rfl ?_
    refine Z_iload_n (a := 2) (q := 28) (by decide +kernel) rfl rfl ?_
    refine Z_aload_n (a := 0) (q := 29) (by decide +kernel) rfl rfl ?_
    refine g11_48 (idx := 78) (q := 32) (by decide +kernel) fX11_78 rfl (by decide) (t11_48 hT) rfl ?_
    refine Z_iload_n (a := 2) (q := 33) (by decide +kernel) rfl rfl ?_
    refine Z_iload_n (a := 2) (q := 34) (by decide +kernel) rfl rfl ?_
    refine Z_iconst (a := 1) (v := 1) (q := 35) (by decide +kernel) (by decide +kernel) rfl ?_
    refine Z_isub (q := 36) (by decide +kernel) rfl ?_
    refine Z_iand (q := 37) (by decide +kernel) rfl ?_
    obtain ⟨hin1, h⟩ := h
    refine Z_iald (len := 1024) (q := 38) (by decide +kernel) rfl (by decide) hin1 rfl ?_
    refine Z_aload_n (a := 0) (q := 39) (by decide +kernel) rfl rfl ?_
    refine Z_iload_n (a := 2) (q := 40) (by decide +kernel) rfl rfl ?_
    obtain ⟨Q2, hm, h⟩ := h
    refine Z_callSi (M2 := mX11_lowest) (idx := 247) (d2 := d) (As := [.int _]) (q := 43) (by decide +kernel) kX11_lowest lX11_247 rfl rfl (by decide +kernel) (Nat.le_of_ble_eq_true rfl) (Nat.le_refl _) hm rfl (fun v7 iv3 rv4 lv5 hq => ?_)
    obtain ⟨hT6, h⟩ := h v7 iv3 rv4 lv5 hq
    obtain ⟨Q8, hm, h⟩ := h
    refine Z_callVi (M2 := mX11_value) (idx := 217) (d2 := d) (ci := 11) (As := [.int _]) (q := 46) (by decide +kernel) kX11_value lX11_217 rfl rfl (by decide) rfl rfl (by decide +kernel) (Nat.le_of_ble_eq_true rfl) (Nat.le_refl _) hm rfl (fun v13 iv9 rv10 lv11 hq => ?_)
    obtain ⟨hT12, h⟩ := h v13 iv9 rv10 lv11 hq
    refine Z_iadd (q := 47) (by decide +kernel) rfl ?_
    obtain ⟨hin14, h⟩ := h
    refine Z_iast (len := 1024) (q := 48) (by decide +kernel) rfl (by decide) hin14 rfl ?_
    replace h := h _ rfl
    refine Z_iinc (a := 2) (b := 1) (v := _ + 1) (loc2 := [_, _, _]) (q := 51) (by decide +kernel) rfl (zinc _) (by decide +kernel) rfl rfl rfl ?_
    refine Z_goto (q := 18) (off := -33) (by decide +kernel) (by decide) ?_
    exact h
theorem eX11_isSum {d : Nat} (x0 : Int32) {iv : zI} {rv : zR} {lv : zJ} {Q : Int32 → zI → zR → zJ → Prop} (h : Zi mX11_isSum (d + 1) 0 [some (.int x0)] [] iv rv lv Q) : Ci mX11_isSum (d + 1) [.int x0] iv rv lv Q := Ci.of (by decide +kernel) (by simp [Value.category]) (Nat.le_of_ble_eq_true rfl) rfl h
set_option maxRecDepth 4000 in
theorem bX11_isSum_0 {d : Nat} (x0 : Int32) {iv : zI} {rv : zR} {lv : zJ} {Q : Int32 → zI → zR → zJ → Prop} (hT : zTop rv) 
    (h : ∃ Q1 : Int32 → zI → zR → zJ → Prop, Ci mX11_in d [.int x0, .int (0 : Int32), .int (99999 : Int32)] iv rv lv Q1 ∧ ∀ (v6 : Int32) (iv2 : zI) (rv3 : zR) (lv4 : zJ), Q1 v6 iv2 rv3 lv4 → zTop rv3 ∧ ((v6 = 0 ∨ v6 = 1) ∧ Q v6 iv2 rv3 lv4)) :
    Zi mX11_isSum (d + 1) 0 [some (.int x0)] [] iv rv lv Q := by
  unfold Zi
  refine Z_iload_n (a := 0) (q := 1) (by decide +kernel) rfl rfl ?_
  refine Z_iconst (a := 0) (v := 0) (q := 2) (by decide +kernel) (by decide +kernel) rfl ?_
  refine Z_ldcw (a := 352) (v := 99999) (q := 5) (by decide +kernel) cX11_352 rfl ?_
  obtain ⟨Q1, hm, h⟩ := h
  refine Z_callSi (M2 := mX11_in) (idx := 112) (d2 := d) (As := [.int _, .int _, .int _]) (q := 8) (by decide +kernel) kX11_in lX11_112 rfl rfl (by decide +kernel) (Nat.le_of_ble_eq_true rfl) (Nat.le_refl _) hm rfl (fun v6 iv2 rv3 lv4 hq => ?_)
  obtain ⟨hT5, h⟩ := h v6 iv2 rv3 lv4 hq
  exact Z_iret (ty := .boolean) (by decide +kernel) rfl (by rcases h.1 with e | e <;> rw [e] <;> rfl) rfl ⟨_, rfl, h.2⟩
theorem eX11_ways {d : Nat} (x1 : Int32) {iv : zI} {rv : zR} {lv : zJ} {Q : Int32 → zI → zR → zJ → Prop} (h : Zi mX11_ways (d + 1) 0 [some (.ref 174), some (.int x1), none, none, none] [] iv rv lv Q) : Ci mX11_ways (d + 1) [.ref 174, .int x1] iv rv lv Q := Ci.of (by decide +kernel) (by simp [Value.category]) (Nat.le_of_ble_eq_true rfl) rfl h
set_option maxRecDepth 4000 in
theorem bX11_ways_0 {d : Nat} (x1 : Int32) {iv : zI} {rv : zR} {lv : zJ} {Q : Int32 → zI → zR → zJ → Prop} (hT : zTop rv) 
    (h : ∀ iv1 : zI, iv1 = zu iv 174 0 (0 : Int32) → (¬ (iv1 174 19) = 0 → ∃ Q2 : Int32 → zI → zR → zJ → Prop, Ci mX11_isSum d [.int x1] iv1 rv lv Q2 ∧ ∀ (v7 : Int32) (iv3 : zI) (rv4 : zR) (lv5 : zJ), Q2 v7 iv3 rv4 lv5 → zTop rv4 ∧ ((¬ v7 = 0 → ∃ Q8 : Int32 → zI → zR → zJ → Prop, Ci mX11_laysSums d [.ref 174] iv3 rv4 lv5 Q8 ∧ ∀ (v13 : Int32) (iv9 : zI) (rv10 : zR) (lv11 : zJ), Q8 v13 iv9 rv10 lv11 → zTop rv10 ∧ (Zi mX11_ways (d + 1) 41 [some (.ref 174), some (.int x1), some (.int v13), some (.int (0 : Int32)), some (.int (0 : Int32))] [] iv9 rv10 lv11 Q)) ∧ (v7 = 0 → ∃ Q14 : Int32 → zI → zR → zJ → Prop, Ci mX11_refused d [.ref 174, .int (2 : Int32)] iv3 rv4 lv5 Q14 ∧ ∀ (v19 : Int32) (iv15 : zI) (rv16 : zR) (lv17 : zJ), Q14 v19 iv15 rv16 lv17 → zTop rv16 ∧ (Q v19 iv15 rv16 lv17)))) ∧ ((iv1 174 19) = 0 → ∃ Q20 : Int32 → zI → zR → zJ → Prop, Ci mX11_refused d [.ref 174, .int (1 : Int32)] iv1 rv lv Q20 ∧ ∀ (v25 : Int32) (iv21 : zI) (rv22 : zR) (lv23 : zJ), Q20 v25 iv21 rv22 lv23 → zTop rv22 ∧ (Q v25 iv21 rv22 lv23))) :
    Zi mX11_ways (d + 1) 0 [some (.ref 174), some (.int x1), none, none, none] [] iv rv lv Q := by
  unfold Zi
  refine Z_aload_n (a := 0) (q := 1) (by decide +kernel) rfl rfl ?_
  refine Z_iconst (a := 0) (v := 0) (q := 2) (by decide +kernel) (by decide +kernel) rfl ?_
  refine p11_0 (idx := 87) (q := 5) (by decide +kernel) fX11_87 rfl (by decide) rfl ?_
  replace h := h _ rfl
  refine Z_aload_n (a := 0) (q := 6) (by decide +kernel) rfl rfl ?_
  refine g11_19 (idx := 211) (q := 9) (by decide +kernel) fX11_211 rfl (by decide) rfl ?_
  refine Z_if_ne (t := 18) (off := 9) (q := 12) (by decide +kernel) (by decide) rfl (fun hc => ?_) (fun hc => ?_)
  · replace h := h.1 hc
    refine Z_iload_n (a := 1) (q := 19) (by decide +kernel) rfl rfl ?_
    obtain ⟨Q2, hm, h⟩ := h
    refine Z_callSi (M2 := mX11_isSum) (idx := 353) (d2 := d) (As := [.int _]) (q := 22) (by decide +kernel) kX11_isSum lX11_353 rfl rfl (by decide +kernel) (Nat.le_of_ble_eq_true rfl) (Nat.le_refl _) hm rfl (fun v7 iv3 rv4 lv5 hq => ?_)
    obtain ⟨hT6, h⟩ := h v7 iv3 rv4 lv5 hq
    refine Z_if_ne (t := 31) (off := 9) (q := 25) (by decide +kernel) (by decide) rfl (fun hc => ?_) (fun hc => ?_)
    · replace h := h.1 hc
      refine Z_aload_n (a := 0) (q := 32) (by decide +kernel) rfl rfl ?_
      obtain ⟨Q8, hm, h⟩ := h
      refine Z_callVi (M2 := mX11_laysSums) (idx := 356) (d2 := d) (ci := 11) (As := []) (q := 35) (by decide +kernel) kX11_laysSums lX11_356 rfl rfl (by decide) rfl rfl (by decide +kernel) (Nat.le_of_ble_eq_true rfl) (Nat.le_refl _) hm rfl (fun v13 iv9 rv10 lv11 hq => ?_)
      obtain ⟨hT12, h⟩ := h v13 iv9 rv10 lv11 hq
      refine Z_istore_n (a := 2) (loc2 := [_, _, _, _, _]) (q := 36) (by decide +kernel) (by decide +kernel) rfl rfl rfl ?_
      refine Z_iconst (a := 0) (v := 0) (q := 37) (by decide +kernel) (by decide +kernel) rfl ?_
      refine Z_istore_n (a := 3) (loc2 := [_, _, _, _, _]) (q := 38) (by decide +kernel) (by decide +kernel) rfl rfl rfl ?_
      refine Z_iconst (a := 0) (v := 0) (q := 39) (by decide +kernel) (by decide +kernel) rfl ?_
      refine Z_istore (a := 4) (loc2 := [_, _, _, _, _]) (q := 41) (by decide +kernel) (by decide +kernel) rfl rfl rfl ?_
      exact h
    · replace h := h.2 hc
      refine Z_aload_n (a := 0) (q := 26) (by decide +kernel) rfl rfl ?_
      refine Z_iconst (a := 2) (v := 2) (q := 27) (by decide +kernel) (by decide +kernel) rfl ?_
      obtain ⟨Q14, hm, h⟩ := h
      refine Z_callVi (M2 := mX11_refused) (idx := 201) (d2 := d) (ci := 11) (As := [.int _]) (q := 30) (by decide +kernel) kX11_refused lX11_201 rfl rfl (by decide) rfl rfl (by decide +kernel) (Nat.le_of_ble_eq_true rfl) (Nat.le_refl _) hm rfl (fun v19 iv15 rv16 lv17 hq => ?_)
      obtain ⟨hT18, h⟩ := h v19 iv15 rv16 lv17 hq
      exact Z_iret (ty := .int) (by decide +kernel) rfl rfl rfl ⟨_, rfl, h⟩
  · replace h := h.2 hc
    refine Z_aload_n (a := 0) (q := 13) (by decide +kernel) rfl rfl ?_
    refine Z_iconst (a := 1) (v := 1) (q := 14) (by decide +kernel) (by decide +kernel) rfl ?_
    obtain ⟨Q20, hm, h⟩ := h
    refine Z_callVi (M2 := mX11_refused) (idx := 201) (d2 := d) (ci := 11) (As := [.int _]) (q := 17) (by decide +kernel) kX11_refused lX11_201 rfl rfl (by decide) rfl rfl (by decide +kernel) (Nat.le_of_ble_eq_true rfl) (Nat.le_refl _) hm rfl (fun v25 iv21 rv22 lv23 hq => ?_)
    obtain ⟨hT24, h⟩ := h v25 iv21 rv22 lv23 hq
    exact Z_iret (ty := .int) (by decide +kernel) rfl rfl rfl ⟨_, rfl, h⟩
set_option maxRecDepth 4000 in
theorem bX11_ways_41 {d : Nat} (x1 : Int32) (x2 : Int32) (x3 : Int32) (x4 : Int32) {iv : zI} {rv : zR} {lv : zJ} {Q : Int32 → zI → zR → zJ → Prop} (hT : zTop rv) 
    (h : (x2 ≤ x4 → ∃ Q1 : Int32 → zI → zR → zJ → Prop, Ci mX11_good d [.ref 174, .int x3] iv rv lv Q1 ∧ ∀ (v6 : Int32) (iv2 : zI) (rv3 : zR) (lv4 : zJ), Q1 v6 iv2 rv3 lv4 → zTop rv3 ∧ (Q v6 iv2 rv3 lv4)) ∧ (¬ x2 ≤ x4 → vp_in x4 1024 ∧ ((¬ (iv 196 x4.toNatClampNeg) = x1 → Zi mX11_ways (d + 1) 41 [some (.ref 174), some (.int x1), some (.int x2), some (.int (x3 + (0 : Int32))), some (.int (x4 + 1))] [] iv rv lv Q) ∧ ((iv 196 x4.toNatClampNeg) = x1 → Zi mX11_ways (d + 1) 41 [some (.ref 174), some (.int x1), some (.int x2), some (.int (x3 + (1 : Int32))), some (.int (x4 + 1))] [] iv rv lv Q)))) :
    Zi mX11_ways (d + 1) 41 [some (.ref 174), some (.int x1), some (.int x2), some (.int x3), some (.int x4)] [] iv rv lv Q := by
  unfold Zi
  refine Z_iload (a := 4) (q := 43) (by decide +kernel) rfl rfl ?_
  refine Z_iload_n (a := 2) (q := 44) (by decide +kernel) rfl rfl ?_
  refine Z_icmp_ge (t := 72) (off := 28) (q := 47) (by decide +kernel) (by decide) rfl (fun hc => ?_) (fun hc => ?_)
  · replace h := h.1 hc
    refine Z_aload_n (a := 0) (q := 73) (by decide +kernel) rfl rfl ?_
    refine Z_iload_n (a := 3) (q := 74) (by decide +kernel) rfl rfl ?_
    obtain ⟨Q1, hm, h⟩ := h
    refine Z_callVi (M2 := mX11_good) (idx := 214) (d2 := d) (ci := 11) (As := [.int _]) (q := 77) (by decide +kernel) kX11_good lX11_214 rfl rfl (by decide) rfl rfl (by decide +kernel) (Nat.le_of_ble_eq_true rfl) (Nat.le_refl _) hm rfl (fun v6 iv2 rv3 lv4 hq => ?_)
    obtain ⟨hT5, h⟩ := h v6 iv2 rv3 lv4 hq
    exact Z_iret (ty := .int) (by decide +kernel) rfl rfl rfl ⟨_, rfl, h⟩
  · replace h := h.2 hc
    refine Z_iload_n (a := 3) (q := 48) (by decide +kernel) rfl rfl ?_
    refine Z_aload_n (a := 0) (q := 49) (by decide +kernel) rfl rfl ?_
    refine g11_48 (idx := 78) (q := 52) (by decide +kernel) fX11_78 rfl (by decide) (t11_48 hT) rfl ?_
    refine Z_iload (a := 4) (q := 54) (by decide +kernel) rfl rfl ?_
    obtain ⟨hin7, h⟩ := h
    refine Z_iald (len := 1024) (q := 55) (by decide +kernel) rfl (by decide) hin7 rfl ?_
    refine Z_iload_n (a := 1) (q := 56) (by decide +kernel) rfl rfl ?_
    refine Z_icmp_ne (t := 63) (off := 7) (q := 59) (by decide +kernel) (by decide) rfl (fun hc => ?_) (fun hc => ?_)
    · replace h := h.1 hc
      refine Z_iconst (a := 0) (v := 0) (q := 64) (by decide +kernel) (by decide +kernel) rfl ?_
      refine Z_iadd (q := 65) (by decide +kernel) rfl ?_
      refine Z_istore_n (a := 3) (loc2 := [_, _, _, _, _]) (q := 66) (by decide +kernel) (by decide +kernel) rfl rfl rfl ?_
      refine Z_iinc (a := 4) (b := 1) (v := _ + 1) (loc2 := [_, _, _, _, _]) (q := 69) (by decide +kernel) rfl (zinc _) (by decide +kernel) rfl rfl rfl ?_
      refine Z_goto (q := 41) (off := -28) (by decide +kernel) (by decide) ?_
      exact h
    · replace h := h.2 hc
      refine Z_iconst (a := 1) (v := 1) (q := 60) (by decide +kernel) (by decide +kernel) rfl ?_
      refine Z_goto (q := 64) (off := 4) (by decide +kernel) (by decide) ?_
      refine Z_iadd (q := 65) (by decide +kernel) rfl ?_
      refine Z_istore_n (a := 3) (loc2 := [_, _, _, _, _]) (q := 66) (by decide +kernel) (by decide +kernel) rfl rfl rfl ?_
      refine Z_iinc (a := 4) (b := 1) (v := _ + 1) (loc2 := [_, _, _, _, _]) (q := 69) (by decide +kernel) rfl (zinc _) (by decide +kernel) rfl rfl rfl ?_
      refine Z_goto (q := 41) (off := -28) (by decide +kernel) (by decide) ?_
      exact h
theorem eX11_chosen {d : Nat} (x1 : Int32) {iv : zI} {rv : zR} {lv : zJ} {Q : Int32 → zI → zR → zJ → Prop} (h : Zi mX11_chosen (d + 1) 0 [some (.ref 174), some (.int x1), none, none, none] [] iv rv lv Q) : Ci mX11_chosen (d + 1) [.ref 174, .int x1] iv rv lv Q := Ci.of (by decide +kernel) (by simp [Value.category]) (Nat.le_of_ble_eq_true rfl) rfl h
set_option maxRecDepth 4000 in
theorem bX11_chosen_0 {d : Nat} (x1 : Int32) {iv : zI} {rv : zR} {lv : zJ} {Q : Int32 → zI → zR → zJ → Prop} (hT : zTop rv) 
    (h : ∀ iv1 : zI, iv1 = zu iv 174 0 (0 : Int32) → (¬ (iv1 174 19) = 0 → ∃ Q2 : Int32 → zI → zR → zJ → Prop, Ci mX11_isSum d [.int x1] iv1 rv lv Q2 ∧ ∀ (v7 : Int32) (iv3 : zI) (rv4 : zR) (lv5 : zJ), Q2 v7 iv3 rv4 lv5 → zTop rv4 ∧ ((¬ v7 = 0 → ∃ Q8 : Int32 → zI → zR → zJ → Prop, Ci mX11_laysSums d [.ref 174] iv3 rv4 lv5 Q8 ∧ ∀ (v13 : Int32) (iv9 : zI) (rv10 : zR) (lv11 : zJ), Q8 v13 iv9 rv10 lv11 → zTop rv10 ∧ (Zi mX11_chosen (d + 1) 42 [some (.ref 174), some (.int x1), some (.int v13), some (.int (-2 : Int32)), some (.int (0 : Int32))] [] iv9 rv10 lv11 Q)) ∧ (v7 = 0 → ∃ Q14 : Int32 → zI → zR → zJ → Prop, Ci mX11_refused d [.ref 174, .int (2 : Int32)] iv3 rv4 lv5 Q14 ∧ ∀ (v19 : Int32) (iv15 : zI) (rv16 : zR) (lv17 : zJ), Q14 v19 iv15 rv16 lv17 → zTop rv16 ∧ (Q v19 iv15 rv16 lv17)))) ∧ ((iv1 174 19) = 0 → ∃ Q20 : Int32 → zI → zR → zJ → Prop, Ci mX11_refused d [.ref 174, .int (1 : Int32)] iv1 rv lv Q20 ∧ ∀ (v25 : Int32) (iv21 : zI) (rv22 : zR) (lv23 : zJ), Q20 v25 iv21 rv22 lv23 → zTop rv22 ∧ (Q v25 iv21 rv22 lv23))) :
    Zi mX11_chosen (d + 1) 0 [some (.ref 174), some (.int x1), none, none, none] [] iv rv lv Q := by
  unfold Zi
  refine Z_aload_n (a := 0) (q := 1) (by decide +kernel) rfl rfl ?_
  refine Z_iconst (a := 0) (v := 0) (q := 2) (by decide +kernel) (by decide +kernel) rfl ?_
  refine p11_0 (idx := 87) (q := 5) (by decide +kernel) fX11_87 rfl (by decide) rfl ?_
  replace h := h _ rfl
  refine Z_aload_n (a := 0) (q := 6) (by decide +kernel) rfl rfl ?_
  refine g11_19 (idx := 211) (q := 9) (by decide +kernel) fX11_211 rfl (by decide) rfl ?_
  refine Z_if_ne (t := 18) (off := 9) (q := 12) (by decide +kernel) (by decide) rfl (fun hc => ?_) (fun hc => ?_)
  · replace h := h.1 hc
    refine Z_iload_n (a := 1) (q := 19) (by decide +kernel) rfl rfl ?_
    obtain ⟨Q2, hm, h⟩ := h
    refine Z_callSi (M2 := mX11_isSum) (idx := 353) (d2 := d) (As := [.int _]) (q := 22) (by decide +kernel) kX11_isSum lX11_353 rfl rfl (by decide +kernel) (Nat.le_of_ble_eq_true rfl) (Nat.le_refl _) hm rfl (fun v7 iv3 rv4 lv5 hq => ?_)
    obtain ⟨hT6, h⟩ := h v7 iv3 rv4 lv5 hq
    refine Z_if_ne (t := 31) (off := 9) (q := 25) (by decide +kernel) (by decide) rfl (fun hc => ?_) (fun hc => ?_)
    · replace h := h.1 hc
      refine Z_aload_n (a := 0) (q := 32) (by decide +kernel) rfl rfl ?_
      obtain ⟨Q8, hm, h⟩ := h
      refine Z_callVi (M2 := mX11_laysSums) (idx := 356) (d2 := d) (ci := 11) (As := []) (q := 35) (by decide +kernel) kX11_laysSums lX11_356 rfl rfl (by decide) rfl rfl (by decide +kernel) (Nat.le_of_ble_eq_true rfl) (Nat.le_refl _) hm rfl (fun v13 iv9 rv10 lv11 hq => ?_)
      obtain ⟨hT12, h⟩ := h v13 iv9 rv10 lv11 hq
      refine Z_istore_n (a := 2) (loc2 := [_, _, _, _, _]) (q := 36) (by decide +kernel) (by decide +kernel) rfl rfl rfl ?_
      refine Z_bipush (a := -2) (v := -2) (q := 38) (by decide +kernel) (by decide +kernel) rfl ?_
      refine Z_istore_n (a := 3) (loc2 := [_, _, _, _, _]) (q := 39) (by decide +kernel) (by decide +kernel) rfl rfl rfl ?_
      refine Z_iconst (a := 0) (v := 0) (q := 40) (by decide +kernel) (by decide +kernel) rfl ?_
      refine Z_istore (a := 4) (loc2 := [_, _, _, _, _]) (q := 42) (by decide +kernel) (by decide +kernel) rfl rfl rfl ?_
      exact h
    · replace h := h.2 hc
      refine Z_aload_n (a := 0) (q := 26) (by decide +kernel) rfl rfl ?_
      refine Z_iconst (a := 2) (v := 2) (q := 27) (by decide +kernel) (by decide +kernel) rfl ?_
      obtain ⟨Q14, hm, h⟩ := h
      refine Z_callVi (M2 := mX11_refused) (idx := 201) (d2 := d) (ci := 11) (As := [.int _]) (q := 30) (by decide +kernel) kX11_refused lX11_201 rfl rfl (by decide) rfl rfl (by decide +kernel) (Nat.le_of_ble_eq_true rfl) (Nat.le_refl _) hm rfl (fun v19 iv15 rv16 lv17 hq => ?_)
      obtain ⟨hT18, h⟩ := h v19 iv15 rv16 lv17 hq
      exact Z_iret (ty := .int) (by decide +kernel) rfl rfl rfl ⟨_, rfl, h⟩
  · replace h := h.2 hc
    refine Z_aload_n (a := 0) (q := 13) (by decide +kernel) rfl rfl ?_
    refine Z_iconst (a := 1) (v := 1) (q := 14) (by decide +kernel) (by decide +kernel) rfl ?_
    obtain ⟨Q20, hm, h⟩ := h
    refine Z_callVi (M2 := mX11_refused) (idx := 201) (d2 := d) (ci := 11) (As := [.int _]) (q := 17) (by decide +kernel) kX11_refused lX11_201 rfl rfl (by decide) rfl rfl (by decide +kernel) (Nat.le_of_ble_eq_true rfl) (Nat.le_refl _) hm rfl (fun v25 iv21 rv22 lv23 hq => ?_)
    obtain ⟨hT24, h⟩ := h v25 iv21 rv22 lv23 hq
    exact Z_iret (ty := .int) (by decide +kernel) rfl rfl rfl ⟨_, rfl, h⟩
set_option maxRecDepth 4000 in
theorem bX11_chosen_42 {d : Nat} (x1 : Int32) (x2 : Int32) (x3 : Int32) (x4 : Int32) {iv : zI} {rv : zR} {lv : zJ} {Q : Int32 → zI → zR → zJ → Prop} (hT : zTop rv) 
    (h : (x2 ≤ x4 → ∃ Q1 : Int32 → zI → zR → zJ → Prop, Ci mX11_good d [.ref 174, .int x3] iv rv lv Q1 ∧ ∀ (v6 : Int32) (iv2 : zI) (rv3 : zR) (lv4 : zJ), Q1 v6 iv2 rv3 lv4 → zTop rv3 ∧ (Q v6 iv2 rv3 lv4)) ∧ (¬ x2 ≤ x4 → vp_in x4 1024 ∧ ((¬ (iv 196 x4.toNatClampNeg) = x1 → Zi mX11_chosen (d + 1) 42 [some (.ref 174), some (.int x1), some (.int x2), some (.int x3), some (.int (x4 + 1))] [] iv rv lv Q) ∧ ((iv 196 x4.toNatClampNeg) = x1 → (x3 = (-2 : Int32) → Zi mX11_chosen (d + 1) 42 [some (.ref 174), some (.int x1), some (.int x2), some (.int x4), some (.int (x4 + 1))] [] iv rv lv Q) ∧ (¬ x3 = (-2 : Int32) → ∃ Q8 : Int32 → zI → zR → zJ → Prop, Ci mX11_bits d [.int x4] iv rv lv Q8 ∧ ∀ (v13 : Int32) (iv9 : zI) (rv10 : zR) (lv11 : zJ), Q8 v13 iv9 rv10 lv11 → zTop rv10 ∧ (∃ Q14 : Int32 → zI → zR → zJ → Prop, Ci mX11_bits d [.int x3] iv9 rv10 lv11 Q14 ∧ ∀ (v19 : Int32) (iv15 : zI) (rv16 : zR) (lv17 : zJ), Q14 v19 iv15 rv16 lv17 → zTop rv16 ∧ ((v19 ≤ v13 → Zi mX11_chosen (d + 1) 42 [some (.ref 174), some (.int x1), some (.int x2), some (.int x3), some (.int (x4 + 1))] [] iv15 rv16 lv17 Q) ∧ (¬ v19 ≤ v13 → Zi mX11_chosen (d + 1) 42 [some (.ref 174), some (.int x1), some (.int x2), some (.int x4), some (.int (x4 + 1))] [] iv15 rv16 lv17 Q)))))))) :
    Zi mX11_chosen (d + 1) 42 [some (.ref 174), some (.int x1), some (.int x2), some (.int x3), some (.int x4)] [] iv rv lv Q := by
  unfold Zi
  refine Z_iload (a := 4) (q := 44) (by decide +kernel) rfl rfl ?_
  refine Z_iload_n (a := 2) (q := 45) (by decide +kernel) rfl rfl ?_
  refine Z_icmp_ge (t := 86) (off := 41) (q := 48) (by decide +kernel) (by decide) rfl (fun hc => ?_) (fun hc => ?_)
  · replace h := h.1 hc
    refine Z_aload_n (a := 0) (q := 87) (by decide +kernel) rfl rfl ?_
    refine Z_iload_n (a := 3) (q := 88) (by decide +kernel) rfl rfl ?_
    obtain ⟨Q1, hm, h⟩ := h
    refine Z_callVi (M2 := mX11_good) (idx := 214) (d2 := d) (ci := 11) (As := [.int _]) (q := 91) (by decide +kernel) kX11_good lX11_214 rfl rfl (by decide) rfl rfl (by decide +kernel) (Nat.le_of_ble_eq_true rfl) (Nat.le_refl _) hm rfl (fun v6 iv2 rv3 lv4 hq => ?_)
    obtain ⟨hT5, h⟩ := h v6 iv2 rv3 lv4 hq
    exact Z_iret (ty := .int) (by decide +kernel) rfl rfl rfl ⟨_, rfl, h⟩
  · replace h := h.2 hc
    refine Z_aload_n (a := 0) (q := 49) (by decide +kernel) rfl rfl ?_
    refine g11_48 (idx := 78) (q := 52) (by decide +kernel) fX11_78 rfl (by decide) (t11_48 hT) rfl ?_
    refine Z_iload (a := 4) (q := 54) (by decide +kernel) rfl rfl ?_
    obtain ⟨hin7, h⟩ := h
    refine Z_iald (len := 1024) (q := 55) (by decide +kernel) rfl (by decide) hin7 rfl ?_
    refine Z_iload_n (a := 1) (q := 56) (by decide +kernel) rfl rfl ?_
    refine Z_icmp_ne (t := 80) (off := 24) (q := 59) (by decide +kernel) (by decide) rfl (fun hc => ?_) (fun hc => ?_)
    · replace h := h.1 hc
      refine Z_iinc (a := 4) (b := 1) (v := _ + 1) (loc2 := [_, _, _, _, _]) (q := 83) (by decide +kernel) rfl (zinc _) (by decide +kernel) rfl rfl rfl ?_
      refine Z_goto (q := 42) (off := -41) (by decide +kernel) (by decide) ?_
      exact h
    · replace h := h.2 hc
      refine Z_iload_n (a := 3) (q := 60) (by decide +kernel) rfl rfl ?_
      refine Z_bipush (a := -2) (v := -2) (q := 62) (by decide +kernel) (by decide +kernel) rfl ?_
      refine Z_icmp_eq (t := 77) (off := 15) (q := 65) (by decide +kernel) (by decide) rfl (fun hc => ?_) (fun hc => ?_)
      · replace h := h.1 hc
        refine Z_iload (a := 4) (q := 79) (by decide +kernel) rfl rfl ?_
        refine Z_istore_n (a := 3) (loc2 := [_, _, _, _, _]) (q := 80) (by decide +kernel) (by decide +kernel) rfl rfl rfl ?_
        refine Z_iinc (a := 4) (b := 1) (v := _ + 1) (loc2 := [_, _, _, _, _]) (q := 83) (by decide +kernel) rfl (zinc _) (by decide +kernel) rfl rfl rfl ?_
        refine Z_goto (q := 42) (off := -41) (by decide +kernel) (by decide) ?_
        exact h
      · replace h := h.2 hc
        refine Z_iload (a := 4) (q := 67) (by decide +kernel) rfl rfl ?_
        obtain ⟨Q8, hm, h⟩ := h
        refine Z_callSi (M2 := mX11_bits) (idx := 359) (d2 := d) (As := [.int _]) (q := 70) (by decide +kernel) kX11_bits lX11_359 rfl rfl (by decide +kernel) (Nat.le_of_ble_eq_true rfl) (Nat.le_refl _) hm rfl (fun v13 iv9 rv10 lv11 hq => ?_)
        obtain ⟨hT12, h⟩ := h v13 iv9 rv10 lv11 hq
        refine Z_iload_n (a := 3) (q := 71) (by decide +kernel) rfl rfl ?_
        obtain ⟨Q14, hm, h⟩ := h
        refine Z_callSi (M2 := mX11_bits) (idx := 359) (d2 := d) (As := [.int _]) (q := 74) (by decide +kernel) kX11_bits lX11_359 rfl rfl (by decide +kernel) (Nat.le_of_ble_eq_true rfl) (Nat.le_refl _) hm rfl (fun v19 iv15 rv16 lv17 hq => ?_)
        obtain ⟨hT18, h⟩ := h v19 iv15 rv16 lv17 hq
        refine Z_icmp_ge (t := 80) (off := 6) (q := 77) (by decide +kernel) (by decide) rfl (fun hc => ?_) (fun hc => ?_)
        · replace h := h.1 hc
          refine Z_iinc (a := 4) (b := 1) (v := _ + 1) (loc2 := [_, _, _, _, _]) (q := 83) (by decide +kernel) rfl (zinc _) (by decide +kernel) rfl rfl rfl ?_
          refine Z_goto (q := 42) (off := -41) (by decide +kernel) (by decide) ?_
          exact h
        · replace h := h.2 hc
          refine Z_iload (a := 4) (q := 79) (by decide +kernel) rfl rfl ?_
          refine Z_istore_n (a := 3) (loc2 := [_, _, _, _, _]) (q := 80) (by decide +kernel) (by decide +kernel) rfl rfl rfl ?_
          refine Z_iinc (a := 4) (b := 1) (v := _ + 1) (loc2 := [_, _, _, _, _]) (q := 83) (by decide +kernel) rfl (zinc _) (by decide +kernel) rfl rfl rfl ?_
          refine Z_goto (q := 42) (off := -41) (by decide +kernel) (by decide) ?_
          exact h
theorem eX11_isNew {d : Nat} (x1 : Int32) {iv : zI} {rv : zR} {lv : zJ} {Q : Int32 → zI → zR → zJ → Prop} (h : Zi mX11_isNew d 0 [some (.ref 174), some (.int x1), none, none] [] iv rv lv Q) : Ci mX11_isNew d [.ref 174, .int x1] iv rv lv Q := Ci.of (by decide +kernel) (by simp [Value.category]) (Nat.le_of_ble_eq_true rfl) rfl h
set_option maxRecDepth 4000 in
theorem bX11_isNew_0 {d : Nat} (x1 : Int32) {iv : zI} {rv : zR} {lv : zJ} {Q : Int32 → zI → zR → zJ → Prop} (hT : zTop rv) 
    (h : Zi mX11_isNew d 4 [some (.ref 174), some (.int x1), some (.int (1 : Int32)), some (.int (0 : Int32))] [] iv rv lv Q) :
    Zi mX11_isNew d 0 [some (.ref 174), some (.int x1), none, none] [] iv rv lv Q := by
  unfold Zi
  refine Z_iconst (a := 1) (v := 1) (q := 1) (by decide +kernel) (by decide +kernel) rfl ?_
  refine Z_istore_n (a := 2) (loc2 := [_, _, _, _]) (q := 2) (by decide +kernel) (by decide +kernel) rfl rfl rfl ?_
  refine Z_iconst (a := 0) (v := 0) (q := 3) (by decide +kernel) (by decide +kernel) rfl ?_
  refine Z_istore_n (a := 3) (loc2 := [_, _, _, _]) (q := 4) (by decide +kernel) (by decide +kernel) rfl rfl rfl ?_
  exact h
set_option maxRecDepth 4000 in
theorem bX11_isNew_4 {d : Nat} (x1 : Int32) (x2 : Int32) (x3 : Int32) {iv : zI} {rv : zR} {lv : zJ} {Q : Int32 → zI → zR → zJ → Prop} (hT : zTop rv) 
    (h : (x2 = 0 → (x2 = 0 ∨ x2 = 1) ∧ Q x2 iv rv lv) ∧ (¬ x2 = 0 → (x1 ≤ x3 → (x2 = 0 ∨ x2 = 1) ∧ Q x2 iv rv lv) ∧ (¬ x1 ≤ x3 → vp_in x3 1024 ∧ (vp_in x1 1024 ∧ (((iv 196 x3.toNatClampNeg) = (iv 196 x1.toNatClampNeg) → Zi mX11_isNew d 4 [some (.ref 174), some (.int x1), some (.int (0 : Int32)), some (.int (x3 + 1))] [] iv rv lv Q) ∧ (¬ (iv 196 x3.toNatClampNeg) = (iv 196 x1.toNatClampNeg) → Zi mX11_isNew d 4 [some (.ref 174), some (.int x1), some (.int (1 : Int32)), some (.int (x3 + 1))] [] iv rv lv Q)))))) :
    Zi mX11_isNew d 4 [some (.ref 174), some (.int x1), some (.int x2), some (.int x3)] [] iv rv lv Q := by
  unfold Zi
  refine Z_iload_n (a := 2) (q := 5) (by decide +kernel) rfl rfl ?_
  refine Z_if_eq (t := 40) (off := 35) (q := 8) (by decide +kernel) (by decide) rfl (fun hc => ?_) (fun hc => ?_)
  · replace h := h.1 hc
    refine Z_iload_n (a := 2) (q := 41) (by decide +kernel) rfl rfl ?_
    exact Z_iret (ty := .boolean) (by decide +kernel) rfl (by rcases h.1 with e | e <;> rw [e] <;> rfl) rfl ⟨_, rfl, h.2⟩
  · replace h := h.2 hc
    refine Z_iload_n (a := 3) (q := 9) (by decide +kernel) rfl rfl ?_
    refine Z_iload_n (a := 1) (q := 10) (by decide +kernel) rfl rfl ?_
    refine Z_icmp_ge (t := 40) (off := 30) (q := 13) (by decide +kernel) (by decide) rfl (fun hc => ?_) (fun hc => ?_)
    · replace h := h.1 hc
      refine Z_iload_n (a := 2) (q := 41) (by decide +kernel) rfl rfl ?_
      exact Z_iret (ty := .boolean) (by decide +kernel) rfl (by rcases h.1 with e | e <;> rw [e] <;> rfl) rfl ⟨_, rfl, h.2⟩
    · replace h := h.2 hc
      refine Z_aload_n (a := 0) (q := 14) (by decide +kernel) rfl rfl ?_
      refine g11_48 (idx := 78) (q := 17) (by decide +kernel) fX11_78 rfl (by decide) (t11_48 hT) rfl ?_
      refine Z_iload_n (a := 3) (q := 18) (by decide +kernel) rfl rfl ?_
      obtain ⟨hin1, h⟩ := h
      refine Z_iald (len := 1024) (q := 19) (by decide +kernel) rfl (by decide) hin1 rfl ?_
      refine Z_aload_n (a := 0) (q := 20) (by decide +kernel) rfl rfl ?_
      refine g11_48 (idx := 78) (q := 23) (by decide +kernel) fX11_78 rfl (by decide) (t11_48 hT) rfl ?_
      refine Z_iload_n (a := 1) (q := 24) (by decide +kernel) rfl rfl ?_
      obtain ⟨hin2, h⟩ := h
      refine Z_iald (len := 1024) (q := 25) (by decide +kernel) rfl (by decide) hin2 rfl ?_
      refine Z_icmp_eq (t := 32) (off := 7) (q := 28) (by decide +kernel) (by decide) rfl (fun hc => ?_) (fun hc => ?_)
      · replace h := h.1 hc
        refine Z_iconst (a := 0) (v := 0) (q := 33) (by decide +kernel) (by decide +kernel) rfl ?_
        refine Z_istore_n (a := 2) (loc2 := [_, _, _, _]) (q := 34) (by decide +kernel) (by decide +kernel) rfl rfl rfl ?_
        refine Z_iinc (a := 3) (b := 1) (v := _ + 1) (loc2 := [_, _, _, _]) (q := 37) (by decide +kernel) rfl (zinc _) (by decide +kernel) rfl rfl rfl ?_
        refine Z_goto (q := 4) (off := -33) (by decide +kernel) (by decide) ?_
        exact h
      · replace h := h.2 hc
        refine Z_iconst (a := 1) (v := 1) (q := 29) (by decide +kernel) (by decide +kernel) rfl ?_
        refine Z_goto (q := 33) (off := 4) (by decide +kernel) (by decide) ?_
        refine Z_istore_n (a := 2) (loc2 := [_, _, _, _]) (q := 34) (by decide +kernel) (by decide +kernel) rfl rfl rfl ?_
        refine Z_iinc (a := 3) (b := 1) (v := _ + 1) (loc2 := [_, _, _, _]) (q := 37) (by decide +kernel) rfl (zinc _) (by decide +kernel) rfl rfl rfl ?_
        refine Z_goto (q := 4) (off := -33) (by decide +kernel) (by decide) ?_
        exact h
theorem eX11_sums {d : Nat}  {iv : zI} {rv : zR} {lv : zJ} {Q : Int32 → zI → zR → zJ → Prop} (h : Zi mX11_sums (d + 1) 0 [some (.ref 174), none, none, none] [] iv rv lv Q) : Ci mX11_sums (d + 1) [.ref 174] iv rv lv Q := Ci.of (by decide +kernel) (by simp [Value.category]) (Nat.le_of_ble_eq_true rfl) rfl h
set_option maxRecDepth 4000 in
theorem bX11_sums_0 {d : Nat}  {iv : zI} {rv : zR} {lv : zJ} {Q : Int32 → zI → zR → zJ → Prop} (hT : zTop rv) 
    (h : ∀ iv1 : zI, iv1 = zu iv 174 0 (0 : Int32) → (¬ (iv1 174 19) = 0 → ∃ Q2 : Int32 → zI → zR → zJ → Prop, Ci mX11_laysSums d [.ref 174] iv1 rv lv Q2 ∧ ∀ (v7 : Int32) (iv3 : zI) (rv4 : zR) (lv5 : zJ), Q2 v7 iv3 rv4 lv5 → zTop rv4 ∧ (Zi mX11_sums (d + 1) 27 [some (.ref 174), some (.int v7), some (.int (0 : Int32)), some (.int (0 : Int32))] [] iv3 rv4 lv5 Q)) ∧ ((iv1 174 19) = 0 → ∃ Q8 : Int32 → zI → zR → zJ → Prop, Ci mX11_refused d [.ref 174, .int (1 : Int32)] iv1 rv lv Q8 ∧ ∀ (v13 : Int32) (iv9 : zI) (rv10 : zR) (lv11 : zJ), Q8 v13 iv9 rv10 lv11 → zTop rv10 ∧ (Q v13 iv9 rv10 lv11))) :
    Zi mX11_sums (d + 1) 0 [some (.ref 174), none, none, none] [] iv rv lv Q := by
  unfold Zi
  refine Z_aload_n (a := 0) (q := 1) (by decide +kernel) rfl rfl ?_
  refine Z_iconst (a := 0) (v := 0) (q := 2) (by decide +kernel) (by decide +kernel) rfl ?_
  refine p11_0 (idx := 87) (q := 5) (by decide +kernel) fX11_87 rfl (by decide) rfl ?_
  replace h := h _ rfl
  refine Z_aload_n (a := 0) (q := 6) (by decide +kernel) rfl rfl ?_
  refine g11_19 (idx := 211) (q := 9) (by decide +kernel) fX11_211 rfl (by decide) rfl ?_
  refine Z_if_ne (t := 18) (off := 9) (q := 12) (by decide +kernel) (by decide) rfl (fun hc => ?_) (fun hc => ?_)
  · replace h := h.1 hc
    refine Z_aload_n (a := 0) (q := 19) (by decide +kernel) rfl rfl ?_
    obtain ⟨Q2, hm, h⟩ := h
    refine Z_callVi (M2 := mX11_laysSums) (idx := 356) (d2 := d) (ci := 11) (As := []) (q := 22) (by decide +kernel) kX11_laysSums lX11_356 rfl rfl (by decide) rfl rfl (by decide +kernel) (Nat.le_of_ble_eq_true rfl) (Nat.le_refl _) hm rfl (fun v7 iv3 rv4 lv5 hq => ?_)
    obtain ⟨hT6, h⟩ := h v7 iv3 rv4 lv5 hq
    refine Z_istore_n (a := 1) (loc2 := [_, _, _, _]) (q := 23) (by decide +kernel) (by decide +kernel) rfl rfl rfl ?_
    refine Z_iconst (a := 0) (v := 0) (q := 24) (by decide +kernel) (by decide +kernel) rfl ?_
    refine Z_istore_n (a := 2) (loc2 := [_, _, _, _]) (q := 25) (by decide +kernel) (by decide +kernel) rfl rfl rfl ?_
    refine Z_iconst (a := 0) (v := 0) (q := 26) (by decide +kernel) (by decide +kernel) rfl ?_
    refine Z_istore_n (a := 3) (loc2 := [_, _, _, _]) (q := 27) (by decide +kernel) (by decide +kernel) rfl rfl rfl ?_
    exact h
  · replace h := h.2 hc
    refine Z_aload_n (a := 0) (q := 13) (by decide +kernel) rfl rfl ?_
    refine Z_iconst (a := 1) (v := 1) (q := 14) (by decide +kernel) (by decide +kernel) rfl ?_
    obtain ⟨Q8, hm, h⟩ := h
    refine Z_callVi (M2 := mX11_refused) (idx := 201) (d2 := d) (ci := 11) (As := [.int _]) (q := 17) (by decide +kernel) kX11_refused lX11_201 rfl rfl (by decide) rfl rfl (by decide +kernel) (Nat.le_of_ble_eq_true rfl) (Nat.le_refl _) hm rfl (fun v13 iv9 rv10 lv11 hq => ?_)
    obtain ⟨hT12, h⟩ := h v13 iv9 rv10 lv11 hq
    exact Z_iret (ty := .int) (by decide +kernel) rfl rfl rfl ⟨_, rfl, h⟩
set_option maxRecDepth 4000 in
theorem bX11_sums_27 {d : Nat} (x1 : Int32) (x2 : Int32) (x3 : Int32) {iv : zI} {rv : zR} {lv : zJ} {Q : Int32 → zI → zR → zJ → Prop} (hT : zTop rv) 
    (h : (x1 ≤ x3 → ∃ Q1 : Int32 → zI → zR → zJ → Prop, Ci mX11_good d [.ref 174, .int x2] iv rv lv Q1 ∧ ∀ (v6 : Int32) (iv2 : zI) (rv3 : zR) (lv4 : zJ), Q1 v6 iv2 rv3 lv4 → zTop rv3 ∧ (Q v6 iv2 rv3 lv4)) ∧ (¬ x1 ≤ x3 → ∃ Q7 : Int32 → zI → zR → zJ → Prop, Ci mX11_isNew d [.ref 174, .int x3] iv rv lv Q7 ∧ ∀ (v12 : Int32) (iv8 : zI) (rv9 : zR) (lv10 : zJ), Q7 v12 iv8 rv9 lv10 → zTop rv9 ∧ ((v12 = 0 → Zi mX11_sums (d + 1) 27 [some (.ref 174), some (.int x1), some (.int (x2 + (0 : Int32))), some (.int (x3 + 1))] [] iv8 rv9 lv10 Q) ∧ (¬ v12 = 0 → Zi mX11_sums (d + 1) 27 [some (.ref 174), some (.int x1), some (.int (x2 + (1 : Int32))), some (.int (x3 + 1))] [] iv8 rv9 lv10 Q)))) :
    Zi mX11_sums (d + 1) 27 [some (.ref 174), some (.int x1), some (.int x2), some (.int x3)] [] iv rv lv Q := by
  unfold Zi
  refine Z_iload_n (a := 3) (q := 28) (by decide +kernel) rfl rfl ?_
  refine Z_iload_n (a := 1) (q := 29) (by decide +kernel) rfl rfl ?_
  refine Z_icmp_ge (t := 54) (off := 25) (q := 32) (by decide +kernel) (by decide) rfl (fun hc => ?_) (fun hc => ?_)
  · replace h := h.1 hc
    refine Z_aload_n (a := 0) (q := 55) (by decide +kernel) rfl rfl ?_
    refine Z_iload_n (a := 2) (q := 56) (by decide +kernel) rfl rfl ?_
    obtain ⟨Q1, hm, h⟩ := h
    refine Z_callVi (M2 := mX11_good) (idx := 214) (d2 := d) (ci := 11) (As := [.int _]) (q := 59) (by decide +kernel) kX11_good lX11_214 rfl rfl (by decide) rfl rfl (by decide +kernel) (Nat.le_of_ble_eq_true rfl) (Nat.le_refl _) hm rfl (fun v6 iv2 rv3 lv4 hq => ?_)
    obtain ⟨hT5, h⟩ := h v6 iv2 rv3 lv4 hq
    exact Z_iret (ty := .int) (by decide +kernel) rfl rfl rfl ⟨_, rfl, h⟩
  · replace h := h.2 hc
    refine Z_iload_n (a := 2) (q := 33) (by decide +kernel) rfl rfl ?_
    refine Z_aload_n (a := 0) (q := 34) (by decide +kernel) rfl rfl ?_
    refine Z_iload_n (a := 3) (q := 35) (by decide +kernel) rfl rfl ?_
    obtain ⟨Q7, hm, h⟩ := h
    refine Z_callVi (M2 := mX11_isNew) (idx := 362) (d2 := d) (ci := 11) (As := [.int _]) (q := 38) (by decide +kernel) kX11_isNew lX11_362 rfl rfl (by decide) rfl rfl (by decide +kernel) (Nat.le_of_ble_eq_true rfl) (Nat.le_refl _) hm rfl (fun v12 iv8 rv9 lv10 hq => ?_)
    obtain ⟨hT11, h⟩ := h v12 iv8 rv9 lv10 hq
    refine Z_if_eq (t := 45) (off := 7) (q := 41) (by decide +kernel) (by decide) rfl (fun hc => ?_) (fun hc => ?_)
    · replace h := h.1 hc
      refine Z_iconst (a := 0) (v := 0) (q := 46) (by decide +kernel) (by decide +kernel) rfl ?_
      refine Z_iadd (q := 47) (by decide +kernel) rfl ?_
      refine Z_istore_n (a := 2) (loc2 := [_, _, _, _]) (q := 48) (by decide +kernel) (by decide +kernel) rfl rfl rfl ?_
      refine Z_iinc (a := 3) (b := 1) (v := _ + 1) (loc2 := [_, _, _, _]) (q := 51) (by decide +kernel) rfl (zinc _) (by decide +kernel) rfl rfl rfl ?_
      refine Z_goto (q := 27) (off := -24) (by decide +kernel) (by decide) ?_
      exact h
    · replace h := h.2 hc
      refine Z_iconst (a := 1) (v := 1) (q := 42) (by decide +kernel) (by decide +kernel) rfl ?_
      refine Z_goto (q := 46) (off := 4) (by decide +kernel) (by decide) ?_
      refine Z_iadd (q := 47) (by decide +kernel) rfl ?_
      refine Z_istore_n (a := 2) (loc2 := [_, _, _, _]) (q := 48) (by decide +kernel) (by decide +kernel) rfl rfl rfl ?_
      refine Z_iinc (a := 3) (b := 1) (v := _ + 1) (loc2 := [_, _, _, _]) (q := 51) (by decide +kernel) rfl (zinc _) (by decide +kernel) rfl rfl rfl ?_
      refine Z_goto (q := 27) (off := -24) (by decide +kernel) (by decide) ?_
      exact h
theorem eX11_nearest {d : Nat} (x1 : Int32) {iv : zI} {rv : zR} {lv : zJ} {Q : Int32 → zI → zR → zJ → Prop} (h : Zi mX11_nearest (d + 1) 0 [some (.ref 174), some (.int x1), none, none, none, none, none] [] iv rv lv Q) : Ci mX11_nearest (d + 1) [.ref 174, .int x1] iv rv lv Q := Ci.of (by decide +kernel) (by simp [Value.category]) (Nat.le_of_ble_eq_true rfl) rfl h
set_option maxRecDepth 4000 in
theorem bX11_nearest_0 {d : Nat} (x1 : Int32) {iv : zI} {rv : zR} {lv : zJ} {Q : Int32 → zI → zR → zJ → Prop} (hT : zTop rv) 
    (h : ∀ iv1 : zI, iv1 = zu iv 174 0 (0 : Int32) → (¬ (iv1 174 19) = 0 → ∃ Q2 : Int32 → zI → zR → zJ → Prop, Ci mX11_isSum d [.int x1] iv1 rv lv Q2 ∧ ∀ (v7 : Int32) (iv3 : zI) (rv4 : zR) (lv5 : zJ), Q2 v7 iv3 rv4 lv5 → zTop rv4 ∧ ((¬ v7 = 0 → ∃ Q8 : Int32 → zI → zR → zJ → Prop, Ci mX11_laysSums d [.ref 174] iv3 rv4 lv5 Q8 ∧ ∀ (v13 : Int32) (iv9 : zI) (rv10 : zR) (lv11 : zJ), Q8 v13 iv9 rv10 lv11 → zTop rv10 ∧ (Zi mX11_nearest (d + 1) 41 [some (.ref 174), some (.int x1), some (.int v13), some (.int (0 : Int32)), some (.int (0 : Int32)), none, none] [] iv9 rv10 lv11 Q)) ∧ (v7 = 0 → ∃ Q14 : Int32 → zI → zR → zJ → Prop, Ci mX11_refused d [.ref 174, .int (2 : Int32)] iv3 rv4 lv5 Q14 ∧ ∀ (v19 : Int32) (iv15 : zI) (rv16 : zR) (lv17 : zJ), Q14 v19 iv15 rv16 lv17 → zTop rv16 ∧ (Q v19 iv15 rv16 lv17)))) ∧ ((iv1 174 19) = 0 → ∃ Q20 : Int32 → zI → zR → zJ → Prop, Ci mX11_refused d [.ref 174, .int (1 : Int32)] iv1 rv lv Q20 ∧ ∀ (v25 : Int32) (iv21 : zI) (rv22 : zR) (lv23 : zJ), Q20 v25 iv21 rv22 lv23 → zTop rv22 ∧ (Q v25 iv21 rv22 lv23))) :
    Zi mX11_nearest (d + 1) 0 [some (.ref 174), some (.int x1), none, none, none, none, none] [] iv rv lv Q := by
  unfold Zi
  refine Z_aload_n (a := 0) (q := 1) (by decide +kernel) rfl rfl ?_
  refine Z_iconst (a := 0) (v := 0) (q := 2) (by decide +kernel) (by decide +kernel) rfl ?_
  refine p11_0 (idx := 87) (q := 5) (by decide +kernel) fX11_87 rfl (by decide) rfl ?_
  replace h := h _ rfl
  refine Z_aload_n (a := 0) (q := 6) (by decide +kernel) rfl rfl ?_
  refine g11_19 (idx := 211) (q := 9) (by decide +kernel) fX11_211 rfl (by decide) rfl ?_
  refine Z_if_ne (t := 18) (off := 9) (q := 12) (by decide +kernel) (by decide) rfl (fun hc => ?_) (fun hc => ?_)
  · replace h := h.1 hc
    refine Z_iload_n (a := 1) (q := 19) (by decide +kernel) rfl rfl ?_
    obtain ⟨Q2, hm, h⟩ := h
    refine Z_callSi (M2 := mX11_isSum) (idx := 353) (d2 := d) (As := [.int _]) (q := 22) (by decide +kernel) kX11_isSum lX11_353 rfl rfl (by decide +kernel) (Nat.le_of_ble_eq_true rfl) (Nat.le_refl _) hm rfl (fun v7 iv3 rv4 lv5 hq => ?_)
    obtain ⟨hT6, h⟩ := h v7 iv3 rv4 lv5 hq
    refine Z_if_ne (t := 31) (off := 9) (q := 25) (by decide +kernel) (by decide) rfl (fun hc => ?_) (fun hc => ?_)
    · replace h := h.1 hc
      refine Z_aload_n (a := 0) (q := 32) (by decide +kernel) rfl rfl ?_
      obtain ⟨Q8, hm, h⟩ := h
      refine Z_callVi (M2 := mX11_laysSums) (idx := 356) (d2 := d) (ci := 11) (As := []) (q := 35) (by decide +kernel) kX11_laysSums lX11_356 rfl rfl (by decide) rfl rfl (by decide +kernel) (Nat.le_of_ble_eq_true rfl) (Nat.le_refl _) hm rfl (fun v13 iv9 rv10 lv11 hq => ?_)
      obtain ⟨hT12, h⟩ := h v13 iv9 rv10 lv11 hq
      refine Z_istore_n (a := 2) (loc2 := [_, _, _, _, _, _, _]) (q := 36) (by decide +kernel) (by decide +kernel) rfl rfl rfl ?_
      refine Z_iconst (a := 0) (v := 0) (q := 37) (by decide +kernel) (by decide +kernel) rfl ?_
      refine Z_istore_n (a := 3) (loc2 := [_, _, _, _, _, _, _]) (q := 38) (by decide +kernel) (by decide +kernel) rfl rfl rfl ?_
      refine Z_iconst (a := 0) (v := 0) (q := 39) (by decide +kernel) (by decide +kernel) rfl ?_
      refine Z_istore (a := 4) (loc2 := [_, _, _, _, _, _, _]) (q := 41) (by decide +kernel) (by decide +kernel) rfl rfl rfl ?_
      exact h
    · replace h := h.2 hc
      refine Z_aload_n (a := 0) (q := 26) (by decide +kernel) rfl rfl ?_
      refine Z_iconst (a := 2) (v := 2) (q := 27) (by decide +kernel) (by decide +kernel) rfl ?_
      obtain ⟨Q14, hm, h⟩ := h
      refine Z_callVi (M2 := mX11_refused) (idx := 201) (d2 := d) (ci := 11) (As := [.int _]) (q := 30) (by decide +kernel) kX11_refused lX11_201 rfl rfl (by decide) rfl rfl (by decide +kernel) (Nat.le_of_ble_eq_true rfl) (Nat.le_refl _) hm rfl (fun v19 iv15 rv16 lv17 hq => ?_)
      obtain ⟨hT18, h⟩ := h v19 iv15 rv16 lv17 hq
      exact Z_iret (ty := .int) (by decide +kernel) rfl rfl rfl ⟨_, rfl, h⟩
  · replace h := h.2 hc
    refine Z_aload_n (a := 0) (q := 13) (by decide +kernel) rfl rfl ?_
    refine Z_iconst (a := 1) (v := 1) (q := 14) (by decide +kernel) (by decide +kernel) rfl ?_
    obtain ⟨Q20, hm, h⟩ := h
    refine Z_callVi (M2 := mX11_refused) (idx := 201) (d2 := d) (ci := 11) (As := [.int _]) (q := 17) (by decide +kernel) kX11_refused lX11_201 rfl rfl (by decide) rfl rfl (by decide +kernel) (Nat.le_of_ble_eq_true rfl) (Nat.le_refl _) hm rfl (fun v25 iv21 rv22 lv23 hq => ?_)
    obtain ⟨hT24, h⟩ := h v25 iv21 rv22 lv23 hq
    exact Z_iret (ty := .int) (by decide +kernel) rfl rfl rfl ⟨_, rfl, h⟩
set_option maxRecDepth 4000 in
theorem bX11_nearest_41 {d : Nat} (x1 : Int32) (x2 : Int32) (x3 : Int32) (x4 : Int32) {iv : zI} {rv : zR} {lv : zJ} {Q : Int32 → zI → zR → zJ → Prop} (hT : zTop rv) 
    (h : (x2 ≤ x4 → ∃ Q1 : Int32 → zI → zR → zJ → Prop, Ci mX11_good d [.ref 174, .int x3] iv rv lv Q1 ∧ ∀ (v6 : Int32) (iv2 : zI) (rv3 : zR) (lv4 : zJ), Q1 v6 iv2 rv3 lv4 → zTop rv3 ∧ (Q v6 iv2 rv3 lv4)) ∧ (¬ x2 ≤ x4 → vp_in x4 1024 ∧ (((iv 196 x4.toNatClampNeg) ≤ x1 → (x3 ≤ x1 → Zi mX11_nearest (d + 1) 95 [some (.ref 174), some (.int x1), some (.int x2), some (.int x3), some (.int x4), some (.int (x1 - (iv 196 x4.toNatClampNeg))), none] [.int (x1 - x3)] iv rv lv Q) ∧ (¬ x3 ≤ x1 → Zi mX11_nearest (d + 1) 95 [some (.ref 174), some (.int x1), some (.int x2), some (.int x3), some (.int x4), some (.int (x1 - (iv 196 x4.toNatClampNeg))), none] [.int (x3 - x1)] iv rv lv Q)) ∧ (¬ (iv 196 x4.toNatClampNeg) ≤ x1 → (x3 ≤ x1 → Zi mX11_nearest (d + 1) 95 [some (.ref 174), some (.int x1), some (.int x2), some (.int x3), some (.int x4), some (.int ((iv 196 x4.toNatClampNeg) - x1)), none] [.int (x1 - x3)] iv rv lv Q) ∧ (¬ x3 ≤ x1 → Zi mX11_nearest (d + 1) 95 [some (.ref 174), some (.int x1), some (.int x2), some (.int x3), some (.int x4), some (.int ((iv 196 x4.toNatClampNeg) - x1)), none] [.int (x3 - x1)] iv rv lv Q))))) :
    Zi mX11_nearest (d + 1) 41 [some (.ref 174), some (.int x1), some (.int x2), some (.int x3), some (.int x4), none, none] [] iv rv lv Q := by
  unfold Zi
  refine Z_iload (a := 4) (q := 43) (by decide +kernel) rfl rfl ?_
  refine Z_iload_n (a := 2) (q := 44) (by decide +kernel) rfl rfl ?_
  refine Z_icmp_ge (t := 136) (off := 92) (q := 47) (by decide +kernel) (by decide) rfl (fun hc => ?_) (fun hc => ?_)
  · replace h := h.1 hc
    refine Z_aload_n (a := 0) (q := 137) (by decide +kernel) rfl rfl ?_
    refine Z_iload_n (a := 3) (q := 138) (by decide +kernel) rfl rfl ?_
    obtain ⟨Q1, hm, h⟩ := h
    refine Z_callVi (M2 := mX11_good) (idx := 214) (d2 := d) (ci := 11) (As := [.int _]) (q := 141) (by decide +kernel) kX11_good lX11_214 rfl rfl (by decide) rfl rfl (by decide +kernel) (Nat.le_of_ble_eq_true rfl) (Nat.le_refl _) hm rfl (fun v6 iv2 rv3 lv4 hq => ?_)
    obtain ⟨hT5, h⟩ := h v6 iv2 rv3 lv4 hq
    exact Z_iret (ty := .int) (by decide +kernel) rfl rfl rfl ⟨_, rfl, h⟩
  · replace h := h.2 hc
    refine Z_aload_n (a := 0) (q := 48) (by decide +kernel) rfl rfl ?_
    refine g11_48 (idx := 78) (q := 51) (by decide +kernel) fX11_78 rfl (by decide) (t11_48 hT) rfl ?_
    refine Z_iload (a := 4) (q := 53) (by decide +kernel) rfl rfl ?_
    obtain ⟨hin7, h⟩ := h
    refine Z_iald (len := 1024) (q := 54) (by decide +kernel) rfl (by decide) hin7 rfl ?_
    refine Z_iload_n (a := 1) (q := 55) (by decide +kernel) rfl rfl ?_
    refine Z_icmp_le (t := 70) (off := 15) (q := 58) (by decide +kernel) (by decide) rfl (fun hc => ?_) (fun hc => ?_)
    · replace h := h.1 hc
      refine Z_iload_n (a := 1) (q := 71) (by decide +kernel) rfl rfl ?_
      refine Z_aload_n (a := 0) (q := 72) (by decide +kernel) rfl rfl ?_
      refine g11_48 (idx := 78) (q := 75) (by decide +kernel) fX11_78 rfl (by decide) (t11_48 hT) rfl ?_
      refine Z_iload (a := 4) (q := 77) (by decide +kernel) rfl rfl ?_
      refine Z_iald (len := 1024) (q := 78) (by decide +kernel) rfl (by decide) hin7 rfl ?_
      refine Z_isub (q := 79) (by decide +kernel) rfl ?_
      refine Z_istore (a := 5) (loc2 := [_, _, _, _, _, _, _]) (q := 81) (by decide +kernel) (by decide +kernel) rfl rfl rfl ?_
      refine Z_iload_n (a := 3) (q := 82) (by decide +kernel) rfl rfl ?_
      refine Z_iload_n (a := 1) (q := 83) (by decide +kernel) rfl rfl ?_
      refine Z_icmp_le (t := 92) (off := 9) (q := 86) (by decide +kernel) (by decide) rfl (fun hc => ?_) (fun hc => ?_)
      · replace h := h.1 hc
        refine Z_iload_n (a := 1) (q := 93) (by decide +kernel) rfl rfl ?_
        refine Z_iload_n (a := 3) (q := 94) (by decide +kernel) rfl rfl ?_
        refine Z_isub (q := 95) (by decide +kernel) rfl ?_
        exact h
      · replace h := h.2 hc
        refine Z_iload_n (a := 3) (q := 87) (by decide +kernel) rfl rfl ?_
        refine Z_iload_n (a := 1) (q := 88) (by decide +kernel) rfl rfl ?_
        refine Z_isub (q := 89) (by decide +kernel) rfl ?_
        refine Z_goto (q := 95) (off := 6) (by decide +kernel) (by decide) ?_
        exact h
    · replace h := h.2 hc
      refine Z_aload_n (a := 0) (q := 59) (by decide +kernel) rfl rfl ?_
      refine g11_48 (idx := 78) (q := 62) (by decide +kernel) fX11_78 rfl (by decide) (t11_48 hT) rfl ?_
      refine Z_iload (a := 4) (q := 64) (by decide +kernel) rfl rfl ?_
      refine Z_iald (len := 1024) (q := 65) (by decide +kernel) rfl (by decide) hin7 rfl ?_
      refine Z_iload_n (a := 1) (q := 66) (by decide +kernel) rfl rfl ?_
      refine Z_isub (q := 67) (by decide +kernel) rfl ?_
      refine Z_goto (q := 79) (off := 12) (by decide +kernel) (by decide) ?_
      refine Z_istore (a := 5) (loc2 := [_, _, _, _, _, _, _]) (q := 81) (by decide +kernel) (by decide +kernel) rfl rfl rfl ?_
      refine Z_iload_n (a := 3) (q := 82) (by decide +kernel) rfl rfl ?_
      refine Z_iload_n (a := 1) (q := 83) (by decide +kernel) rfl rfl ?_
      refine Z_icmp_le (t := 92) (off := 9) (q := 86) (by decide +kernel) (by decide) rfl (fun hc => ?_) (fun hc => ?_)
      · replace h := h.1 hc
        refine Z_iload_n (a := 1) (q := 93) (by decide +kernel) rfl rfl ?_
        refine Z_iload_n (a := 3) (q := 94) (by decide +kernel) rfl rfl ?_
        refine Z_isub (q := 95) (by decide +kernel) rfl ?_
        exact h
      · replace h := h.2 hc
        refine Z_iload_n (a := 3) (q := 87) (by decide +kernel) rfl rfl ?_
        refine Z_iload_n (a := 1) (q := 88) (by decide +kernel) rfl rfl ?_
        refine Z_isub (q := 89) (by decide +kernel) rfl ?_
        refine Z_goto (q := 95) (off := 6) (by decide +kernel) (by decide) ?_
        exact h
set_option maxRecDepth 4000 in
theorem bX11_nearest_95 {d : Nat} (x1 : Int32) (x2 : Int32) (x3 : Int32) (x4 : Int32) (x5 : Int32) (y0 : Int32) {iv : zI} {rv : zR} {lv : zJ} {Q : Int32 → zI → zR → zJ → Prop} (hT : zTop rv) 
    (h : (x5 < y0 → vp_in x4 1024 ∧ (Zi mX11_nearest (d + 1) 41 [some (.ref 174), some (.int x1), some (.int x2), some (.int (iv 196 x4.toNatClampNeg)), some (.int (x4 + 1)), none, none] [] iv rv lv Q)) ∧ (¬ x5 < y0 → (¬ x5 = y0 → Zi mX11_nearest (d + 1) 41 [some (.ref 174), some (.int x1), some (.int x2), some (.int x3), some (.int (x4 + 1)), none, none] [] iv rv lv Q) ∧ (x5 = y0 → vp_in x4 1024 ∧ ((x3 ≤ (iv 196 x4.toNatClampNeg) → Zi mX11_nearest (d + 1) 41 [some (.ref 174), some (.int x1), some (.int x2), some (.int x3), some (.int (x4 + 1)), none, none] [] iv rv lv Q) ∧ (¬ x3 ≤ (iv 196 x4.toNatClampNeg) → Zi mX11_nearest (d + 1) 41 [some (.ref 174), some (.int x1), some (.int x2), some (.int (iv 196 x4.toNatClampNeg)), some (.int (x4 + 1)), none, none] [] iv rv lv Q))))) :
    Zi mX11_nearest (d + 1) 95 [some (.ref 174), some (.int x1), some (.int x2), some (.int x3), some (.int x4), some (.int x5), none] [.int y0] iv rv lv Q := by
  unfold Zi
  refine Z_istore (a := 6) (loc2 := [_, _, _, _, _, _, _]) (q := 97) (by decide +kernel) (by decide +kernel) rfl rfl rfl ?_
  refine Z_iload (a := 5) (q := 99) (by decide +kernel) rfl rfl ?_
  refine Z_iload (a := 6) (q := 101) (by decide +kernel) rfl rfl ?_
  refine Z_icmp_lt (t := 122) (off := 21) (q := 104) (by decide +kernel) (by decide) rfl (fun hc => ?_) (fun hc => ?_)
  · replace h := h.1 hc
    refine Z_aload_n (a := 0) (q := 123) (by decide +kernel) rfl rfl ?_
    refine g11_48 (idx := 78) (q := 126) (by decide +kernel) fX11_78 rfl (by decide) (t11_48 hT) rfl ?_
    refine Z_iload (a := 4) (q := 128) (by decide +kernel) rfl rfl ?_
    obtain ⟨hin1, h⟩ := h
    refine Z_iald (len := 1024) (q := 129) (by decide +kernel) rfl (by decide) hin1 rfl ?_
    refine Z_istore_n (a := 3) (loc2 := [_, _, _, _, _, _, _]) (q := 130) (by decide +kernel) (by decide +kernel) rfl rfl rfl ?_
    refine Z_iinc (a := 4) (b := 1) (v := _ + 1) (loc2 := [_, _, _, _, _, _, _]) (q := 133) (by decide +kernel) rfl (zinc _) (by decide +kernel) rfl rfl rfl ?_
    refine Z_goto (q := 41) (off := -92) (by decide +kernel) (by decide) ?_
    exact Z_forget h (And.intro rfl (And.intro rfl (And.intro rfl (And.intro rfl (And.intro rfl trivial)))))
  · replace h := h.2 hc
    refine Z_iload (a := 5) (q := 106) (by decide +kernel) rfl rfl ?_
    refine Z_iload (a := 6) (q := 108) (by decide +kernel) rfl rfl ?_
    refine Z_icmp_ne (t := 130) (off := 22) (q := 111) (by decide +kernel) (by decide) rfl (fun hc => ?_) (fun hc => ?_)
    · replace h := h.1 hc
      refine Z_iinc (a := 4) (b := 1) (v := _ + 1) (loc2 := [_, _, _, _, _, _, _]) (q := 133) (by decide +kernel) rfl (zinc _) (by decide +kernel) rfl rfl rfl ?_
      refine Z_goto (q := 41) (off := -92) (by decide +kernel) (by decide) ?_
      exact Z_forget h (And.intro rfl (And.intro rfl (And.intro rfl (And.intro rfl (And.intro rfl trivial)))))
    · replace h := h.2 hc
      refine Z_aload_n (a := 0) (q := 112) (by decide +kernel) rfl rfl ?_
      refine g11_48 (idx := 78) (q := 115) (by decide +kernel) fX11_78 rfl (by decide) (t11_48 hT) rfl ?_
      refine Z_iload (a := 4) (q := 117) (by decide +kernel) rfl rfl ?_
      obtain ⟨hin2, h⟩ := h
      refine Z_iald (len := 1024) (q := 118) (by decide +kernel) rfl (by decide) hin2 rfl ?_
      refine Z_iload_n (a := 3) (q := 119) (by decide +kernel) rfl rfl ?_
      refine Z_icmp_ge (t := 130) (off := 11) (q := 122) (by decide +kernel) (by decide) rfl (fun hc => ?_) (fun hc => ?_)
      · replace h := h.1 hc
        refine Z_iinc (a := 4) (b := 1) (v := _ + 1) (loc2 := [_, _, _, _, _, _, _]) (q := 133) (by decide +kernel) rfl (zinc _) (by decide +kernel) rfl rfl rfl ?_
        refine Z_goto (q := 41) (off := -92) (by decide +kernel) (by decide) ?_
        exact Z_forget h (And.intro rfl (And.intro rfl (And.intro rfl (And.intro rfl (And.intro rfl trivial)))))
      · replace h := h.2 hc
        refine Z_aload_n (a := 0) (q := 123) (by decide +kernel) rfl rfl ?_
        refine g11_48 (idx := 78) (q := 126) (by decide +kernel) fX11_78 rfl (by decide) (t11_48 hT) rfl ?_
        refine Z_iload (a := 4) (q := 128) (by decide +kernel) rfl rfl ?_
        refine Z_iald (len := 1024) (q := 129) (by decide +kernel) rfl (by decide) hin2 rfl ?_
        refine Z_istore_n (a := 3) (loc2 := [_, _, _, _, _, _, _]) (q := 130) (by decide +kernel) (by decide +kernel) rfl rfl rfl ?_
        refine Z_iinc (a := 4) (b := 1) (v := _ + 1) (loc2 := [_, _, _, _, _, _, _]) (q := 133) (by decide +kernel) rfl (zinc _) (by decide +kernel) rfl rfl rfl ?_
        refine Z_goto (q := 41) (off := -92) (by decide +kernel) (by decide) ?_
        exact Z_forget h (And.intro rfl (And.intro rfl (And.intro rfl (And.intro rfl (And.intro rfl trivial)))))
theorem eX11_remembers {d : Nat}  {iv : zI} {rv : zR} {lv : zJ} {Q : zI → zR → zJ → Prop} (h : Zv mX11_remembers d 0 [some (.ref 174), none] [] iv rv lv Q) : Cv mX11_remembers d [.ref 174] iv rv lv Q := Cv.of (by decide +kernel) (by simp [Value.category]) (Nat.le_of_ble_eq_true rfl) rfl h
set_option maxRecDepth 4000 in
theorem bX11_remembers_0 {d : Nat}  {iv : zI} {rv : zR} {lv : zJ} {Q : zI → zR → zJ → Prop} (hT : zTop rv) 
    (h : (¬ (iv 174 21) = (10 : Int32) → Zv mX11_remembers d 55 [some (.ref 174), some (.int (0 : Int32))] [] iv rv lv Q) ∧ ((iv 174 21) = (10 : Int32) → ∀ iv1 : zI, iv1 = zu iv 174 21 ((iv 174 21) - (1 : Int32)) → Zv mX11_remembers d 21 [some (.ref 174), some (.int (0 : Int32))] [] iv1 rv lv Q)) :
    Zv mX11_remembers d 0 [some (.ref 174), none] [] iv rv lv Q := by
  unfold Zv
  refine Z_aload_n (a := 0) (q := 1) (by decide +kernel) rfl rfl ?_
  refine g11_21 (idx := 208) (q := 4) (by decide +kernel) fX11_208 rfl (by decide) rfl ?_
  refine Z_bipush (a := 10) (v := 10) (q := 6) (by decide +kernel) (by decide +kernel) rfl ?_
  refine Z_icmp_ne (t := 53) (off := 47) (q := 9) (by decide +kernel) (by decide) rfl (fun hc => ?_) (fun hc => ?_)
  · replace h := h.1 hc
    refine Z_iconst (a := 0) (v := 0) (q := 54) (by decide +kernel) (by decide +kernel) rfl ?_
    refine Z_istore_n (a := 1) (loc2 := [_, _]) (q := 55) (by decide +kernel) (by decide +kernel) rfl rfl rfl ?_
    exact h
  · replace h := h.2 hc
    refine Z_aload_n (a := 0) (q := 10) (by decide +kernel) rfl rfl ?_
    refine Z_dup (q := 11) (by decide +kernel) rfl rfl ?_
    refine g11_21 (idx := 208) (q := 14) (by decide +kernel) fX11_208 rfl (by decide) rfl ?_
    refine Z_iconst (a := 1) (v := 1) (q := 15) (by decide +kernel) (by decide +kernel) rfl ?_
    refine Z_isub (q := 16) (by decide +kernel) rfl ?_
    refine p11_21 (idx := 208) (q := 19) (by decide +kernel) fX11_208 rfl (by decide) rfl ?_
    replace h := h _ rfl
    refine Z_iconst (a := 0) (v := 0) (q := 20) (by decide +kernel) (by decide +kernel) rfl ?_
    refine Z_istore_n (a := 1) (loc2 := [_, _]) (q := 21) (by decide +kernel) (by decide +kernel) rfl rfl rfl ?_
    exact h
set_option maxRecDepth 4000 in
theorem bX11_remembers_21 {d : Nat} (x1 : Int32) {iv : zI} {rv : zR} {lv : zJ} {Q : zI → zR → zJ → Prop} (hT : zTop rv) 
    (h : (((iv 174 21) * (35 : Int32)) ≤ x1 → Zv mX11_remembers d 55 [some (.ref 174), some (.int (0 : Int32))] [] iv rv lv Q) ∧ (¬ ((iv 174 21) * (35 : Int32)) ≤ x1 → vp_in (x1 + (35 : Int32)) 350 ∧ (vp_in x1 350 ∧ (∀ iv3 : zI, iv3 = zu iv 178 x1.toNatClampNeg (iv 178 (x1 + (35 : Int32)).toNatClampNeg) → Zv mX11_remembers d 21 [some (.ref 174), some (.int (x1 + 1))] [] iv3 rv lv Q)))) :
    Zv mX11_remembers d 21 [some (.ref 174), some (.int x1)] [] iv rv lv Q := by
  unfold Zv
  refine Z_iload_n (a := 1) (q := 22) (by decide +kernel) rfl rfl ?_
  refine Z_aload_n (a := 0) (q := 23) (by decide +kernel) rfl rfl ?_
  refine g11_21 (idx := 208) (q := 26) (by decide +kernel) fX11_208 rfl (by decide) rfl ?_
  refine Z_bipush (a := 35) (v := 35) (q := 28) (by decide +kernel) (by decide +kernel) rfl ?_
  refine Z_imul (q := 29) (by decide +kernel) rfl ?_
  refine Z_icmp_ge (t := 53) (off := 24) (q := 32) (by decide +kernel) (by decide) rfl (fun hc => ?_) (fun hc => ?_)
  · replace h := h.1 hc
    refine Z_iconst (a := 0) (v := 0) (q := 54) (by decide +kernel) (by decide +kernel) rfl ?_
    refine Z_istore_n (a := 1) (loc2 := [_, _]) (q := 55) (by decide +kernel) (by decide +kernel) rfl rfl rfl ?_
    exact h
  · replace h := h.2 hc
    refine Z_aload_n (a := 0) (q := 33) (by decide +kernel) rfl rfl ?_
    refine g11_16 (idx := 23) (q := 36) (by decide +kernel) fX11_23 rfl (by decide) (t11_16 hT) rfl ?_
    refine Z_iload_n (a := 1) (q := 37) (by decide +kernel) rfl rfl ?_
    refine Z_aload_n (a := 0) (q := 38) (by decide +kernel) rfl rfl ?_
    refine g11_16 (idx := 23) (q := 41) (by decide +kernel) fX11_23 rfl (by decide) (t11_16 hT) rfl ?_
    refine Z_iload_n (a := 1) (q := 42) (by decide +kernel) rfl rfl ?_
    refine Z_bipush (a := 35) (v := 35) (q := 44) (by decide +kernel) (by decide +kernel) rfl ?_
    refine Z_iadd (q := 45) (by decide +kernel) rfl ?_
    obtain ⟨hin1, h⟩ := h
    refine Z_iald (len := 350) (q := 46) (by decide +kernel) rfl (by decide) hin1 rfl ?_
    obtain ⟨hin2, h⟩ := h
    refine Z_iast (len := 350) (q := 47) (by decide +kernel) rfl (by decide) hin2 rfl ?_
    replace h := h _ rfl
    refine Z_iinc (a := 1) (b := 1) (v := _ + 1) (loc2 := [_, _]) (q := 50) (by decide +kernel) rfl (zinc _) (by decide +kernel) rfl rfl rfl ?_
    refine Z_goto (q := 21) (off := -29) (by decide +kernel) (by decide) ?_
    exact h
set_option maxRecDepth 4000 in
theorem bX11_remembers_55 {d : Nat} (x1 : Int32) {iv : zI} {rv : zR} {lv : zJ} {Q : zI → zR → zJ → Prop} (hT : zTop rv) 
    (h : ((35 : Int32) ≤ x1 → ∀ iv1 : zI, iv1 = zu iv 174 21 ((iv 174 21) + (1 : Int32)) → Q iv1 rv lv) ∧ (¬ (35 : Int32) ≤ x1 → vp_in x1 35 ∧ (vp_in (((iv 174 21) * (35 : Int32)) + x1) 350 ∧ (∀ iv4 : zI, iv4 = zu iv 178 (((iv 174 21) * (35 : Int32)) + x1).toNatClampNeg (iv 176 x1.toNatClampNeg) → Zv mX11_remembers d 55 [some (.ref 174), some (.int (x1 + 1))] [] iv4 rv lv Q)))) :
    Zv mX11_remembers d 55 [some (.ref 174), some (.int x1)] [] iv rv lv Q := by
  unfold Zv
  refine Z_iload_n (a := 1) (q := 56) (by decide +kernel) rfl rfl ?_
  refine Z_bipush (a := 35) (v := 35) (q := 58) (by decide +kernel) (by decide +kernel) rfl ?_
  refine Z_icmp_ge (t := 87) (off := 29) (q := 61) (by decide +kernel) (by decide) rfl (fun hc => ?_) (fun hc => ?_)
  · replace h := h.1 hc
    refine Z_aload_n (a := 0) (q := 88) (by decide +kernel) rfl rfl ?_
    refine Z_dup (q := 89) (by decide +kernel) rfl rfl ?_
    refine g11_21 (idx := 208) (q := 92) (by decide +kernel) fX11_208 rfl (by decide) rfl ?_
    refine Z_iconst (a := 1) (v := 1) (q := 93) (by decide +kernel) (by decide +kernel) rfl ?_
    refine Z_iadd (q := 94) (by decide +kernel) rfl ?_
    refine p11_21 (idx := 208) (q := 97) (by decide +kernel) fX11_208 rfl (by decide) rfl ?_
    replace h := h _ rfl
    exact Z_vret (by decide +kernel) rfl rfl ⟨rfl, h⟩
  · replace h := h.2 hc
    refine Z_aload_n (a := 0) (q := 62) (by decide +kernel) rfl rfl ?_
    refine g11_16 (idx := 23) (q := 65) (by decide +kernel) fX11_23 rfl (by decide) (t11_16 hT) rfl ?_
    refine Z_aload_n (a := 0) (q := 66) (by decide +kernel) rfl rfl ?_
    refine g11_21 (idx := 208) (q := 69) (by decide +kernel) fX11_208 rfl (by decide) rfl ?_
    refine Z_bipush (a := 35) (v := 35) (q := 71) (by decide +kernel) (by decide +kernel) rfl ?_
    refine Z_imul (q := 72) (by decide +kernel) rfl ?_
    refine Z_iload_n (a := 1) (q := 73) (by decide +kernel) rfl rfl ?_
    refine Z_iadd (q := 74) (by decide +kernel) rfl ?_
    refine Z_aload_n (a := 0) (q := 75) (by decide +kernel) rfl rfl ?_
    refine g11_14 (idx := 17) (q := 78) (by decide +kernel) fX11_17 rfl (by decide) (t11_14 hT) rfl ?_
    refine Z_iload_n (a := 1) (q := 79) (by decide +kernel) rfl rfl ?_
    obtain ⟨hin2, h⟩ := h
    refine Z_iald (len := 35) (q := 80) (by decide +kernel) rfl (by decide) hin2 rfl ?_
    obtain ⟨hin3, h⟩ := h
    refine Z_iast (len := 350) (q := 81) (by decide +kernel) rfl (by decide) hin3 rfl ?_
    replace h := h _ rfl
    refine Z_iinc (a := 1) (b := 1) (v := _ + 1) (loc2 := [_, _]) (q := 84) (by decide +kernel) rfl (zinc _) (by decide +kernel) rfl rfl rfl ?_
    refine Z_goto (q := 55) (off := -29) (by decide +kernel) (by decide) ?_
    exact h
theorem eX11_add {d : Nat} (x1 : Int32) {iv : zI} {rv : zR} {lv : zJ} {Q : Int32 → zI → zR → zJ → Prop} (h : Zi mX11_add (d + 1) 0 [some (.ref 174), some (.int x1)] [] iv rv lv Q) : Ci mX11_add (d + 1) [.ref 174, .int x1] iv rv lv Q := Ci.of (by decide +kernel) (by simp [Value.category]) (Nat.le_of_ble_eq_true rfl) rfl h
set_option maxRecDepth 4000 in
theorem bX11_add_0 {d : Nat} (x1 : Int32) {iv : zI} {rv : zR} {lv : zJ} {Q : Int32 → zI → zR → zJ → Prop} (hT : zTop rv) 
    (h : ∀ iv1 : zI, iv1 = zu iv 174 0 (0 : Int32) → (¬ (iv1 174 19) = 0 → ∃ Q2 : Int32 → zI → zR → zJ → Prop, Ci mX11_in d [.int x1, .int (1 : Int32), .int (9999 : Int32)] iv1 rv lv Q2 ∧ ∀ (v7 : Int32) (iv3 : zI) (rv4 : zR) (lv5 : zJ), Q2 v7 iv3 rv4 lv5 → zTop rv4 ∧ ((¬ v7 = 0 → (¬ (iv3 176 0) = (10 : Int32) → ∃ Q8 : zI → zR → zJ → Prop, Cv mX11_remembers d [.ref 174] iv3 rv4 lv5 Q8 ∧ ∀ (iv9 : zI) (rv10 : zR) (lv11 : zJ), Q8 iv9 rv10 lv11 → zTop rv10 ∧ (vp_in ((2 : Int32) + (iv9 176 0)) 35 ∧ (∀ iv15 : zI, iv15 = zu iv9 176 ((2 : Int32) + (iv9 176 0)).toNatClampNeg x1 → vp_in ((12 : Int32) + (iv15 176 0)) 35 ∧ (∀ iv17 : zI, iv17 = zu iv15 176 ((12 : Int32) + (iv15 176 0)).toNatClampNeg (0 : Int32) → ∀ iv18 : zI, iv18 = zu iv17 176 0 ((iv17 176 0) + (1 : Int32)) → ∃ Q19 : Int32 → zI → zR → zJ → Prop, Ci mX11_good d [.ref 174, .int (iv18 176 0)] iv18 rv10 lv11 Q19 ∧ ∀ (v24 : Int32) (iv20 : zI) (rv21 : zR) (lv22 : zJ), Q19 v24 iv20 rv21 lv22 → zTop rv21 ∧ (Q v24 iv20 rv21 lv22))))) ∧ ((iv3 176 0) = (10 : Int32) → ∃ Q25 : Int32 → zI → zR → zJ → Prop, Ci mX11_refused d [.ref 174, .int (3 : Int32)] iv3 rv4 lv5 Q25 ∧ ∀ (v30 : Int32) (iv26 : zI) (rv27 : zR) (lv28 : zJ), Q25 v30 iv26 rv27 lv28 → zTop rv27 ∧ (Q v30 iv26 rv27 lv28))) ∧ (v7 = 0 → ∃ Q31 : Int32 → zI → zR → zJ → Prop, Ci mX11_refused d [.ref 174, .int (2 : Int32)] iv3 rv4 lv5 Q31 ∧ ∀ (v36 : Int32) (iv32 : zI) (rv33 : zR) (lv34 : zJ), Q31 v36 iv32 rv33 lv34 → zTop rv33 ∧ (Q v36 iv32 rv33 lv34)))) ∧ ((iv1 174 19) = 0 → ∃ Q37 : Int32 → zI → zR → zJ → Prop, Ci mX11_refused d [.ref 174, .int (1 : Int32)] iv1 rv lv Q37 ∧ ∀ (v42 : Int32) (iv38 : zI) (rv39 : zR) (lv40 : zJ), Q37 v42 iv38 rv39 lv40 → zTop rv39 ∧ (Q v42 iv38 rv39 lv40))) :
    Zi mX11_add (d + 1) 0 [some (.ref 174), some (.int x1)] [] iv rv lv Q := by
  unfold Zi
  refine Z_aload_n (a := 0) (q := 1) (by decide +kernel) rfl rfl ?_
  refine Z_iconst (a := 0) (v := 0) (q := 2) (by decide +kernel) (by decide +kernel) rfl ?_
  refine p11_0 (idx := 87) (q := 5) (by decide +kernel) fX11_87 rfl (by decide) rfl ?_
  replace h := h _ rfl
  refine Z_aload_n (a := 0) (q := 6) (by decide +kernel) rfl rfl ?_
  refine g11_19 (idx := 211) (q := 9) (by decide +kernel) fX11_211 rfl (by decide) rfl ?_
  refine Z_if_ne (t := 18) (off := 9) (q := 12) (by decide +kernel) (by decide) rfl (fun hc => ?_) (fun hc => ?_)
  · replace h := h.1 hc
    refine Z_iload_n (a := 1) (q := 19) (by decide +kernel) rfl rfl ?_
    refine Z_iconst (a := 1) (v := 1) (q := 20) (by decide +kernel) (by decide +kernel) rfl ?_
    refine Z_sipush (a := 9999) (v := 9999) (q := 23) (by decide +kernel) (by decide +kernel) rfl ?_
    obtain ⟨Q2, hm, h⟩ := h
    refine Z_callSi (M2 := mX11_in) (idx := 112) (d2 := d) (As := [.int _, .int _, .int _]) (q := 26) (by decide +kernel) kX11_in lX11_112 rfl rfl (by decide +kernel) (Nat.le_of_ble_eq_true rfl) (Nat.le_refl _) hm rfl (fun v7 iv3 rv4 lv5 hq => ?_)
    obtain ⟨hT6, h⟩ := h v7 iv3 rv4 lv5 hq
    refine Z_if_ne (t := 35) (off := 9) (q := 29) (by decide +kernel) (by decide) rfl (fun hc => ?_) (fun hc => ?_)
    · replace h := h.1 hc
      refine Z_aload_n (a := 0) (q := 36) (by decide +kernel) rfl rfl ?_
      refine g11_14 (idx := 17) (q := 39) (by decide +kernel) fX11_17 rfl (by decide) (t11_14 hT6) rfl ?_
      refine Z_iconst (a := 0) (v := 0) (q := 40) (by decide +kernel) (by decide +kernel) rfl ?_
      refine Z_iald (len := 35) (q := 41) (by decide +kernel) rfl (by decide) (by unfold vp_in; decide) rfl ?_
      refine Z_bipush (a := 10) (v := 10) (q := 43) (by decide +kernel) (by decide +kernel) rfl ?_
      refine Z_icmp_ne (t := 52) (off := 9) (q := 46) (by decide +kernel) (by decide) rfl (fun hc => ?_) (fun hc => ?_)
      · replace h := h.1 hc
        refine Z_aload_n (a := 0) (q := 53) (by decide +kernel) rfl rfl ?_
        obtain ⟨Q8, hm, h⟩ := h
        refine Z_callVv (M2 := mX11_remembers) (idx := 365) (d2 := d) (ci := 11) (As := []) (q := 56) (by decide +kernel) kX11_remembers lX11_365 rfl rfl (by decide) rfl rfl (by decide +kernel) (Nat.le_of_ble_eq_true rfl) (Nat.le_refl _) hm rfl (fun iv9 rv10 lv11 hq => ?_)
        obtain ⟨hT12, h⟩ := h iv9 rv10 lv11 hq
        refine Z_aload_n (a := 0) (q := 57) (by decide +kernel) rfl rfl ?_
        refine g11_14 (idx := 17) (q := 60) (by decide +kernel) fX11_17 rfl (by decide) (t11_14 hT12) rfl ?_
        refine Z_iconst (a := 2) (v := 2) (q := 61) (by decide +kernel) (by decide +kernel) rfl ?_
        refine Z_aload_n (a := 0) (q := 62) (by decide +kernel) rfl rfl ?_
        refine g11_14 (idx := 17) (q := 65) (by decide +kernel) fX11_17 rfl (by decide) (t11_14 hT12) rfl ?_
        refine Z_iconst (a := 0) (v := 0) (q := 66) (by decide +kernel) (by decide +kernel) rfl ?_
        refine Z_iald (len := 35) (q := 67) (by decide +kernel) rfl (by decide) (by unfold vp_in; decide) rfl ?_
        refine Z_iadd (q := 68) (by decide +kernel) rfl ?_
        refine Z_iload_n (a := 1) (q := 69) (by decide +kernel) rfl rfl ?_
        obtain ⟨hin14, h⟩ := h
        refine Z_iast (len := 35) (q := 70) (by decide +kernel) rfl (by decide) hin14 rfl ?_
        replace h := h _ rfl
        refine Z_aload_n (a := 0) (q := 71) (by decide +kernel) rfl rfl ?_
        refine g11_14 (idx := 17) (q := 74) (by decide +kernel) fX11_17 rfl (by decide) (t11_14 hT12) rfl ?_
        refine Z_bipush (a := 12) (v := 12) (q := 76) (by decide +kernel) (by decide +kernel) rfl ?_
        refine Z_aload_n (a := 0) (q := 77) (by decide +kernel) rfl rfl ?_
        refine g11_14 (idx := 17) (q := 80) (by decide +kernel) fX11_17 rfl (by decide) (t11_14 hT12) rfl ?_
        refine Z_iconst (a := 0) (v := 0) (q := 81) (by decide +kernel) (by decide +kernel) rfl ?_
        refine Z_iald (len := 35) (q := 82) (by decide +kernel) rfl (by decide) (by unfold vp_in; decide) rfl ?_
        refine Z_iadd (q := 83) (by decide +kernel) rfl ?_
        refine Z_iconst (a := 0) (v := 0) (q := 84) (by decide +kernel) (by decide +kernel) rfl ?_
        obtain ⟨hin16, h⟩ := h
        refine Z_iast (len := 35) (q := 85) (by decide +kernel) rfl (by decide) hin16 rfl ?_
        replace h := h _ rfl
        refine Z_aload_n (a := 0) (q := 86) (by decide +kernel) rfl rfl ?_
        refine g11_14 (idx := 17) (q := 89) (by decide +kernel) fX11_17 rfl (by decide) (t11_14 hT12) rfl ?_
        refine Z_iconst (a := 0) (v := 0) (q := 90) (by decide +kernel) (by decide +kernel) rfl ?_
        refine Z_dup2 (q := 91) (by decide +kernel) rfl rfl rfl ?_
        refine Z_iald (len := 35) (q := 92) (by decide +kernel) rfl (by decide) (by unfold vp_in; decide) rfl ?_
        refine Z_iconst (a := 1) (v := 1) (q := 93) (by decide +kernel) (by decide +kernel) rfl ?_
        refine Z_iadd (q := 94) (by decide +kernel) rfl ?_
        refine Z_iast (len := 35) (q := 95) (by decide +kernel) rfl (by decide) (by unfold vp_in; decide) rfl ?_
        replace h := h _ rfl
        refine Z_aload_n (a := 0) (q := 96) (by decide +kernel) rfl rfl ?_
        refine Z_aload_n (a := 0) (q := 97) (by decide +kernel) rfl rfl ?_
        refine g11_14 (idx := 17) (q := 100) (by decide +kernel) fX11_17 rfl (by decide) (t11_14 hT12) rfl ?_
        refine Z_iconst (a := 0) (v := 0) (q := 101) (by decide +kernel) (by decide +kernel) rfl ?_
        refine Z_iald (len := 35) (q := 102) (by decide +kernel) rfl (by decide) (by unfold vp_in; decide) rfl ?_
        obtain ⟨Q19, hm, h⟩ := h
        refine Z_callVi (M2 := mX11_good) (idx := 214) (d2 := d) (ci := 11) (As := [.int _]) (q := 105) (by decide +kernel) kX11_good lX11_214 rfl rfl (by decide) rfl rfl (by decide +kernel) (Nat.le_of_ble_eq_true rfl) (Nat.le_refl _) hm rfl (fun v24 iv20 rv21 lv22 hq => ?_)
        obtain ⟨hT23, h⟩ := h v24 iv20 rv21 lv22 hq
        exact Z_iret (ty := .int) (by decide +kernel) rfl rfl rfl ⟨_, rfl, h⟩
      · replace h := h.2 hc
        refine Z_aload_n (a := 0) (q := 47) (by decide +kernel) rfl rfl ?_
        refine Z_iconst (a := 3) (v := 3) (q := 48) (by decide +kernel) (by decide +kernel) rfl ?_
        obtain ⟨Q25, hm, h⟩ := h
        refine Z_callVi (M2 := mX11_refused) (idx := 201) (d2 := d) (ci := 11) (As := [.int _]) (q := 51) (by decide +kernel) kX11_refused lX11_201 rfl rfl (by decide) rfl rfl (by decide +kernel) (Nat.le_of_ble_eq_true rfl) (Nat.le_refl _) hm rfl (fun v30 iv26 rv27 lv28 hq => ?_)
        obtain ⟨hT29, h⟩ := h v30 iv26 rv27 lv28 hq
        exact Z_iret (ty := .int) (by decide +kernel) rfl rfl rfl ⟨_, rfl, h⟩
    · replace h := h.2 hc
      refine Z_aload_n (a := 0) (q := 30) (by decide +kernel) rfl rfl ?_
      refine Z_iconst (a := 2) (v := 2) (q := 31) (by decide +kernel) (by decide +kernel) rfl ?_
      obtain ⟨Q31, hm, h⟩ := h
      refine Z_callVi (M2 := mX11_refused) (idx := 201) (d2 := d) (ci := 11) (As := [.int _]) (q := 34) (by decide +kernel) kX11_refused lX11_201 rfl rfl (by decide) rfl rfl (by decide +kernel) (Nat.le_of_ble_eq_true rfl) (Nat.le_refl _) hm rfl (fun v36 iv32 rv33 lv34 hq => ?_)
      obtain ⟨hT35, h⟩ := h v36 iv32 rv33 lv34 hq
      exact Z_iret (ty := .int) (by decide +kernel) rfl rfl rfl ⟨_, rfl, h⟩
  · replace h := h.2 hc
    refine Z_aload_n (a := 0) (q := 13) (by decide +kernel) rfl rfl ?_
    refine Z_iconst (a := 1) (v := 1) (q := 14) (by decide +kernel) (by decide +kernel) rfl ?_
    obtain ⟨Q37, hm, h⟩ := h
    refine Z_callVi (M2 := mX11_refused) (idx := 201) (d2 := d) (ci := 11) (As := [.int _]) (q := 17) (by decide +kernel) kX11_refused lX11_201 rfl rfl (by decide) rfl rfl (by decide +kernel) (Nat.le_of_ble_eq_true rfl) (Nat.le_refl _) hm rfl (fun v42 iv38 rv39 lv40 hq => ?_)
    obtain ⟨hT41, h⟩ := h v42 iv38 rv39 lv40 hq
    exact Z_iret (ty := .int) (by decide +kernel) rfl rfl rfl ⟨_, rfl, h⟩
theorem eX11_parts {d : Nat} (x1 : Int32) {iv : zI} {rv : zR} {lv : zJ} {Q : zI → zR → zJ → Prop} (h : Zv mX11_parts d 0 [some (.ref 174), some (.int x1), none] [] iv rv lv Q) : Cv mX11_parts d [.ref 174, .int x1] iv rv lv Q := Cv.of (by decide +kernel) (by simp [Value.category]) (Nat.le_of_ble_eq_true rfl) rfl h
set_option maxRecDepth 4000 in
theorem bX11_parts_0 {d : Nat} (x1 : Int32) {iv : zI} {rv : zR} {lv : zJ} {Q : zI → zR → zJ → Prop} (hT : zTop rv) 
    (h : ∀ iv1 : zI, iv1 = zu iv 176 22 ((iv 176 22) - (1 : Int32)) → Zv mX11_parts d 15 [some (.ref 174), some (.int x1), some (.int ((2 : Int32) * x1))] [] iv1 rv lv Q) :
    Zv mX11_parts d 0 [some (.ref 174), some (.int x1), none] [] iv rv lv Q := by
  unfold Zv
  refine Z_aload_n (a := 0) (q := 1) (by decide +kernel) rfl rfl ?_
  refine g11_14 (idx := 17) (q := 4) (by decide +kernel) fX11_17 rfl (by decide) (t11_14 hT) rfl ?_
  refine Z_bipush (a := 22) (v := 22) (q := 6) (by decide +kernel) (by decide +kernel) rfl ?_
  refine Z_dup2 (q := 7) (by decide +kernel) rfl rfl rfl ?_
  refine Z_iald (len := 35) (q := 8) (by decide +kernel) rfl (by decide) (by unfold vp_in; decide) rfl ?_
  refine Z_iconst (a := 1) (v := 1) (q := 9) (by decide +kernel) (by decide +kernel) rfl ?_
  refine Z_isub (q := 10) (by decide +kernel) rfl ?_
  refine Z_iast (len := 35) (q := 11) (by decide +kernel) rfl (by decide) (by unfold vp_in; decide) rfl ?_
  replace h := h _ rfl
  refine Z_iconst (a := 2) (v := 2) (q := 12) (by decide +kernel) (by decide +kernel) rfl ?_
  refine Z_iload_n (a := 1) (q := 13) (by decide +kernel) rfl rfl ?_
  refine Z_imul (q := 14) (by decide +kernel) rfl ?_
  refine Z_istore_n (a := 2) (loc2 := [_, _, _]) (q := 15) (by decide +kernel) (by decide +kernel) rfl rfl rfl ?_
  exact h
set_option maxRecDepth 4000 in
theorem bX11_parts_15 {d : Nat} (x1 : Int32) (x2 : Int32) {iv : zI} {rv : zR} {lv : zJ} {Q : zI → zR → zJ → Prop} (hT : zTop rv) 
    (h : (((2 : Int32) * (iv 176 22)) ≤ x2 → Q iv rv lv) ∧ (¬ ((2 : Int32) * (iv 176 22)) ≤ x2 → vp_in (((23 : Int32) + x2) + (2 : Int32)) 35 ∧ (vp_in ((23 : Int32) + x2) 35 ∧ (∀ iv3 : zI, iv3 = zu iv 176 ((23 : Int32) + x2).toNatClampNeg (iv 176 (((23 : Int32) + x2) + (2 : Int32)).toNatClampNeg) → Zv mX11_parts d 15 [some (.ref 174), some (.int x1), some (.int (x2 + 1))] [] iv3 rv lv Q)))) :
    Zv mX11_parts d 15 [some (.ref 174), some (.int x1), some (.int x2)] [] iv rv lv Q := by
  unfold Zv
  refine Z_iload_n (a := 2) (q := 16) (by decide +kernel) rfl rfl ?_
  refine Z_iconst (a := 2) (v := 2) (q := 17) (by decide +kernel) (by decide +kernel) rfl ?_
  refine Z_aload_n (a := 0) (q := 18) (by decide +kernel) rfl rfl ?_
  refine g11_14 (idx := 17) (q := 21) (by decide +kernel) fX11_17 rfl (by decide) (t11_14 hT) rfl ?_
  refine Z_bipush (a := 22) (v := 22) (q := 23) (by decide +kernel) (by decide +kernel) rfl ?_
  refine Z_iald (len := 35) (q := 24) (by decide +kernel) rfl (by decide) (by unfold vp_in; decide) rfl ?_
  refine Z_imul (q := 25) (by decide +kernel) rfl ?_
  refine Z_icmp_ge (t := 54) (off := 29) (q := 28) (by decide +kernel) (by decide) rfl (fun hc => ?_) (fun hc => ?_)
  · replace h := h.1 hc
    exact Z_vret (by decide +kernel) rfl rfl ⟨rfl, h⟩
  · replace h := h.2 hc
    refine Z_aload_n (a := 0) (q := 29) (by decide +kernel) rfl rfl ?_
    refine g11_14 (idx := 17) (q := 32) (by decide +kernel) fX11_17 rfl (by decide) (t11_14 hT) rfl ?_
    refine Z_bipush (a := 23) (v := 23) (q := 34) (by decide +kernel) (by decide +kernel) rfl ?_
    refine Z_iload_n (a := 2) (q := 35) (by decide +kernel) rfl rfl ?_
    refine Z_iadd (q := 36) (by decide +kernel) rfl ?_
    refine Z_aload_n (a := 0) (q := 37) (by decide +kernel) rfl rfl ?_
    refine g11_14 (idx := 17) (q := 40) (by decide +kernel) fX11_17 rfl (by decide) (t11_14 hT) rfl ?_
    refine Z_bipush (a := 23) (v := 23) (q := 42) (by decide +kernel) (by decide +kernel) rfl ?_
    refine Z_iload_n (a := 2) (q := 43) (by decide +kernel) rfl rfl ?_
    refine Z_iadd (q := 44) (by decide +kernel) rfl ?_
    refine Z_iconst (a := 2) (v := 2) (q := 45) (by decide +kernel) (by decide +kernel) rfl ?_
    refine Z_iadd (q := 46) (by decide +kernel) rfl ?_
    obtain ⟨hin1, h⟩ := h
    refine Z_iald (len := 35) (q := 47) (by decide +kernel) rfl (by decide) hin1 rfl ?_
    obtain ⟨hin2, h⟩ := h
    refine Z_iast (len := 35) (q := 48) (by decide +kernel) rfl (by decide) hin2 rfl ?_
    replace h := h _ rfl
    refine Z_iinc (a := 2) (b := 1) (v := _ + 1) (loc2 := [_, _, _]) (q := 51) (by decide +kernel) rfl (zinc _) (by decide +kernel) rfl rfl rfl ?_
    refine Z_goto (q := 15) (off := -36) (by decide +kernel) (by decide) ?_
    exact h
theorem eX11_drop {d : Nat} (x1 : Int32) {iv : zI} {rv : zR} {lv : zJ} {Q : Int32 → zI → zR → zJ → Prop} (h : Zi mX11_drop (d + 1) 0 [some (.ref 174), some (.int x1), none, none] [] iv rv lv Q) : Ci mX11_drop (d + 1) [.ref 174, .int x1] iv rv lv Q := Ci.of (by decide +kernel) (by simp [Value.category]) (Nat.le_of_ble_eq_true rfl) rfl h
set_option maxRecDepth 4000 in
theorem bX11_drop_0 {d : Nat} (x1 : Int32) {iv : zI} {rv : zR} {lv : zJ} {Q : Int32 → zI → zR → zJ → Prop} (hT : zTop rv) 
    (h : ∀ iv1 : zI, iv1 = zu iv 174 0 (0 : Int32) → ∃ Q2 : Int32 → zI → zR → zJ → Prop, Ci mX11_isNumber d [.ref 174, .int x1] iv1 rv lv Q2 ∧ ∀ (v7 : Int32) (iv3 : zI) (rv4 : zR) (lv5 : zJ), Q2 v7 iv3 rv4 lv5 → zTop rv4 ∧ ((¬ v7 = 0 → (¬ (iv3 176 0) = (1 : Int32) → ∃ Q8 : zI → zR → zJ → Prop, Cv mX11_remembers d [.ref 174] iv3 rv4 lv5 Q8 ∧ ∀ (iv9 : zI) (rv10 : zR) (lv11 : zJ), Q8 iv9 rv10 lv11 → zTop rv10 ∧ (∃ Q14 : Int32 → zI → zR → zJ → Prop, Ci mX11_value d [.ref 174, .int x1] iv9 rv10 lv11 Q14 ∧ ∀ (v19 : Int32) (iv15 : zI) (rv16 : zR) (lv17 : zJ), Q14 v19 iv15 rv16 lv17 → zTop rv16 ∧ (∀ iv20 : zI, iv20 = zu iv15 176 0 ((iv15 176 0) - (1 : Int32)) → Zi mX11_drop (d + 1) 57 [some (.ref 174), some (.int x1), some (.int v19), some (.int x1)] [] iv20 rv16 lv17 Q))) ∧ ((iv3 176 0) = (1 : Int32) → ∃ Q21 : Int32 → zI → zR → zJ → Prop, Ci mX11_refused d [.ref 174, .int (5 : Int32)] iv3 rv4 lv5 Q21 ∧ ∀ (v26 : Int32) (iv22 : zI) (rv23 : zR) (lv24 : zJ), Q21 v26 iv22 rv23 lv24 → zTop rv23 ∧ (Q v26 iv22 rv23 lv24))) ∧ (v7 = 0 → ∃ Q27 : Int32 → zI → zR → zJ → Prop, Ci mX11_refused d [.ref 174, .int (1 : Int32)] iv3 rv4 lv5 Q27 ∧ ∀ (v32 : Int32) (iv28 : zI) (rv29 : zR) (lv30 : zJ), Q27 v32 iv28 rv29 lv30 → zTop rv29 ∧ (Q v32 iv28 rv29 lv30)))) :
    Zi mX11_drop (d + 1) 0 [some (.ref 174), some (.int x1), none, none] [] iv rv lv Q := by
  unfold Zi
  refine Z_aload_n (a := 0) (q := 1) (by decide +kernel) rfl rfl ?_
  refine Z_iconst (a := 0) (v := 0) (q := 2) (by decide +kernel) (by decide +kernel) rfl ?_
  refine p11_0 (idx := 87) (q := 5) (by decide +kernel) fX11_87 rfl (by decide) rfl ?_
  replace h := h _ rfl
  refine Z_aload_n (a := 0) (q := 6) (by decide +kernel) rfl rfl ?_
  refine Z_iload_n (a := 1) (q := 7) (by decide +kernel) rfl rfl ?_
  obtain ⟨Q2, hm, h⟩ := h
  refine Z_callVi (M2 := mX11_isNumber) (idx := 229) (d2 := d) (ci := 11) (As := [.int _]) (q := 10) (by decide +kernel) kX11_isNumber lX11_229 rfl rfl (by decide) rfl rfl (by decide +kernel) (Nat.le_of_ble_eq_true rfl) (Nat.le_refl _) hm rfl (fun v7 iv3 rv4 lv5 hq => ?_)
  obtain ⟨hT6, h⟩ := h v7 iv3 rv4 lv5 hq
  refine Z_if_ne (t := 19) (off := 9) (q := 13) (by decide +kernel) (by decide) rfl (fun hc => ?_) (fun hc => ?_)
  · replace h := h.1 hc
    refine Z_aload_n (a := 0) (q := 20) (by decide +kernel) rfl rfl ?_
    refine g11_14 (idx := 17) (q := 23) (by decide +kernel) fX11_17 rfl (by decide) (t11_14 hT6) rfl ?_
    refine Z_iconst (a := 0) (v := 0) (q := 24) (by decide +kernel) (by decide +kernel) rfl ?_
    refine Z_iald (len := 35) (q := 25) (by decide +kernel) rfl (by decide) (by unfold vp_in; decide) rfl ?_
    refine Z_iconst (a := 1) (v := 1) (q := 26) (by decide +kernel) (by decide +kernel) rfl ?_
    refine Z_icmp_ne (t := 35) (off := 9) (q := 29) (by decide +kernel) (by decide) rfl (fun hc => ?_) (fun hc => ?_)
    · replace h := h.1 hc
      refine Z_aload_n (a := 0) (q := 36) (by decide +kernel) rfl rfl ?_
      obtain ⟨Q8, hm, h⟩ := h
      refine Z_callVv (M2 := mX11_remembers) (idx := 365) (d2 := d) (ci := 11) (As := []) (q := 39) (by decide +kernel) kX11_remembers lX11_365 rfl rfl (by decide) rfl rfl (by decide +kernel) (Nat.le_of_ble_eq_true rfl) (Nat.le_refl _) hm rfl (fun iv9 rv10 lv11 hq => ?_)
      obtain ⟨hT12, h⟩ := h iv9 rv10 lv11 hq
      refine Z_aload_n (a := 0) (q := 40) (by decide +kernel) rfl rfl ?_
      refine Z_iload_n (a := 1) (q := 41) (by decide +kernel) rfl rfl ?_
      obtain ⟨Q14, hm, h⟩ := h
      refine Z_callVi (M2 := mX11_value) (idx := 217) (d2 := d) (ci := 11) (As := [.int _]) (q := 44) (by decide +kernel) kX11_value lX11_217 rfl rfl (by decide) rfl rfl (by decide +kernel) (Nat.le_of_ble_eq_true rfl) (Nat.le_refl _) hm rfl (fun v19 iv15 rv16 lv17 hq => ?_)
      obtain ⟨hT18, h⟩ := h v19 iv15 rv16 lv17 hq
      refine Z_istore_n (a := 2) (loc2 := [_, _, _, _]) (q := 45) (by decide +kernel) (by decide +kernel) rfl rfl rfl ?_
      refine Z_aload_n (a := 0) (q := 46) (by decide +kernel) rfl rfl ?_
      refine g11_14 (idx := 17) (q := 49) (by decide +kernel) fX11_17 rfl (by decide) (t11_14 hT18) rfl ?_
      refine Z_iconst (a := 0) (v := 0) (q := 50) (by decide +kernel) (by decide +kernel) rfl ?_
      refine Z_dup2 (q := 51) (by decide +kernel) rfl rfl rfl ?_
      refine Z_iald (len := 35) (q := 52) (by decide +kernel) rfl (by decide) (by unfold vp_in; decide) rfl ?_
      refine Z_iconst (a := 1) (v := 1) (q := 53) (by decide +kernel) (by decide +kernel) rfl ?_
      refine Z_isub (q := 54) (by decide +kernel) rfl ?_
      refine Z_iast (len := 35) (q := 55) (by decide +kernel) rfl (by decide) (by unfold vp_in; decide) rfl ?_
      replace h := h _ rfl
      refine Z_iload_n (a := 1) (q := 56) (by decide +kernel) rfl rfl ?_
      refine Z_istore_n (a := 3) (loc2 := [_, _, _, _]) (q := 57) (by decide +kernel) (by decide +kernel) rfl rfl rfl ?_
      exact h
    · replace h := h.2 hc
      refine Z_aload_n (a := 0) (q := 30) (by decide +kernel) rfl rfl ?_
      refine Z_iconst (a := 5) (v := 5) (q := 31) (by decide +kernel) (by decide +kernel) rfl ?_
      obtain ⟨Q21, hm, h⟩ := h
      refine Z_callVi (M2 := mX11_refused) (idx := 201) (d2 := d) (ci := 11) (As := [.int _]) (q := 34) (by decide +kernel) kX11_refused lX11_201 rfl rfl (by decide) rfl rfl (by decide +kernel) (Nat.le_of_ble_eq_true rfl) (Nat.le_refl _) hm rfl (fun v26 iv22 rv23 lv24 hq => ?_)
      obtain ⟨hT25, h⟩ := h v26 iv22 rv23 lv24 hq
      exact Z_iret (ty := .int) (by decide +kernel) rfl rfl rfl ⟨_, rfl, h⟩
  · replace h := h.2 hc
    refine Z_aload_n (a := 0) (q := 14) (by decide +kernel) rfl rfl ?_
    refine Z_iconst (a := 1) (v := 1) (q := 15) (by decide +kernel) (by decide +kernel) rfl ?_
    obtain ⟨Q27, hm, h⟩ := h
    refine Z_callVi (M2 := mX11_refused) (idx := 201) (d2 := d) (ci := 11) (As := [.int _]) (q := 18) (by decide +kernel) kX11_refused lX11_201 rfl rfl (by decide) rfl rfl (by decide +kernel) (Nat.le_of_ble_eq_true rfl) (Nat.le_refl _) hm rfl (fun v32 iv28 rv29 lv30 hq => ?_)
    obtain ⟨hT31, h⟩ := h v32 iv28 rv29 lv30 hq
    exact Z_iret (ty := .int) (by decide +kernel) rfl rfl rfl ⟨_, rfl, h⟩
set_option maxRecDepth 4000 in
theorem bX11_drop_57 {d : Nat} (x1 : Int32) (x2 : Int32) (x3 : Int32) {iv : zI} {rv : zR} {lv : zJ} {Q : Int32 → zI → zR → zJ → Prop} (hT : zTop rv) 
    (h : ((iv 176 0) ≤ x3 → Zi mX11_drop (d + 1) 121 [some (.ref 174), some (.int x1), some (.int x2), some (.int ((iv 176 22) - (1 : Int32)))] [] iv rv lv Q) ∧ (¬ (iv 176 0) ≤ x3 → vp_in (((2 : Int32) + x3) + (1 : Int32)) 35 ∧ (vp_in ((2 : Int32) + x3) 35 ∧ (∀ iv3 : zI, iv3 = zu iv 176 ((2 : Int32) + x3).toNatClampNeg (iv 176 (((2 : Int32) + x3) + (1 : Int32)).toNatClampNeg) → vp_in (((12 : Int32) + x3) + (1 : Int32)) 35 ∧ (vp_in ((12 : Int32) + x3) 35 ∧ (∀ iv6 : zI, iv6 = zu iv3 176 ((12 : Int32) + x3).toNatClampNeg (iv3 176 (((12 : Int32) + x3) + (1 : Int32)).toNatClampNeg) → Zi mX11_drop (d + 1) 57 [some (.ref 174), some (.int x1), some (.int x2), some (.int (x3 + 1))] [] iv6 rv lv Q)))))) :
    Zi mX11_drop (d + 1) 57 [some (.ref 174), some (.int x1), some (.int x2), some (.int x3)] [] iv rv lv Q := by
  unfold Zi
  refine Z_iload_n (a := 3) (q := 58) (by decide +kernel) rfl rfl ?_
  refine Z_aload_n (a := 0) (q := 59) (by decide +kernel) rfl rfl ?_
  refine g11_14 (idx := 17) (q := 62) (by decide +kernel) fX11_17 rfl (by decide) (t11_14 hT) rfl ?_
  refine Z_iconst (a := 0) (v := 0) (q := 63) (by decide +kernel) (by decide +kernel) rfl ?_
  refine Z_iald (len := 35) (q := 64) (by decide +kernel) rfl (by decide) (by unfold vp_in; decide) rfl ?_
  refine Z_icmp_ge (t := 111) (off := 47) (q := 67) (by decide +kernel) (by decide) rfl (fun hc => ?_) (fun hc => ?_)
  · replace h := h.1 hc
    refine Z_aload_n (a := 0) (q := 112) (by decide +kernel) rfl rfl ?_
    refine g11_14 (idx := 17) (q := 115) (by decide +kernel) fX11_17 rfl (by decide) (t11_14 hT) rfl ?_
    refine Z_bipush (a := 22) (v := 22) (q := 117) (by decide +kernel) (by decide +kernel) rfl ?_
    refine Z_iald (len := 35) (q := 118) (by decide +kernel) rfl (by decide) (by unfold vp_in; decide) rfl ?_
    refine Z_iconst (a := 1) (v := 1) (q := 119) (by decide +kernel) (by decide +kernel) rfl ?_
    refine Z_isub (q := 120) (by decide +kernel) rfl ?_
    refine Z_istore_n (a := 3) (loc2 := [_, _, _, _]) (q := 121) (by decide +kernel) (by decide +kernel) rfl rfl rfl ?_
    exact h
  · replace h := h.2 hc
    refine Z_aload_n (a := 0) (q := 68) (by decide +kernel) rfl rfl ?_
    refine g11_14 (idx := 17) (q := 71) (by decide +kernel) fX11_17 rfl (by decide) (t11_14 hT) rfl ?_
    refine Z_iconst (a := 2) (v := 2) (q := 72) (by decide +kernel) (by decide +kernel) rfl ?_
    refine Z_iload_n (a := 3) (q := 73) (by decide +kernel) rfl rfl ?_
    refine Z_iadd (q := 74) (by decide +kernel) rfl ?_
    refine Z_aload_n (a := 0) (q := 75) (by decide +kernel) rfl rfl ?_
    refine g11_14 (idx := 17) (q := 78) (by decide +kernel) fX11_17 rfl (by decide) (t11_14 hT) rfl ?_
    refine Z_iconst (a := 2) (v := 2) (q := 79) (by decide +kernel) (by decide +kernel) rfl ?_
    refine Z_iload_n (a := 3) (q := 80) (by decide +kernel) rfl rfl ?_
    refine Z_iadd (q := 81) (by decide +kernel) rfl ?_
    refine Z_iconst (a := 1) (v := 1) (q := 82) (by decide +kernel) (by decide +kernel) rfl ?_
    refine Z_iadd (q := 83) (by decide +kernel) rfl ?_
    obtain ⟨hin1, h⟩ := h
    refine Z_iald (len := 35) (q := 84) (by decide +kernel) rfl (by decide) hin1 rfl ?_
    obtain ⟨hin2, h⟩ := h
    refine Z_iast (len := 35) (q := 85) (by decide +kernel) rfl (by decide) hin2 rfl ?_
    replace h := h _ rfl
    refine Z_aload_n (a := 0) (q := 86) (by decide +kernel) rfl rfl ?_
    refine g11_14 (idx := 17) (q := 89) (by decide +kernel) fX11_17 rfl (by decide) (t11_14 hT) rfl ?_
    refine Z_bipush (a := 12) (v := 12) (q := 91) (by decide +kernel) (by decide +kernel) rfl ?_
    refine Z_iload_n (a := 3) (q := 92) (by decide +kernel) rfl rfl ?_
    refine Z_iadd (q := 93) (by decide +kernel) rfl ?_
    refine Z_aload_n (a := 0) (q := 94) (by decide +kernel) rfl rfl ?_
    refine g11_14 (idx := 17) (q := 97) (by decide +kernel) fX11_17 rfl (by decide) (t11_14 hT) rfl ?_
    refine Z_bipush (a := 12) (v := 12) (q := 99) (by decide +kernel) (by decide +kernel) rfl ?_
    refine Z_iload_n (a := 3) (q := 100) (by decide +kernel) rfl rfl ?_
    refine Z_iadd (q := 101) (by decide +kernel) rfl ?_
    refine Z_iconst (a := 1) (v := 1) (q := 102) (by decide +kernel) (by decide +kernel) rfl ?_
    refine Z_iadd (q := 103) (by decide +kernel) rfl ?_
    obtain ⟨hin4, h⟩ := h
    refine Z_iald (len := 35) (q := 104) (by decide +kernel) rfl (by decide) hin4 rfl ?_
    obtain ⟨hin5, h⟩ := h
    refine Z_iast (len := 35) (q := 105) (by decide +kernel) rfl (by decide) hin5 rfl ?_
    replace h := h _ rfl
    refine Z_iinc (a := 3) (b := 1) (v := _ + 1) (loc2 := [_, _, _, _]) (q := 108) (by decide +kernel) rfl (zinc _) (by decide +kernel) rfl rfl rfl ?_
    refine Z_goto (q := 57) (off := -51) (by decide +kernel) (by decide) ?_
    exact h
set_option maxRecDepth 4000 in
theorem bX11_drop_121 {d : Nat} (x1 : Int32) (x2 : Int32) (x3 : Int32) {iv : zI} {rv : zR} {lv : zJ} {Q : Int32 → zI → zR → zJ → Prop} (hT : zTop rv) 
    (h : (x3 < 0 → Zi mX11_drop (d + 1) 170 [some (.ref 174), some (.int x1), some (.int x2), some (.int (0 : Int32))] [] iv rv lv Q) ∧ (¬ x3 < 0 → vp_in ((23 : Int32) + ((2 : Int32) * x3)) 35 ∧ (((iv 176 ((23 : Int32) + ((2 : Int32) * x3)).toNatClampNeg) = x1 → ∃ Q2 : zI → zR → zJ → Prop, Cv mX11_parts d [.ref 174, .int x3] iv rv lv Q2 ∧ ∀ (iv3 : zI) (rv4 : zR) (lv5 : zJ), Q2 iv3 rv4 lv5 → zTop rv4 ∧ (Zi mX11_drop (d + 1) 121 [some (.ref 174), some (.int x1), some (.int x2), some (.int (x3 + -1))] [] iv3 rv4 lv5 Q)) ∧ (¬ (iv 176 ((23 : Int32) + ((2 : Int32) * x3)).toNatClampNeg) = x1 → vp_in (((23 : Int32) + ((2 : Int32) * x3)) + (1 : Int32)) 35 ∧ ((¬ (iv 176 (((23 : Int32) + ((2 : Int32) * x3)) + (1 : Int32)).toNatClampNeg) = x1 → Zi mX11_drop (d + 1) 121 [some (.ref 174), some (.int x1), some (.int x2), some (.int (x3 + -1))] [] iv rv lv Q) ∧ ((iv 176 (((23 : Int32) + ((2 : Int32) * x3)) + (1 : Int32)).toNatClampNeg) = x1 → ∃ Q9 : zI → zR → zJ → Prop, Cv mX11_parts d [.ref 174, .int x3] iv rv lv Q9 ∧ ∀ (iv10 : zI) (rv11 : zR) (lv12 : zJ), Q9 iv10 rv11 lv12 → zTop rv11 ∧ (Zi mX11_drop (d + 1) 121 [some (.ref 174), some (.int x1), some (.int x2), some (.int (x3 + -1))] [] iv10 rv11 lv12 Q))))))) :
    Zi mX11_drop (d + 1) 121 [some (.ref 174), some (.int x1), some (.int x2), some (.int x3)] [] iv rv lv Q := by
  unfold Zi
  refine Z_iload_n (a := 3) (q := 122) (by decide +kernel) rfl rfl ?_
  refine Z_if_lt (t := 168) (off := 46) (q := 125) (by decide +kernel) (by decide) rfl (fun hc => ?_) (fun hc => ?_)
  · replace h := h.1 hc
    refine Z_iconst (a := 0) (v := 0) (q := 169) (by decide +kernel) (by decide +kernel) rfl ?_
    refine Z_istore_n (a := 3) (loc2 := [_, _, _, _]) (q := 170) (by decide +kernel) (by decide +kernel) rfl rfl rfl ?_
    exact h
  · replace h := h.2 hc
    refine Z_aload_n (a := 0) (q := 126) (by decide +kernel) rfl rfl ?_
    refine g11_14 (idx := 17) (q := 129) (by decide +kernel) fX11_17 rfl (by decide) (t11_14 hT) rfl ?_
    refine Z_bipush (a := 23) (v := 23) (q := 131) (by decide +kernel) (by decide +kernel) rfl ?_
    refine Z_iconst (a := 2) (v := 2) (q := 132) (by decide +kernel) (by decide +kernel) rfl ?_
    refine Z_iload_n (a := 3) (q := 133) (by decide +kernel) rfl rfl ?_
    refine Z_imul (q := 134) (by decide +kernel) rfl ?_
    refine Z_iadd (q := 135) (by decide +kernel) rfl ?_
    obtain ⟨hin1, h⟩ := h
    refine Z_iald (len := 35) (q := 136) (by decide +kernel) rfl (by decide) hin1 rfl ?_
    refine Z_iload_n (a := 1) (q := 137) (by decide +kernel) rfl rfl ?_
    refine Z_icmp_eq (t := 157) (off := 20) (q := 140) (by decide +kernel) (by decide) rfl (fun hc => ?_) (fun hc => ?_)
    · replace h := h.1 hc
      refine Z_aload_n (a := 0) (q := 158) (by decide +kernel) rfl rfl ?_
      refine Z_iload_n (a := 3) (q := 159) (by decide +kernel) rfl rfl ?_
      obtain ⟨Q2, hm, h⟩ := h
      refine Z_callVv (M2 := mX11_parts) (idx := 368) (d2 := d) (ci := 11) (As := [.int _]) (q := 162) (by decide +kernel) kX11_parts lX11_368 rfl rfl (by decide) rfl rfl (by decide +kernel) (Nat.le_of_ble_eq_true rfl) (Nat.le_refl _) hm rfl (fun iv3 rv4 lv5 hq => ?_)
      obtain ⟨hT6, h⟩ := h iv3 rv4 lv5 hq
      refine Z_iinc (a := 3) (b := -1) (v := _ + -1) (loc2 := [_, _, _, _]) (q := 165) (by decide +kernel) rfl (zdec _) (by decide +kernel) rfl rfl rfl ?_
      refine Z_goto (q := 121) (off := -44) (by decide +kernel) (by decide) ?_
      exact h
    · replace h := h.2 hc
      refine Z_aload_n (a := 0) (q := 141) (by decide +kernel) rfl rfl ?_
      refine g11_14 (idx := 17) (q := 144) (by decide +kernel) fX11_17 rfl (by decide) (t11_14 hT) rfl ?_
      refine Z_bipush (a := 23) (v := 23) (q := 146) (by decide +kernel) (by decide +kernel) rfl ?_
      refine Z_iconst (a := 2) (v := 2) (q := 147) (by decide +kernel) (by decide +kernel) rfl ?_
      refine Z_iload_n (a := 3) (q := 148) (by decide +kernel) rfl rfl ?_
      refine Z_imul (q := 149) (by decide +kernel) rfl ?_
      refine Z_iadd (q := 150) (by decide +kernel) rfl ?_
      refine Z_iconst (a := 1) (v := 1) (q := 151) (by decide +kernel) (by decide +kernel) rfl ?_
      refine Z_iadd (q := 152) (by decide +kernel) rfl ?_
      obtain ⟨hin8, h⟩ := h
      refine Z_iald (len := 35) (q := 153) (by decide +kernel) rfl (by decide) hin8 rfl ?_
      refine Z_iload_n (a := 1) (q := 154) (by decide +kernel) rfl rfl ?_
      refine Z_icmp_ne (t := 162) (off := 8) (q := 157) (by decide +kernel) (by decide) rfl (fun hc => ?_) (fun hc => ?_)
      · replace h := h.1 hc
        refine Z_iinc (a := 3) (b := -1) (v := _ + -1) (loc2 := [_, _, _, _]) (q := 165) (by decide +kernel) rfl (zdec _) (by decide +kernel) rfl rfl rfl ?_
        refine Z_goto (q := 121) (off := -44) (by decide +kernel) (by decide) ?_
        exact h
      · replace h := h.2 hc
        refine Z_aload_n (a := 0) (q := 158) (by decide +kernel) rfl rfl ?_
        refine Z_iload_n (a := 3) (q := 159) (by decide +kernel) rfl rfl ?_
        obtain ⟨Q9, hm, h⟩ := h
        refine Z_callVv (M2 := mX11_parts) (idx := 368) (d2 := d) (ci := 11) (As := [.int _]) (q := 162) (by decide +kernel) kX11_parts lX11_368 rfl rfl (by decide) rfl rfl (by decide +kernel) (Nat.le_of_ble_eq_true rfl) (Nat.le_refl _) hm rfl (fun iv10 rv11 lv12 hq => ?_)
        obtain ⟨hT13, h⟩ := h iv10 rv11 lv12 hq
        refine Z_iinc (a := 3) (b := -1) (v := _ + -1) (loc2 := [_, _, _, _]) (q := 165) (by decide +kernel) rfl (zdec _) (by decide +kernel) rfl rfl rfl ?_
        refine Z_goto (q := 121) (off := -44) (by decide +kernel) (by decide) ?_
        exact h
set_option maxRecDepth 4000 in
theorem bX11_drop_170 {d : Nat} (x1 : Int32) (x2 : Int32) (x3 : Int32) {iv : zI} {rv : zR} {lv : zJ} {Q : Int32 → zI → zR → zJ → Prop} (hT : zTop rv) 
    (h : (((2 : Int32) * (iv 176 22)) ≤ x3 → ∃ Q1 : Int32 → zI → zR → zJ → Prop, Ci mX11_good d [.ref 174, .int x2] iv rv lv Q1 ∧ ∀ (v6 : Int32) (iv2 : zI) (rv3 : zR) (lv4 : zJ), Q1 v6 iv2 rv3 lv4 → zTop rv3 ∧ (Q v6 iv2 rv3 lv4)) ∧ (¬ ((2 : Int32) * (iv 176 22)) ≤ x3 → vp_in ((23 : Int32) + x3) 35 ∧ (((iv 176 ((23 : Int32) + x3).toNatClampNeg) ≤ x1 → ∀ iv8 : zI, iv8 = zu iv 176 ((23 : Int32) + x3).toNatClampNeg ((iv 176 ((23 : Int32) + x3).toNatClampNeg) - (0 : Int32)) → Zi mX11_drop (d + 1) 170 [some (.ref 174), some (.int x1), some (.int x2), some (.int (x3 + 1))] [] iv8 rv lv Q) ∧ (¬ (iv 176 ((23 : Int32) + x3).toNatClampNeg) ≤ x1 → ∀ iv9 : zI, iv9 = zu iv 176 ((23 : Int32) + x3).toNatClampNeg ((iv 176 ((23 : Int32) + x3).toNatClampNeg) - (1 : Int32)) → Zi mX11_drop (d + 1) 170 [some (.ref 174), some (.int x1), some (.int x2), some (.int (x3 + 1))] [] iv9 rv lv Q)))) :
    Zi mX11_drop (d + 1) 170 [some (.ref 174), some (.int x1), some (.int x2), some (.int x3)] [] iv rv lv Q := by
  unfold Zi
  refine Z_iload_n (a := 3) (q := 171) (by decide +kernel) rfl rfl ?_
  refine Z_iconst (a := 2) (v := 2) (q := 172) (by decide +kernel) (by decide +kernel) rfl ?_
  refine Z_aload_n (a := 0) (q := 173) (by decide +kernel) rfl rfl ?_
  refine g11_14 (idx := 17) (q := 176) (by decide +kernel) fX11_17 rfl (by decide) (t11_14 hT) rfl ?_
  refine Z_bipush (a := 22) (v := 22) (q := 178) (by decide +kernel) (by decide +kernel) rfl ?_
  refine Z_iald (len := 35) (q := 179) (by decide +kernel) rfl (by decide) (by unfold vp_in; decide) rfl ?_
  refine Z_imul (q := 180) (by decide +kernel) rfl ?_
  refine Z_icmp_ge (t := 219) (off := 39) (q := 183) (by decide +kernel) (by decide) rfl (fun hc => ?_) (fun hc => ?_)
  · replace h := h.1 hc
    refine Z_aload_n (a := 0) (q := 220) (by decide +kernel) rfl rfl ?_
    refine Z_iload_n (a := 2) (q := 221) (by decide +kernel) rfl rfl ?_
    obtain ⟨Q1, hm, h⟩ := h
    refine Z_callVi (M2 := mX11_good) (idx := 214) (d2 := d) (ci := 11) (As := [.int _]) (q := 224) (by decide +kernel) kX11_good lX11_214 rfl rfl (by decide) rfl rfl (by decide +kernel) (Nat.le_of_ble_eq_true rfl) (Nat.le_refl _) hm rfl (fun v6 iv2 rv3 lv4 hq => ?_)
    obtain ⟨hT5, h⟩ := h v6 iv2 rv3 lv4 hq
    exact Z_iret (ty := .int) (by decide +kernel) rfl rfl rfl ⟨_, rfl, h⟩
  · replace h := h.2 hc
    refine Z_aload_n (a := 0) (q := 184) (by decide +kernel) rfl rfl ?_
    refine g11_14 (idx := 17) (q := 187) (by decide +kernel) fX11_17 rfl (by decide) (t11_14 hT) rfl ?_
    refine Z_bipush (a := 23) (v := 23) (q := 189) (by decide +kernel) (by decide +kernel) rfl ?_
    refine Z_iload_n (a := 3) (q := 190) (by decide +kernel) rfl rfl ?_
    refine Z_iadd (q := 191) (by decide +kernel) rfl ?_
    refine Z_dup2 (q := 192) (by decide +kernel) rfl rfl rfl ?_
    obtain ⟨hin7, h⟩ := h
    refine Z_iald (len := 35) (q := 193) (by decide +kernel) rfl (by decide) hin7 rfl ?_
    refine Z_aload_n (a := 0) (q := 194) (by decide +kernel) rfl rfl ?_
    refine g11_14 (idx := 17) (q := 197) (by decide +kernel) fX11_17 rfl (by decide) (t11_14 hT) rfl ?_
    refine Z_bipush (a := 23) (v := 23) (q := 199) (by decide +kernel) (by decide +kernel) rfl ?_
    refine Z_iload_n (a := 3) (q := 200) (by decide +kernel) rfl rfl ?_
    refine Z_iadd (q := 201) (by decide +kernel) rfl ?_
    refine Z_iald (len := 35) (q := 202) (by decide +kernel) rfl (by decide) hin7 rfl ?_
    refine Z_iload_n (a := 1) (q := 203) (by decide +kernel) rfl rfl ?_
    refine Z_icmp_le (t := 210) (off := 7) (q := 206) (by decide +kernel) (by decide) rfl (fun hc => ?_) (fun hc => ?_)
    · replace h := h.1 hc
      refine Z_iconst (a := 0) (v := 0) (q := 211) (by decide +kernel) (by decide +kernel) rfl ?_
      refine Z_isub (q := 212) (by decide +kernel) rfl ?_
      refine Z_iast (len := 35) (q := 213) (by decide +kernel) rfl (by decide) hin7 rfl ?_
      replace h := h _ rfl
      refine Z_iinc (a := 3) (b := 1) (v := _ + 1) (loc2 := [_, _, _, _]) (q := 216) (by decide +kernel) rfl (zinc _) (by decide +kernel) rfl rfl rfl ?_
      refine Z_goto (q := 170) (off := -46) (by decide +kernel) (by decide) ?_
      exact h
    · replace h := h.2 hc
      refine Z_iconst (a := 1) (v := 1) (q := 207) (by decide +kernel) (by decide +kernel) rfl ?_
      refine Z_goto (q := 211) (off := 4) (by decide +kernel) (by decide) ?_
      refine Z_isub (q := 212) (by decide +kernel) rfl ?_
      refine Z_iast (len := 35) (q := 213) (by decide +kernel) rfl (by decide) hin7 rfl ?_
      replace h := h _ rfl
      refine Z_iinc (a := 3) (b := 1) (v := _ + 1) (loc2 := [_, _, _, _]) (q := 216) (by decide +kernel) rfl (zinc _) (by decide +kernel) rfl rfl rfl ?_
      refine Z_goto (q := 170) (off := -46) (by decide +kernel) (by decide) ?_
      exact h
theorem eX11_changes {d : Nat} (x1 : Int32) (x2 : Int32) {iv : zI} {rv : zR} {lv : zJ} {Q : Int32 → zI → zR → zJ → Prop} (h : Zi mX11_changes (d + 1) 0 [some (.ref 174), some (.int x1), some (.int x2), none] [] iv rv lv Q) : Ci mX11_changes (d + 1) [.ref 174, .int x1, .int x2] iv rv lv Q := Ci.of (by decide +kernel) (by simp [Value.category]) (Nat.le_of_ble_eq_true rfl) rfl h
set_option maxRecDepth 4000 in
theorem bX11_changes_0 {d : Nat} (x1 : Int32) (x2 : Int32) {iv : zI} {rv : zR} {lv : zJ} {Q : Int32 → zI → zR → zJ → Prop} (hT : zTop rv) 
    (h : ∃ Q1 : zI → zR → zJ → Prop, Cv mX11_remembers d [.ref 174] iv rv lv Q1 ∧ ∀ (iv2 : zI) (rv3 : zR) (lv4 : zJ), Q1 iv2 rv3 lv4 → zTop rv3 ∧ (vp_in x1 35 ∧ (∀ iv8 : zI, iv8 = zu iv2 176 x1.toNatClampNeg x2 → Q (iv2 176 x1.toNatClampNeg) iv8 rv3 lv4))) :
    Zi mX11_changes (d + 1) 0 [some (.ref 174), some (.int x1), some (.int x2), none] [] iv rv lv Q := by
  unfold Zi
  refine Z_aload_n (a := 0) (q := 1) (by decide +kernel) rfl rfl ?_
  obtain ⟨Q1, hm, h⟩ := h
  refine Z_callVv (M2 := mX11_remembers) (idx := 365) (d2 := d) (ci := 11) (As := []) (q := 4) (by decide +kernel) kX11_remembers lX11_365 rfl rfl (by decide) rfl rfl (by decide +kernel) (Nat.le_of_ble_eq_true rfl) (Nat.le_refl _) hm rfl (fun iv2 rv3 lv4 hq => ?_)
  obtain ⟨hT5, h⟩ := h iv2 rv3 lv4 hq
  refine Z_aload_n (a := 0) (q := 5) (by decide +kernel) rfl rfl ?_
  refine g11_14 (idx := 17) (q := 8) (by decide +kernel) fX11_17 rfl (by decide) (t11_14 hT5) rfl ?_
  refine Z_iload_n (a := 1) (q := 9) (by decide +kernel) rfl rfl ?_
  obtain ⟨hin7, h⟩ := h
  refine Z_iald (len := 35) (q := 10) (by decide +kernel) rfl (by decide) hin7 rfl ?_
  refine Z_istore_n (a := 3) (loc2 := [_, _, _, _]) (q := 11) (by decide +kernel) (by decide +kernel) rfl rfl rfl ?_
  refine Z_aload_n (a := 0) (q := 12) (by decide +kernel) rfl rfl ?_
  refine g11_14 (idx := 17) (q := 15) (by decide +kernel) fX11_17 rfl (by decide) (t11_14 hT5) rfl ?_
  refine Z_iload_n (a := 1) (q := 16) (by decide +kernel) rfl rfl ?_
  refine Z_iload_n (a := 2) (q := 17) (by decide +kernel) rfl rfl ?_
  refine Z_iast (len := 35) (q := 18) (by decide +kernel) rfl (by decide) hin7 rfl ?_
  replace h := h _ rfl
  refine Z_iload_n (a := 3) (q := 19) (by decide +kernel) rfl rfl ?_
  exact Z_iret (ty := .int) (by decide +kernel) rfl rfl rfl ⟨_, rfl, h⟩
theorem eX11_become {d : Nat} (x1 : Int32) (x2 : Int32) {iv : zI} {rv : zR} {lv : zJ} {Q : Int32 → zI → zR → zJ → Prop} (h : Zi mX11_become (d + 1) 0 [some (.ref 174), some (.int x1), some (.int x2)] [] iv rv lv Q) : Ci mX11_become (d + 1) [.ref 174, .int x1, .int x2] iv rv lv Q := Ci.of (by decide +kernel) (by simp [Value.category]) (Nat.le_of_ble_eq_true rfl) rfl h
set_option maxRecDepth 4000 in
theorem bX11_become_0 {d : Nat} (x1 : Int32) (x2 : Int32) {iv : zI} {rv : zR} {lv : zJ} {Q : Int32 → zI → zR → zJ → Prop} (hT : zTop rv) 
    (h : ∀ iv1 : zI, iv1 = zu iv 174 0 (0 : Int32) → ∃ Q2 : Int32 → zI → zR → zJ → Prop, Ci mX11_isNumber d [.ref 174, .int x1] iv1 rv lv Q2 ∧ ∀ (v7 : Int32) (iv3 : zI) (rv4 : zR) (lv5 : zJ), Q2 v7 iv3 rv4 lv5 → zTop rv4 ∧ ((¬ v7 = 0 → ∃ Q8 : Int32 → zI → zR → zJ → Prop, Ci mX11_in d [.int x2, .int (1 : Int32), .int (9999 : Int32)] iv3 rv4 lv5 Q8 ∧ ∀ (v13 : Int32) (iv9 : zI) (rv10 : zR) (lv11 : zJ), Q8 v13 iv9 rv10 lv11 → zTop rv10 ∧ ((v13 = 0 → ∃ Q14 : Int32 → zI → zR → zJ → Prop, Ci mX11_refused d [.ref 174, .int (2 : Int32)] iv9 rv10 lv11 Q14 ∧ ∀ (v19 : Int32) (iv15 : zI) (rv16 : zR) (lv17 : zJ), Q14 v19 iv15 rv16 lv17 → zTop rv16 ∧ (Q v19 iv15 rv16 lv17)) ∧ (¬ v13 = 0 → ∃ Q20 : Int32 → zI → zR → zJ → Prop, Ci mX11_changes d [.ref 174, .int ((2 : Int32) + x1), .int x2] iv9 rv10 lv11 Q20 ∧ ∀ (v25 : Int32) (iv21 : zI) (rv22 : zR) (lv23 : zJ), Q20 v25 iv21 rv22 lv23 → zTop rv22 ∧ (∃ Q26 : Int32 → zI → zR → zJ → Prop, Ci mX11_good d [.ref 174, .int v25] iv21 rv22 lv23 Q26 ∧ ∀ (v31 : Int32) (iv27 : zI) (rv28 : zR) (lv29 : zJ), Q26 v31 iv27 rv28 lv29 → zTop rv28 ∧ (Q v31 iv27 rv28 lv29))))) ∧ (v7 = 0 → ∃ Q32 : Int32 → zI → zR → zJ → Prop, Ci mX11_refused d [.ref 174, .int (1 : Int32)] iv3 rv4 lv5 Q32 ∧ ∀ (v37 : Int32) (iv33 : zI) (rv34 : zR) (lv35 : zJ), Q32 v37 iv33 rv34 lv35 → zTop rv34 ∧ (Q v37 iv33 rv34 lv35)))) :
    Zi mX11_become (d + 1) 0 [some (.ref 174), some (.int x1), some (.int x2)] [] iv rv lv Q := by
  unfold Zi
  refine Z_aload_n (a := 0) (q := 1) (by decide +kernel) rfl rfl ?_
  refine Z_iconst (a := 0) (v := 0) (q := 2) (by decide +kernel) (by decide +kernel) rfl ?_
  refine p11_0 (idx := 87) (q := 5) (by decide +kernel) fX11_87 rfl (by decide) rfl ?_
  replace h := h _ rfl
  refine Z_aload_n (a := 0) (q := 6) (by decide +kernel) rfl rfl ?_
  refine Z_iload_n (a := 1) (q := 7) (by decide +kernel) rfl rfl ?_
  obtain ⟨Q2, hm, h⟩ := h
  refine Z_callVi (M2 := mX11_isNumber) (idx := 229) (d2 := d) (ci := 11) (As := [.int _]) (q := 10) (by decide +kernel) kX11_isNumber lX11_229 rfl rfl (by decide) rfl rfl (by decide +kernel) (Nat.le_of_ble_eq_true rfl) (Nat.le_refl _) hm rfl (fun v7 iv3 rv4 lv5 hq => ?_)
  obtain ⟨hT6, h⟩ := h v7 iv3 rv4 lv5 hq
  refine Z_if_ne (t := 19) (off := 9) (q := 13) (by decide +kernel) (by decide) rfl (fun hc => ?_) (fun hc => ?_)
  · replace h := h.1 hc
    refine Z_iload_n (a := 2) (q := 20) (by decide +kernel) rfl rfl ?_
    refine Z_iconst (a := 1) (v := 1) (q := 21) (by decide +kernel) (by decide +kernel) rfl ?_
    refine Z_sipush (a := 9999) (v := 9999) (q := 24) (by decide +kernel) (by decide +kernel) rfl ?_
    obtain ⟨Q8, hm, h⟩ := h
    refine Z_callSi (M2 := mX11_in) (idx := 112) (d2 := d) (As := [.int _, .int _, .int _]) (q := 27) (by decide +kernel) kX11_in lX11_112 rfl rfl (by decide +kernel) (Nat.le_of_ble_eq_true rfl) (Nat.le_refl _) hm rfl (fun v13 iv9 rv10 lv11 hq => ?_)
    obtain ⟨hT12, h⟩ := h v13 iv9 rv10 lv11 hq
    refine Z_if_eq (t := 45) (off := 18) (q := 30) (by decide +kernel) (by decide) rfl (fun hc => ?_) (fun hc => ?_)
    · replace h := h.1 hc
      refine Z_aload_n (a := 0) (q := 46) (by decide +kernel) rfl rfl ?_
      refine Z_iconst (a := 2) (v := 2) (q := 47) (by decide +kernel) (by decide +kernel) rfl ?_
      obtain ⟨Q14, hm, h⟩ := h
      refine Z_callVi (M2 := mX11_refused) (idx := 201) (d2 := d) (ci := 11) (As := [.int _]) (q := 50) (by decide +kernel) kX11_refused lX11_201 rfl rfl (by decide) rfl rfl (by decide +kernel) (Nat.le_of_ble_eq_true rfl) (Nat.le_refl _) hm rfl (fun v19 iv15 rv16 lv17 hq => ?_)
      obtain ⟨hT18, h⟩ := h v19 iv15 rv16 lv17 hq
      exact Z_iret (ty := .int) (by decide +kernel) rfl rfl rfl ⟨_, rfl, h⟩
    · replace h := h.2 hc
      refine Z_aload_n (a := 0) (q := 31) (by decide +kernel) rfl rfl ?_
      refine Z_aload_n (a := 0) (q := 32) (by decide +kernel) rfl rfl ?_
      refine Z_iconst (a := 2) (v := 2) (q := 33) (by decide +kernel) (by decide +kernel) rfl ?_
      refine Z_iload_n (a := 1) (q := 34) (by decide +kernel) rfl rfl ?_
      refine Z_iadd (q := 35) (by decide +kernel) rfl ?_
      refine Z_iload_n (a := 2) (q := 36) (by decide +kernel) rfl rfl ?_
      obtain ⟨Q20, hm, h⟩ := h
      refine Z_callVi (M2 := mX11_changes) (idx := 371) (d2 := d) (ci := 11) (As := [.int _, .int _]) (q := 39) (by decide +kernel) kX11_changes lX11_371 rfl rfl (by decide) rfl rfl (by decide +kernel) (Nat.le_of_ble_eq_true rfl) (Nat.le_refl _) hm rfl (fun v25 iv21 rv22 lv23 hq => ?_)
      obtain ⟨hT24, h⟩ := h v25 iv21 rv22 lv23 hq
      obtain ⟨Q26, hm, h⟩ := h
      refine Z_callVi (M2 := mX11_good) (idx := 214) (d2 := d) (ci := 11) (As := [.int _]) (q := 42) (by decide +kernel) kX11_good lX11_214 rfl rfl (by decide) rfl rfl (by decide +kernel) (Nat.le_of_ble_eq_true rfl) (Nat.le_refl _) hm rfl (fun v31 iv27 rv28 lv29 hq => ?_)
      obtain ⟨hT30, h⟩ := h v31 iv27 rv28 lv29 hq
      refine Z_goto (q := 50) (off := 8) (by decide +kernel) (by decide) ?_
      exact Z_iret (ty := .int) (by decide +kernel) rfl rfl rfl ⟨_, rfl, h⟩
  · replace h := h.2 hc
    refine Z_aload_n (a := 0) (q := 14) (by decide +kernel) rfl rfl ?_
    refine Z_iconst (a := 1) (v := 1) (q := 15) (by decide +kernel) (by decide +kernel) rfl ?_
    obtain ⟨Q32, hm, h⟩ := h
    refine Z_callVi (M2 := mX11_refused) (idx := 201) (d2 := d) (ci := 11) (As := [.int _]) (q := 18) (by decide +kernel) kX11_refused lX11_201 rfl rfl (by decide) rfl rfl (by decide +kernel) (Nat.le_of_ble_eq_true rfl) (Nat.le_refl _) hm rfl (fun v37 iv33 rv34 lv35 hq => ?_)
    obtain ⟨hT36, h⟩ := h v37 iv33 rv34 lv35 hq
    exact Z_iret (ty := .int) (by decide +kernel) rfl rfl rfl ⟨_, rfl, h⟩
theorem eX11_keepIn {d : Nat} (x1 : Int32) (x2 : Int32) {iv : zI} {rv : zR} {lv : zJ} {Q : Int32 → zI → zR → zJ → Prop} (h : Zi mX11_keepIn (d + 1) 0 [some (.ref 174), some (.int x1), some (.int x2), none] [] iv rv lv Q) : Ci mX11_keepIn (d + 1) [.ref 174, .int x1, .int x2] iv rv lv Q := Ci.of (by decide +kernel) (by simp [Value.category]) (Nat.le_of_ble_eq_true rfl) rfl h
set_option maxRecDepth 4000 in
theorem bX11_keepIn_0 {d : Nat} (x1 : Int32) (x2 : Int32) {iv : zI} {rv : zR} {lv : zJ} {Q : Int32 → zI → zR → zJ → Prop} (hT : zTop rv) 
    (h : ∀ iv1 : zI, iv1 = zu iv 174 0 (0 : Int32) → ∃ Q2 : Int32 → zI → zR → zJ → Prop, Ci mX11_isNumber d [.ref 174, .int x1] iv1 rv lv Q2 ∧ ∀ (v7 : Int32) (iv3 : zI) (rv4 : zR) (lv5 : zJ), Q2 v7 iv3 rv4 lv5 → zTop rv4 ∧ ((¬ v7 = 0 → (x2 = (-2 : Int32) → Zi mX11_keepIn (d + 1) 40 [some (.ref 174), some (.int x1), some (.int x2), none] [] iv3 rv4 lv5 Q) ∧ (¬ x2 = (-2 : Int32) → ∃ Q8 : Int32 → zI → zR → zJ → Prop, Ci mX11_in d [.int x2, .int (0 : Int32), .int (3 : Int32)] iv3 rv4 lv5 Q8 ∧ ∀ (v13 : Int32) (iv9 : zI) (rv10 : zR) (lv11 : zJ), Q8 v13 iv9 rv10 lv11 → zTop rv10 ∧ ((¬ v13 = 0 → Zi mX11_keepIn (d + 1) 40 [some (.ref 174), some (.int x1), some (.int x2), none] [] iv9 rv10 lv11 Q) ∧ (v13 = 0 → ∃ Q14 : Int32 → zI → zR → zJ → Prop, Ci mX11_refused d [.ref 174, .int (2 : Int32)] iv9 rv10 lv11 Q14 ∧ ∀ (v19 : Int32) (iv15 : zI) (rv16 : zR) (lv17 : zJ), Q14 v19 iv15 rv16 lv17 → zTop rv16 ∧ (Q v19 iv15 rv16 lv17))))) ∧ (v7 = 0 → ∃ Q20 : Int32 → zI → zR → zJ → Prop, Ci mX11_refused d [.ref 174, .int (1 : Int32)] iv3 rv4 lv5 Q20 ∧ ∀ (v25 : Int32) (iv21 : zI) (rv22 : zR) (lv23 : zJ), Q20 v25 iv21 rv22 lv23 → zTop rv22 ∧ (Q v25 iv21 rv22 lv23)))) :
    Zi mX11_keepIn (d + 1) 0 [some (.ref 174), some (.int x1), some (.int x2), none] [] iv rv lv Q := by
  unfold Zi
  refine Z_aload_n (a := 0) (q := 1) (by decide +kernel) rfl rfl ?_
  refine Z_iconst (a := 0) (v := 0) (q := 2) (by decide +kernel) (by decide +kernel) rfl ?_
  refine p11_0 (idx := 87) (q := 5) (by decide +kernel) fX11_87 rfl (by decide) rfl ?_
  replace h := h _ rfl
  refine Z_aload_n (a := 0) (q := 6) (by decide +kernel) rfl rfl ?_
  refine Z_iload_n (a := 1) (q := 7) (by decide +kernel) rfl rfl ?_
  obtain ⟨Q2, hm, h⟩ := h
  refine Z_callVi (M2 := mX11_isNumber) (idx := 229) (d2 := d) (ci := 11) (As := [.int _]) (q := 10) (by decide +kernel) kX11_isNumber lX11_229 rfl rfl (by decide) rfl rfl (by decide +kernel) (Nat.le_of_ble_eq_true rfl) (Nat.le_refl _) hm rfl (fun v7 iv3 rv4 lv5 hq => ?_)
  obtain ⟨hT6, h⟩ := h v7 iv3 rv4 lv5 hq
  refine Z_if_ne (t := 19) (off := 9) (q := 13) (by decide +kernel) (by decide) rfl (fun hc => ?_) (fun hc => ?_)
  · replace h := h.1 hc
    refine Z_iload_n (a := 2) (q := 20) (by decide +kernel) rfl rfl ?_
    refine Z_bipush (a := -2) (v := -2) (q := 22) (by decide +kernel) (by decide +kernel) rfl ?_
    refine Z_icmp_eq (t := 40) (off := 18) (q := 25) (by decide +kernel) (by decide) rfl (fun hc => ?_) (fun hc => ?_)
    · replace h := h.1 hc
      exact h
    · replace h := h.2 hc
      refine Z_iload_n (a := 2) (q := 26) (by decide +kernel) rfl rfl ?_
      refine Z_iconst (a := 0) (v := 0) (q := 27) (by decide +kernel) (by decide +kernel) rfl ?_
      refine Z_iconst (a := 3) (v := 3) (q := 28) (by decide +kernel) (by decide +kernel) rfl ?_
      obtain ⟨Q8, hm, h⟩ := h
      refine Z_callSi (M2 := mX11_in) (idx := 112) (d2 := d) (As := [.int _, .int _, .int _]) (q := 31) (by decide +kernel) kX11_in lX11_112 rfl rfl (by decide +kernel) (Nat.le_of_ble_eq_true rfl) (Nat.le_refl _) hm rfl (fun v13 iv9 rv10 lv11 hq => ?_)
      obtain ⟨hT12, h⟩ := h v13 iv9 rv10 lv11 hq
      refine Z_if_ne (t := 40) (off := 9) (q := 34) (by decide +kernel) (by decide) rfl (fun hc => ?_) (fun hc => ?_)
      · replace h := h.1 hc
        exact h
      · replace h := h.2 hc
        refine Z_aload_n (a := 0) (q := 35) (by decide +kernel) rfl rfl ?_
        refine Z_iconst (a := 2) (v := 2) (q := 36) (by decide +kernel) (by decide +kernel) rfl ?_
        obtain ⟨Q14, hm, h⟩ := h
        refine Z_callVi (M2 := mX11_refused) (idx := 201) (d2 := d) (ci := 11) (As := [.int _]) (q := 39) (by decide +kernel) kX11_refused lX11_201 rfl rfl (by decide) rfl rfl (by decide +kernel) (Nat.le_of_ble_eq_true rfl) (Nat.le_refl _) hm rfl (fun v19 iv15 rv16 lv17 hq => ?_)
        obtain ⟨hT18, h⟩ := h v19 iv15 rv16 lv17 hq
        exact Z_iret (ty := .int) (by decide +kernel) rfl rfl rfl ⟨_, rfl, h⟩
  · replace h := h.2 hc
    refine Z_aload_n (a := 0) (q := 14) (by decide +kernel) rfl rfl ?_
    refine Z_iconst (a := 1) (v := 1) (q := 15) (by decide +kernel) (by decide +kernel) rfl ?_
    obtain ⟨Q20, hm, h⟩ := h
    refine Z_callVi (M2 := mX11_refused) (idx := 201) (d2 := d) (ci := 11) (As := [.int _]) (q := 18) (by decide +kernel) kX11_refused lX11_201 rfl rfl (by decide) rfl rfl (by decide +kernel) (Nat.le_of_ble_eq_true rfl) (Nat.le_refl _) hm rfl (fun v25 iv21 rv22 lv23 hq => ?_)
    obtain ⟨hT24, h⟩ := h v25 iv21 rv22 lv23 hq
    exact Z_iret (ty := .int) (by decide +kernel) rfl rfl rfl ⟨_, rfl, h⟩
set_option maxRecDepth 4000 in
theorem bX11_keepIn_40 {d : Nat} (x1 : Int32) (x2 : Int32) {iv : zI} {rv : zR} {lv : zJ} {Q : Int32 → zI → zR → zJ → Prop} (hT : zTop rv) 
    (h : (¬ x2 = (-2 : Int32) → ∃ Q1 : Int32 → zI → zR → zJ → Prop, Ci mX11_changes d [.ref 174, .int ((12 : Int32) + x1), .int (x2 + (1 : Int32))] iv rv lv Q1 ∧ ∀ (v6 : Int32) (iv2 : zI) (rv3 : zR) (lv4 : zJ), Q1 v6 iv2 rv3 lv4 → zTop rv3 ∧ ((¬ v6 = 0 → ∃ Q7 : Int32 → zI → zR → zJ → Prop, Ci mX11_good d [.ref 174, .int (v6 - (1 : Int32))] iv2 rv3 lv4 Q7 ∧ ∀ (v12 : Int32) (iv8 : zI) (rv9 : zR) (lv10 : zJ), Q7 v12 iv8 rv9 lv10 → zTop rv9 ∧ (Q v12 iv8 rv9 lv10)) ∧ (v6 = 0 → ∃ Q13 : Int32 → zI → zR → zJ → Prop, Ci mX11_good d [.ref 174, .int (-2 : Int32)] iv2 rv3 lv4 Q13 ∧ ∀ (v18 : Int32) (iv14 : zI) (rv15 : zR) (lv16 : zJ), Q13 v18 iv14 rv15 lv16 → zTop rv15 ∧ (Q v18 iv14 rv15 lv16)))) ∧ (x2 = (-2 : Int32) → ∃ Q19 : Int32 → zI → zR → zJ → Prop, Ci mX11_changes d [.ref 174, .int ((12 : Int32) + x1), .int (0 : Int32)] iv rv lv Q19 ∧ ∀ (v24 : Int32) (iv20 : zI) (rv21 : zR) (lv22 : zJ), Q19 v24 iv20 rv21 lv22 → zTop rv21 ∧ ((¬ v24 = 0 → ∃ Q25 : Int32 → zI → zR → zJ → Prop, Ci mX11_good d [.ref 174, .int (v24 - (1 : Int32))] iv20 rv21 lv22 Q25 ∧ ∀ (v30 : Int32) (iv26 : zI) (rv27 : zR) (lv28 : zJ), Q25 v30 iv26 rv27 lv28 → zTop rv27 ∧ (Q v30 iv26 rv27 lv28)) ∧ (v24 = 0 → ∃ Q31 : Int32 → zI → zR → zJ → Prop, Ci mX11_good d [.ref 174, .int (-2 : Int32)] iv20 rv21 lv22 Q31 ∧ ∀ (v36 : Int32) (iv32 : zI) (rv33 : zR) (lv34 : zJ), Q31 v36 iv32 rv33 lv34 → zTop rv33 ∧ (Q v36 iv32 rv33 lv34))))) :
    Zi mX11_keepIn (d + 1) 40 [some (.ref 174), some (.int x1), some (.int x2), none] [] iv rv lv Q := by
  unfold Zi
  refine Z_aload_n (a := 0) (q := 41) (by decide +kernel) rfl rfl ?_
  refine Z_bipush (a := 12) (v := 12) (q := 43) (by decide +kernel) (by decide +kernel) rfl ?_
  refine Z_iload_n (a := 1) (q := 44) (by decide +kernel) rfl rfl ?_
  refine Z_iadd (q := 45) (by decide +kernel) rfl ?_
  refine Z_iload_n (a := 2) (q := 46) (by decide +kernel) rfl rfl ?_
  refine Z_bipush (a := -2) (v := -2) (q := 48) (by decide +kernel) (by decide +kernel) rfl ?_
  refine Z_icmp_ne (t := 55) (off := 7) (q := 51) (by decide +kernel) (by decide) rfl (fun hc => ?_) (fun hc => ?_)
  · replace h := h.1 hc
    refine Z_iload_n (a := 2) (q := 56) (by decide +kernel) rfl rfl ?_
    refine Z_iconst (a := 1) (v := 1) (q := 57) (by decide +kernel) (by decide +kernel) rfl ?_
    refine Z_iadd (q := 58) (by decide +kernel) rfl ?_
    obtain ⟨Q1, hm, h⟩ := h
    refine Z_callVi (M2 := mX11_changes) (idx := 371) (d2 := d) (ci := 11) (As := [.int _, .int _]) (q := 61) (by decide +kernel) kX11_changes lX11_371 rfl rfl (by decide) rfl rfl (by decide +kernel) (Nat.le_of_ble_eq_true rfl) (Nat.le_refl _) hm rfl (fun v6 iv2 rv3 lv4 hq => ?_)
    obtain ⟨hT5, h⟩ := h v6 iv2 rv3 lv4 hq
    refine Z_istore_n (a := 3) (loc2 := [_, _, _, _]) (q := 62) (by decide +kernel) (by decide +kernel) rfl rfl rfl ?_
    refine Z_aload_n (a := 0) (q := 63) (by decide +kernel) rfl rfl ?_
    refine Z_iload_n (a := 3) (q := 64) (by decide +kernel) rfl rfl ?_
    refine Z_if_ne (t := 72) (off := 8) (q := 67) (by decide +kernel) (by decide) rfl (fun hc => ?_) (fun hc => ?_)
    · replace h := h.1 hc
      refine Z_iload_n (a := 3) (q := 73) (by decide +kernel) rfl rfl ?_
      refine Z_iconst (a := 1) (v := 1) (q := 74) (by decide +kernel) (by decide +kernel) rfl ?_
      refine Z_isub (q := 75) (by decide +kernel) rfl ?_
      obtain ⟨Q7, hm, h⟩ := h
      refine Z_callVi (M2 := mX11_good) (idx := 214) (d2 := d) (ci := 11) (As := [.int _]) (q := 78) (by decide +kernel) kX11_good lX11_214 rfl rfl (by decide) rfl rfl (by decide +kernel) (Nat.le_of_ble_eq_true rfl) (Nat.le_refl _) hm rfl (fun v12 iv8 rv9 lv10 hq => ?_)
      obtain ⟨hT11, h⟩ := h v12 iv8 rv9 lv10 hq
      exact Z_iret (ty := .int) (by decide +kernel) rfl rfl rfl ⟨_, rfl, h⟩
    · replace h := h.2 hc
      refine Z_bipush (a := -2) (v := -2) (q := 69) (by decide +kernel) (by decide +kernel) rfl ?_
      refine Z_goto (q := 75) (off := 6) (by decide +kernel) (by decide) ?_
      obtain ⟨Q13, hm, h⟩ := h
      refine Z_callVi (M2 := mX11_good) (idx := 214) (d2 := d) (ci := 11) (As := [.int _]) (q := 78) (by decide +kernel) kX11_good lX11_214 rfl rfl (by decide) rfl rfl (by decide +kernel) (Nat.le_of_ble_eq_true rfl) (Nat.le_refl _) hm rfl (fun v18 iv14 rv15 lv16 hq => ?_)
      obtain ⟨hT17, h⟩ := h v18 iv14 rv15 lv16 hq
      exact Z_iret (ty := .int) (by decide +kernel) rfl rfl rfl ⟨_, rfl, h⟩
  · replace h := h.2 hc
    refine Z_iconst (a := 0) (v := 0) (q := 52) (by decide +kernel) (by decide +kernel) rfl ?_
    refine Z_goto (q := 58) (off := 6) (by decide +kernel) (by decide) ?_
    obtain ⟨Q19, hm, h⟩ := h
    refine Z_callVi (M2 := mX11_changes) (idx := 371) (d2 := d) (ci := 11) (As := [.int _, .int _]) (q := 61) (by decide +kernel) kX11_changes lX11_371 rfl rfl (by decide) rfl rfl (by decide +kernel) (Nat.le_of_ble_eq_true rfl) (Nat.le_refl _) hm rfl (fun v24 iv20 rv21 lv22 hq => ?_)
    obtain ⟨hT23, h⟩ := h v24 iv20 rv21 lv22 hq
    refine Z_istore_n (a := 3) (loc2 := [_, _, _, _]) (q := 62) (by decide +kernel) (by decide +kernel) rfl rfl rfl ?_
    refine Z_aload_n (a := 0) (q := 63) (by decide +kernel) rfl rfl ?_
    refine Z_iload_n (a := 3) (q := 64) (by decide +kernel) rfl rfl ?_
    refine Z_if_ne (t := 72) (off := 8) (q := 67) (by decide +kernel) (by decide) rfl (fun hc => ?_) (fun hc => ?_)
    · replace h := h.1 hc
      refine Z_iload_n (a := 3) (q := 73) (by decide +kernel) rfl rfl ?_
      refine Z_iconst (a := 1) (v := 1) (q := 74) (by decide +kernel) (by decide +kernel) rfl ?_
      refine Z_isub (q := 75) (by decide +kernel) rfl ?_
      obtain ⟨Q25, hm, h⟩ := h
      refine Z_callVi (M2 := mX11_good) (idx := 214) (d2 := d) (ci := 11) (As := [.int _]) (q := 78) (by decide +kernel) kX11_good lX11_214 rfl rfl (by decide) rfl rfl (by decide +kernel) (Nat.le_of_ble_eq_true rfl) (Nat.le_refl _) hm rfl (fun v30 iv26 rv27 lv28 hq => ?_)
      obtain ⟨hT29, h⟩ := h v30 iv26 rv27 lv28 hq
      exact Z_iret (ty := .int) (by decide +kernel) rfl rfl rfl ⟨_, rfl, h⟩
    · replace h := h.2 hc
      refine Z_bipush (a := -2) (v := -2) (q := 69) (by decide +kernel) (by decide +kernel) rfl ?_
      refine Z_goto (q := 75) (off := 6) (by decide +kernel) (by decide) ?_
      obtain ⟨Q31, hm, h⟩ := h
      refine Z_callVi (M2 := mX11_good) (idx := 214) (d2 := d) (ci := 11) (As := [.int _]) (q := 78) (by decide +kernel) kX11_good lX11_214 rfl rfl (by decide) rfl rfl (by decide +kernel) (Nat.le_of_ble_eq_true rfl) (Nat.le_refl _) hm rfl (fun v36 iv32 rv33 lv34 hq => ?_)
      obtain ⟨hT35, h⟩ := h v36 iv32 rv33 lv34 hq
      exact Z_iret (ty := .int) (by decide +kernel) rfl rfl rfl ⟨_, rfl, h⟩
theorem eX11_apart {d : Nat} (x1 : Int32) (x2 : Int32) {iv : zI} {rv : zR} {lv : zJ} {Q : Int32 → zI → zR → zJ → Prop} (h : Zi mX11_apart (d + 1) 0 [some (.ref 174), some (.int x1), some (.int x2), none] [] iv rv lv Q) : Ci mX11_apart (d + 1) [.ref 174, .int x1, .int x2] iv rv lv Q := Ci.of (by decide +kernel) (by simp [Value.category]) (Nat.le_of_ble_eq_true rfl) rfl h
set_option maxRecDepth 4000 in
theorem bX11_apart_0 {d : Nat} (x1 : Int32) (x2 : Int32) {iv : zI} {rv : zR} {lv : zJ} {Q : Int32 → zI → zR → zJ → Prop} (hT : zTop rv) 
    (h : ∀ iv1 : zI, iv1 = zu iv 174 0 (0 : Int32) → ∃ Q2 : Int32 → zI → zR → zJ → Prop, Ci mX11_isNumber d [.ref 174, .int x1] iv1 rv lv Q2 ∧ ∀ (v7 : Int32) (iv3 : zI) (rv4 : zR) (lv5 : zJ), Q2 v7 iv3 rv4 lv5 → zTop rv4 ∧ ((v7 = 0 → ∃ Q8 : Int32 → zI → zR → zJ → Prop, Ci mX11_refused d [.ref 174, .int (1 : Int32)] iv3 rv4 lv5 Q8 ∧ ∀ (v13 : Int32) (iv9 : zI) (rv10 : zR) (lv11 : zJ), Q8 v13 iv9 rv10 lv11 → zTop rv10 ∧ (Q v13 iv9 rv10 lv11)) ∧ (¬ v7 = 0 → ∃ Q14 : Int32 → zI → zR → zJ → Prop, Ci mX11_isNumber d [.ref 174, .int x2] iv3 rv4 lv5 Q14 ∧ ∀ (v19 : Int32) (iv15 : zI) (rv16 : zR) (lv17 : zJ), Q14 v19 iv15 rv16 lv17 → zTop rv16 ∧ ((¬ v19 = 0 → ∃ Q20 : Int32 → zI → zR → zJ → Prop, Ci mX11_pairOf d [.ref 176, .int x1, .int x2] iv15 rv16 lv17 Q20 ∧ ∀ (v25 : Int32) (iv21 : zI) (rv22 : zR) (lv23 : zJ), Q20 v25 iv21 rv22 lv23 → zTop rv22 ∧ ((¬ v25 = (-1 : Int32) → Zi mX11_apart (d + 1) 60 [some (.ref 174), some (.int x1), some (.int x2), some (.int v25)] [] iv21 rv22 lv23 Q) ∧ (v25 = (-1 : Int32) → (¬ (iv21 176 22) = (6 : Int32) → Zi mX11_apart (d + 1) 60 [some (.ref 174), some (.int x1), some (.int x2), some (.int v25)] [] iv21 rv22 lv23 Q) ∧ ((iv21 176 22) = (6 : Int32) → ∃ Q26 : Int32 → zI → zR → zJ → Prop, Ci mX11_refused d [.ref 174, .int (3 : Int32)] iv21 rv22 lv23 Q26 ∧ ∀ (v31 : Int32) (iv27 : zI) (rv28 : zR) (lv29 : zJ), Q26 v31 iv27 rv28 lv29 → zTop rv28 ∧ (Q v31 iv27 rv28 lv29))))) ∧ (v19 = 0 → ∃ Q32 : Int32 → zI → zR → zJ → Prop, Ci mX11_refused d [.ref 174, .int (1 : Int32)] iv15 rv16 lv17 Q32 ∧ ∀ (v37 : Int32) (iv33 : zI) (rv34 : zR) (lv35 : zJ), Q32 v37 iv33 rv34 lv35 → zTop rv34 ∧ (Q v37 iv33 rv34 lv35)))))) :
    Zi mX11_apart (d + 1) 0 [some (.ref 174), some (.int x1), some (.int x2), none] [] iv rv lv Q := by
  unfold Zi
  refine Z_aload_n (a := 0) (q := 1) (by decide +kernel) rfl rfl ?_
  refine Z_iconst (a := 0) (v := 0) (q := 2) (by decide +kernel) (by decide +kernel) rfl ?_
  refine p11_0 (idx := 87) (q := 5) (by decide +kernel) fX11_87 rfl (by decide) rfl ?_
  replace h := h _ rfl
  refine Z_aload_n (a := 0) (q := 6) (by decide +kernel) rfl rfl ?_
  refine Z_iload_n (a := 1) (q := 7) (by decide +kernel) rfl rfl ?_
  obtain ⟨Q2, hm, h⟩ := h
  refine Z_callVi (M2 := mX11_isNumber) (idx := 229) (d2 := d) (ci := 11) (As := [.int _]) (q := 10) (by decide +kernel) kX11_isNumber lX11_229 rfl rfl (by decide) rfl rfl (by decide +kernel) (Nat.le_of_ble_eq_true rfl) (Nat.le_refl _) hm rfl (fun v7 iv3 rv4 lv5 hq => ?_)
  obtain ⟨hT6, h⟩ := h v7 iv3 rv4 lv5 hq
  refine Z_if_eq (t := 21) (off := 11) (q := 13) (by decide +kernel) (by decide) rfl (fun hc => ?_) (fun hc => ?_)
  · replace h := h.1 hc
    refine Z_aload_n (a := 0) (q := 22) (by decide +kernel) rfl rfl ?_
    refine Z_iconst (a := 1) (v := 1) (q := 23) (by decide +kernel) (by decide +kernel) rfl ?_
    obtain ⟨Q8, hm, h⟩ := h
    refine Z_callVi (M2 := mX11_refused) (idx := 201) (d2 := d) (ci := 11) (As := [.int _]) (q := 26) (by decide +kernel) kX11_refused lX11_201 rfl rfl (by decide) rfl rfl (by decide +kernel) (Nat.le_of_ble_eq_true rfl) (Nat.le_refl _) hm rfl (fun v13 iv9 rv10 lv11 hq => ?_)
    obtain ⟨hT12, h⟩ := h v13 iv9 rv10 lv11 hq
    exact Z_iret (ty := .int) (by decide +kernel) rfl rfl rfl ⟨_, rfl, h⟩
  · replace h := h.2 hc
    refine Z_aload_n (a := 0) (q := 14) (by decide +kernel) rfl rfl ?_
    refine Z_iload_n (a := 2) (q := 15) (by decide +kernel) rfl rfl ?_
    obtain ⟨Q14, hm, h⟩ := h
    refine Z_callVi (M2 := mX11_isNumber) (idx := 229) (d2 := d) (ci := 11) (As := [.int _]) (q := 18) (by decide +kernel) kX11_isNumber lX11_229 rfl rfl (by decide) rfl rfl (by decide +kernel) (Nat.le_of_ble_eq_true rfl) (Nat.le_refl _) hm rfl (fun v19 iv15 rv16 lv17 hq => ?_)
    obtain ⟨hT18, h⟩ := h v19 iv15 rv16 lv17 hq
    refine Z_if_ne (t := 27) (off := 9) (q := 21) (by decide +kernel) (by decide) rfl (fun hc => ?_) (fun hc => ?_)
    · replace h := h.1 hc
      refine Z_aload_n (a := 0) (q := 28) (by decide +kernel) rfl rfl ?_
      refine g11_14 (idx := 17) (q := 31) (by decide +kernel) fX11_17 rfl (by decide) (t11_14 hT18) rfl ?_
      refine Z_iload_n (a := 1) (q := 32) (by decide +kernel) rfl rfl ?_
      refine Z_iload_n (a := 2) (q := 33) (by decide +kernel) rfl rfl ?_
      obtain ⟨Q20, hm, h⟩ := h
      refine Z_callSi (M2 := mX11_pairOf) (idx := 176) (d2 := d) (As := [.ref _, .int _, .int _]) (q := 36) (by decide +kernel) kX11_pairOf lX11_176 rfl rfl (by decide +kernel) (Nat.le_of_ble_eq_true rfl) (Nat.le_refl _) hm rfl (fun v25 iv21 rv22 lv23 hq => ?_)
      obtain ⟨hT24, h⟩ := h v25 iv21 rv22 lv23 hq
      refine Z_istore_n (a := 3) (loc2 := [_, _, _, _]) (q := 37) (by decide +kernel) (by decide +kernel) rfl rfl rfl ?_
      refine Z_iload_n (a := 3) (q := 38) (by decide +kernel) rfl rfl ?_
      refine Z_iconst (a := -1) (v := -1) (q := 39) (by decide +kernel) (by decide +kernel) rfl ?_
      refine Z_icmp_ne (t := 60) (off := 21) (q := 42) (by decide +kernel) (by decide) rfl (fun hc => ?_) (fun hc => ?_)
      · replace h := h.1 hc
        exact h
      · replace h := h.2 hc
        refine Z_aload_n (a := 0) (q := 43) (by decide +kernel) rfl rfl ?_
        refine g11_14 (idx := 17) (q := 46) (by decide +kernel) fX11_17 rfl (by decide) (t11_14 hT24) rfl ?_
        refine Z_bipush (a := 22) (v := 22) (q := 48) (by decide +kernel) (by decide +kernel) rfl ?_
        refine Z_iald (len := 35) (q := 49) (by decide +kernel) rfl (by decide) (by unfold vp_in; decide) rfl ?_
        refine Z_bipush (a := 6) (v := 6) (q := 51) (by decide +kernel) (by decide +kernel) rfl ?_
        refine Z_icmp_ne (t := 60) (off := 9) (q := 54) (by decide +kernel) (by decide) rfl (fun hc => ?_) (fun hc => ?_)
        · replace h := h.1 hc
          exact h
        · replace h := h.2 hc
          refine Z_aload_n (a := 0) (q := 55) (by decide +kernel) rfl rfl ?_
          refine Z_iconst (a := 3) (v := 3) (q := 56) (by decide +kernel) (by decide +kernel) rfl ?_
          obtain ⟨Q26, hm, h⟩ := h
          refine Z_callVi (M2 := mX11_refused) (idx := 201) (d2 := d) (ci := 11) (As := [.int _]) (q := 59) (by decide +kernel) kX11_refused lX11_201 rfl rfl (by decide) rfl rfl (by decide +kernel) (Nat.le_of_ble_eq_true rfl) (Nat.le_refl _) hm rfl (fun v31 iv27 rv28 lv29 hq => ?_)
          obtain ⟨hT30, h⟩ := h v31 iv27 rv28 lv29 hq
          exact Z_iret (ty := .int) (by decide +kernel) rfl rfl rfl ⟨_, rfl, h⟩
    · replace h := h.2 hc
      refine Z_aload_n (a := 0) (q := 22) (by decide +kernel) rfl rfl ?_
      refine Z_iconst (a := 1) (v := 1) (q := 23) (by decide +kernel) (by decide +kernel) rfl ?_
      obtain ⟨Q32, hm, h⟩ := h
      refine Z_callVi (M2 := mX11_refused) (idx := 201) (d2 := d) (ci := 11) (As := [.int _]) (q := 26) (by decide +kernel) kX11_refused lX11_201 rfl rfl (by decide) rfl rfl (by decide +kernel) (Nat.le_of_ble_eq_true rfl) (Nat.le_refl _) hm rfl (fun v37 iv33 rv34 lv35 hq => ?_)
      obtain ⟨hT36, h⟩ := h v37 iv33 rv34 lv35 hq
      exact Z_iret (ty := .int) (by decide +kernel) rfl rfl rfl ⟨_, rfl, h⟩
set_option maxRecDepth 4000 in
theorem bX11_apart_60 {d : Nat} (x1 : Int32) (x2 : Int32) (x3 : Int32) {iv : zI} {rv : zR} {lv : zJ} {Q : Int32 → zI → zR → zJ → Prop} (hT : zTop rv) 
    (h : (¬ x1 = x2 → ∃ Q1 : zI → zR → zJ → Prop, Cv mX11_remembers d [.ref 174] iv rv lv Q1 ∧ ∀ (iv2 : zI) (rv3 : zR) (lv4 : zJ), Q1 iv2 rv3 lv4 → zTop rv3 ∧ ((x3 = (-1 : Int32) → vp_in ((23 : Int32) + ((2 : Int32) * (iv2 176 22))) 35 ∧ (∀ iv8 : zI, iv8 = zu iv2 176 ((23 : Int32) + ((2 : Int32) * (iv2 176 22))).toNatClampNeg x1 → vp_in (((23 : Int32) + ((2 : Int32) * (iv8 176 22))) + (1 : Int32)) 35 ∧ (∀ iv10 : zI, iv10 = zu iv8 176 (((23 : Int32) + ((2 : Int32) * (iv8 176 22))) + (1 : Int32)).toNatClampNeg x2 → ∀ iv11 : zI, iv11 = zu iv10 176 22 ((iv10 176 22) + (1 : Int32)) → ∃ Q12 : Int32 → zI → zR → zJ → Prop, Ci mX11_good d [.ref 174, .int (iv11 176 22)] iv11 rv3 lv4 Q12 ∧ ∀ (v17 : Int32) (iv13 : zI) (rv14 : zR) (lv15 : zJ), Q12 v17 iv13 rv14 lv15 → zTop rv14 ∧ (Q v17 iv13 rv14 lv15)))) ∧ (¬ x3 = (-1 : Int32) → ∃ Q18 : zI → zR → zJ → Prop, Cv mX11_parts d [.ref 174, .int x3] iv2 rv3 lv4 Q18 ∧ ∀ (iv19 : zI) (rv20 : zR) (lv21 : zJ), Q18 iv19 rv20 lv21 → zTop rv20 ∧ (∃ Q24 : Int32 → zI → zR → zJ → Prop, Ci mX11_good d [.ref 174, .int (iv19 176 22)] iv19 rv20 lv21 Q24 ∧ ∀ (v29 : Int32) (iv25 : zI) (rv26 : zR) (lv27 : zJ), Q24 v29 iv25 rv26 lv27 → zTop rv26 ∧ (Q v29 iv25 rv26 lv27))))) ∧ (x1 = x2 → ∃ Q30 : Int32 → zI → zR → zJ → Prop, Ci mX11_refused d [.ref 174, .int (5 : Int32)] iv rv lv Q30 ∧ ∀ (v35 : Int32) (iv31 : zI) (rv32 : zR) (lv33 : zJ), Q30 v35 iv31 rv32 lv33 → zTop rv32 ∧ (Q v35 iv31 rv32 lv33))) :
    Zi mX11_apart (d + 1) 60 [some (.ref 174), some (.int x1), some (.int x2), some (.int x3)] [] iv rv lv Q := by
  unfold Zi
  refine Z_iload_n (a := 1) (q := 61) (by decide +kernel) rfl rfl ?_
  refine Z_iload_n (a := 2) (q := 62) (by decide +kernel) rfl rfl ?_
  refine Z_icmp_ne (t := 71) (off := 9) (q := 65) (by decide +kernel) (by decide) rfl (fun hc => ?_) (fun hc => ?_)
  · replace h := h.1 hc
    refine Z_aload_n (a := 0) (q := 72) (by decide +kernel) rfl rfl ?_
    obtain ⟨Q1, hm, h⟩ := h
    refine Z_callVv (M2 := mX11_remembers) (idx := 365) (d2 := d) (ci := 11) (As := []) (q := 75) (by decide +kernel) kX11_remembers lX11_365 rfl rfl (by decide) rfl rfl (by decide +kernel) (Nat.le_of_ble_eq_true rfl) (Nat.le_refl _) hm rfl (fun iv2 rv3 lv4 hq => ?_)
    obtain ⟨hT5, h⟩ := h iv2 rv3 lv4 hq
    refine Z_iload_n (a := 3) (q := 76) (by decide +kernel) rfl rfl ?_
    refine Z_iconst (a := -1) (v := -1) (q := 77) (by decide +kernel) (by decide +kernel) rfl ?_
    refine Z_icmp_eq (t := 88) (off := 11) (q := 80) (by decide +kernel) (by decide) rfl (fun hc => ?_) (fun hc => ?_)
    · replace h := h.1 hc
      refine Z_aload_n (a := 0) (q := 89) (by decide +kernel) rfl rfl ?_
      refine g11_14 (idx := 17) (q := 92) (by decide +kernel) fX11_17 rfl (by decide) (t11_14 hT5) rfl ?_
      refine Z_bipush (a := 23) (v := 23) (q := 94) (by decide +kernel) (by decide +kernel) rfl ?_
      refine Z_iconst (a := 2) (v := 2) (q := 95) (by decide +kernel) (by decide +kernel) rfl ?_
      refine Z_aload_n (a := 0) (q := 96) (by decide +kernel) rfl rfl ?_
      refine g11_14 (idx := 17) (q := 99) (by decide +kernel) fX11_17 rfl (by decide) (t11_14 hT5) rfl ?_
      refine Z_bipush (a := 22) (v := 22) (q := 101) (by decide +kernel) (by decide +kernel) rfl ?_
      refine Z_iald (len := 35) (q := 102) (by decide +kernel) rfl (by decide) (by unfold vp_in; decide) rfl ?_
      refine Z_imul (q := 103) (by decide +kernel) rfl ?_
      refine Z_iadd (q := 104) (by decide +kernel) rfl ?_
      refine Z_iload_n (a := 1) (q := 105) (by decide +kernel) rfl rfl ?_
      obtain ⟨hin7, h⟩ := h
      refine Z_iast (len := 35) (q := 106) (by decide +kernel) rfl (by decide) hin7 rfl ?_
      replace h := h _ rfl
      refine Z_aload_n (a := 0) (q := 107) (by decide +kernel) rfl rfl ?_
      refine g11_14 (idx := 17) (q := 110) (by decide +kernel) fX11_17 rfl (by decide) (t11_14 hT5) rfl ?_
      refine Z_bipush (a := 23) (v := 23) (q := 112) (by decide +kernel) (by decide +kernel) rfl ?_
      refine Z_iconst (a := 2) (v := 2) (q := 113) (by decide +kernel) (by decide +kernel) rfl ?_
      refine Z_aload_n (a := 0) (q := 114) (by decide +kernel) rfl rfl ?_
      refine g11_14 (idx := 17) (q := 117) (by decide +kernel) fX11_17 rfl (by decide) (t11_14 hT5) rfl ?_
      refine Z_bipush (a := 22) (v := 22) (q := 119) (by decide +kernel) (by decide +kernel) rfl ?_
      refine Z_iald (len := 35) (q := 120) (by decide +kernel) rfl (by decide) (by unfold vp_in; decide) rfl ?_
      refine Z_imul (q := 121) (by decide +kernel) rfl ?_
      refine Z_iadd (q := 122) (by decide +kernel) rfl ?_
      refine Z_iconst (a := 1) (v := 1) (q := 123) (by decide +kernel) (by decide +kernel) rfl ?_
      refine Z_iadd (q := 124) (by decide +kernel) rfl ?_
      refine Z_iload_n (a := 2) (q := 125) (by decide +kernel) rfl rfl ?_
      obtain ⟨hin9, h⟩ := h
      refine Z_iast (len := 35) (q := 126) (by decide +kernel) rfl (by decide) hin9 rfl ?_
      replace h := h _ rfl
      refine Z_aload_n (a := 0) (q := 127) (by decide +kernel) rfl rfl ?_
      refine g11_14 (idx := 17) (q := 130) (by decide +kernel) fX11_17 rfl (by decide) (t11_14 hT5) rfl ?_
      refine Z_bipush (a := 22) (v := 22) (q := 132) (by decide +kernel) (by decide +kernel) rfl ?_
      refine Z_dup2 (q := 133) (by decide +kernel) rfl rfl rfl ?_
      refine Z_iald (len := 35) (q := 134) (by decide +kernel) rfl (by decide) (by unfold vp_in; decide) rfl ?_
      refine Z_iconst (a := 1) (v := 1) (q := 135) (by decide +kernel) (by decide +kernel) rfl ?_
      refine Z_iadd (q := 136) (by decide +kernel) rfl ?_
      refine Z_iast (len := 35) (q := 137) (by decide +kernel) rfl (by decide) (by unfold vp_in; decide) rfl ?_
      replace h := h _ rfl
      refine Z_aload_n (a := 0) (q := 138) (by decide +kernel) rfl rfl ?_
      refine Z_aload_n (a := 0) (q := 139) (by decide +kernel) rfl rfl ?_
      refine g11_14 (idx := 17) (q := 142) (by decide +kernel) fX11_17 rfl (by decide) (t11_14 hT5) rfl ?_
      refine Z_bipush (a := 22) (v := 22) (q := 144) (by decide +kernel) (by decide +kernel) rfl ?_
      refine Z_iald (len := 35) (q := 145) (by decide +kernel) rfl (by decide) (by unfold vp_in; decide) rfl ?_
      obtain ⟨Q12, hm, h⟩ := h
      refine Z_callVi (M2 := mX11_good) (idx := 214) (d2 := d) (ci := 11) (As := [.int _]) (q := 148) (by decide +kernel) kX11_good lX11_214 rfl rfl (by decide) rfl rfl (by decide +kernel) (Nat.le_of_ble_eq_true rfl) (Nat.le_refl _) hm rfl (fun v17 iv13 rv14 lv15 hq => ?_)
      obtain ⟨hT16, h⟩ := h v17 iv13 rv14 lv15 hq
      exact Z_iret (ty := .int) (by decide +kernel) rfl rfl rfl ⟨_, rfl, h⟩
    · replace h := h.2 hc
      refine Z_aload_n (a := 0) (q := 81) (by decide +kernel) rfl rfl ?_
      refine Z_iload_n (a := 3) (q := 82) (by decide +kernel) rfl rfl ?_
      obtain ⟨Q18, hm, h⟩ := h
      refine Z_callVv (M2 := mX11_parts) (idx := 368) (d2 := d) (ci := 11) (As := [.int _]) (q := 85) (by decide +kernel) kX11_parts lX11_368 rfl rfl (by decide) rfl rfl (by decide +kernel) (Nat.le_of_ble_eq_true rfl) (Nat.le_refl _) hm rfl (fun iv19 rv20 lv21 hq => ?_)
      obtain ⟨hT22, h⟩ := h iv19 rv20 lv21 hq
      refine Z_goto (q := 137) (off := 52) (by decide +kernel) (by decide) ?_
      refine Z_aload_n (a := 0) (q := 138) (by decide +kernel) rfl rfl ?_
      refine Z_aload_n (a := 0) (q := 139) (by decide +kernel) rfl rfl ?_
      refine g11_14 (idx := 17) (q := 142) (by decide +kernel) fX11_17 rfl (by decide) (t11_14 hT22) rfl ?_
      refine Z_bipush (a := 22) (v := 22) (q := 144) (by decide +kernel) (by decide +kernel) rfl ?_
      refine Z_iald (len := 35) (q := 145) (by decide +kernel) rfl (by decide) (by unfold vp_in; decide) rfl ?_
      obtain ⟨Q24, hm, h⟩ := h
      refine Z_callVi (M2 := mX11_good) (idx := 214) (d2 := d) (ci := 11) (As := [.int _]) (q := 148) (by decide +kernel) kX11_good lX11_214 rfl rfl (by decide) rfl rfl (by decide +kernel) (Nat.le_of_ble_eq_true rfl) (Nat.le_refl _) hm rfl (fun v29 iv25 rv26 lv27 hq => ?_)
      obtain ⟨hT28, h⟩ := h v29 iv25 rv26 lv27 hq
      exact Z_iret (ty := .int) (by decide +kernel) rfl rfl rfl ⟨_, rfl, h⟩
  · replace h := h.2 hc
    refine Z_aload_n (a := 0) (q := 66) (by decide +kernel) rfl rfl ?_
    refine Z_iconst (a := 5) (v := 5) (q := 67) (by decide +kernel) (by decide +kernel) rfl ?_
    obtain ⟨Q30, hm, h⟩ := h
    refine Z_callVi (M2 := mX11_refused) (idx := 201) (d2 := d) (ci := 11) (As := [.int _]) (q := 70) (by decide +kernel) kX11_refused lX11_201 rfl rfl (by decide) rfl rfl (by decide +kernel) (Nat.le_of_ble_eq_true rfl) (Nat.le_refl _) hm rfl (fun v35 iv31 rv32 lv33 hq => ?_)
    obtain ⟨hT34, h⟩ := h v35 iv31 rv32 lv33 hq
    exact Z_iret (ty := .int) (by decide +kernel) rfl rfl rfl ⟨_, rfl, h⟩
theorem eX11_sort {d : Nat}  {iv : zI} {rv : zR} {lv : zJ} {Q : Int32 → zI → zR → zJ → Prop} (h : Zi mX11_sort (d + 1) 0 [some (.ref 174), none, none, none] [] iv rv lv Q) : Ci mX11_sort (d + 1) [.ref 174] iv rv lv Q := Ci.of (by decide +kernel) (by simp [Value.category]) (Nat.le_of_ble_eq_true rfl) rfl h
set_option maxRecDepth 4000 in
theorem bX11_sort_0 {d : Nat}  {iv : zI} {rv : zR} {lv : zJ} {Q : Int32 → zI → zR → zJ → Prop} (hT : zTop rv) 
    (h : ∀ iv1 : zI, iv1 = zu iv 174 0 (0 : Int32) → (¬ (iv1 174 19) = 0 → ∃ Q2 : zI → zR → zJ → Prop, Cv mX11_remembers d [.ref 174] iv1 rv lv Q2 ∧ ∀ (iv3 : zI) (rv4 : zR) (lv5 : zJ), Q2 iv3 rv4 lv5 → zTop rv4 ∧ (Zi mX11_sort (d + 1) 26 [some (.ref 174), some (.int (0 : Int32)), some (.int (0 : Int32)), none] [] iv3 rv4 lv5 Q)) ∧ ((iv1 174 19) = 0 → ∃ Q8 : Int32 → zI → zR → zJ → Prop, Ci mX11_refused d [.ref 174, .int (1 : Int32)] iv1 rv lv Q8 ∧ ∀ (v13 : Int32) (iv9 : zI) (rv10 : zR) (lv11 : zJ), Q8 v13 iv9 rv10 lv11 → zTop rv10 ∧ (Q v13 iv9 rv10 lv11))) :
    Zi mX11_sort (d + 1) 0 [some (.ref 174), none, none, none] [] iv rv lv Q := by
  unfold Zi
  refine Z_aload_n (a := 0) (q := 1) (by decide +kernel) rfl rfl ?_
  refine Z_iconst (a := 0) (v := 0) (q := 2) (by decide +kernel) (by decide +kernel) rfl ?_
  refine p11_0 (idx := 87) (q := 5) (by decide +kernel) fX11_87 rfl (by decide) rfl ?_
  replace h := h _ rfl
  refine Z_aload_n (a := 0) (q := 6) (by decide +kernel) rfl rfl ?_
  refine g11_19 (idx := 211) (q := 9) (by decide +kernel) fX11_211 rfl (by decide) rfl ?_
  refine Z_if_ne (t := 18) (off := 9) (q := 12) (by decide +kernel) (by decide) rfl (fun hc => ?_) (fun hc => ?_)
  · replace h := h.1 hc
    refine Z_aload_n (a := 0) (q := 19) (by decide +kernel) rfl rfl ?_
    obtain ⟨Q2, hm, h⟩ := h
    refine Z_callVv (M2 := mX11_remembers) (idx := 365) (d2 := d) (ci := 11) (As := []) (q := 22) (by decide +kernel) kX11_remembers lX11_365 rfl rfl (by decide) rfl rfl (by decide +kernel) (Nat.le_of_ble_eq_true rfl) (Nat.le_refl _) hm rfl (fun iv3 rv4 lv5 hq => ?_)
    obtain ⟨hT6, h⟩ := h iv3 rv4 lv5 hq
    refine Z_iconst (a := 0) (v := 0) (q := 23) (by decide +kernel) (by decide +kernel) rfl ?_
    refine Z_istore_n (a := 1) (loc2 := [_, _, _, _]) (q := 24) (by decide +kernel) (by decide +kernel) rfl rfl rfl ?_
    refine Z_iconst (a := 0) (v := 0) (q := 25) (by decide +kernel) (by decide +kernel) rfl ?_
    refine Z_istore_n (a := 2) (loc2 := [_, _, _, _]) (q := 26) (by decide +kernel) (by decide +kernel) rfl rfl rfl ?_
    exact h
  · replace h := h.2 hc
    refine Z_aload_n (a := 0) (q := 13) (by decide +kernel) rfl rfl ?_
    refine Z_iconst (a := 1) (v := 1) (q := 14) (by decide +kernel) (by decide +kernel) rfl ?_
    obtain ⟨Q8, hm, h⟩ := h
    refine Z_callVi (M2 := mX11_refused) (idx := 201) (d2 := d) (ci := 11) (As := [.int _]) (q := 17) (by decide +kernel) kX11_refused lX11_201 rfl rfl (by decide) rfl rfl (by decide +kernel) (Nat.le_of_ble_eq_true rfl) (Nat.le_refl _) hm rfl (fun v13 iv9 rv10 lv11 hq => ?_)
    obtain ⟨hT12, h⟩ := h v13 iv9 rv10 lv11 hq
    exact Z_iret (ty := .int) (by decide +kernel) rfl rfl rfl ⟨_, rfl, h⟩
set_option maxRecDepth 4000 in
theorem bX11_sort_26 {d : Nat} (x1 : Int32) (x2 : Int32) {iv : zI} {rv : zR} {lv : zJ} {Q : Int32 → zI → zR → zJ → Prop} (hT : zTop rv) 
    (h : ((35 : Int32) ≤ x2 → Zi mX11_sort (d + 1) 52 [some (.ref 174), some (.int x1), some (.int (0 : Int32)), none] [] iv rv lv Q) ∧ (¬ (35 : Int32) ≤ x2 → vp_in x2 35 ∧ (∀ iv2 : zI, iv2 = zu iv 197 x2.toNatClampNeg (iv 176 x2.toNatClampNeg) → Zi mX11_sort (d + 1) 26 [some (.ref 174), some (.int x1), some (.int (x2 + 1)), none] [] iv2 rv lv Q))) :
    Zi mX11_sort (d + 1) 26 [some (.ref 174), some (.int x1), some (.int x2), none] [] iv rv lv Q := by
  unfold Zi
  refine Z_iload_n (a := 2) (q := 27) (by decide +kernel) rfl rfl ?_
  refine Z_bipush (a := 35) (v := 35) (q := 29) (by decide +kernel) (by decide +kernel) rfl ?_
  refine Z_icmp_ge (t := 50) (off := 21) (q := 32) (by decide +kernel) (by decide) rfl (fun hc => ?_) (fun hc => ?_)
  · replace h := h.1 hc
    refine Z_iconst (a := 0) (v := 0) (q := 51) (by decide +kernel) (by decide +kernel) rfl ?_
    refine Z_istore_n (a := 2) (loc2 := [_, _, _, _]) (q := 52) (by decide +kernel) (by decide +kernel) rfl rfl rfl ?_
    exact h
  · replace h := h.2 hc
    refine Z_aload_n (a := 0) (q := 33) (by decide +kernel) rfl rfl ?_
    refine g11_49 (idx := 81) (q := 36) (by decide +kernel) fX11_81 rfl (by decide) (t11_49 hT) rfl ?_
    refine Z_iload_n (a := 2) (q := 37) (by decide +kernel) rfl rfl ?_
    refine Z_aload_n (a := 0) (q := 38) (by decide +kernel) rfl rfl ?_
    refine g11_14 (idx := 17) (q := 41) (by decide +kernel) fX11_17 rfl (by decide) (t11_14 hT) rfl ?_
    refine Z_iload_n (a := 2) (q := 42) (by decide +kernel) rfl rfl ?_
    obtain ⟨hin1, h⟩ := h
    refine Z_iald (len := 35) (q := 43) (by decide +kernel) rfl (by decide) hin1 rfl ?_
    refine Z_iast (len := 35) (q := 44) (by decide +kernel) rfl (by decide) hin1 rfl ?_
    replace h := h _ rfl
    refine Z_iinc (a := 2) (b := 1) (v := _ + 1) (loc2 := [_, _, _, _]) (q := 47) (by decide +kernel) rfl (zinc _) (by decide +kernel) rfl rfl rfl ?_
    refine Z_goto (q := 26) (off := -21) (by decide +kernel) (by decide) ?_
    exact h
set_option maxRecDepth 4000 in
theorem bX11_sort_52 {d : Nat} (x1 : Int32) (x2 : Int32) {iv : zI} {rv : zR} {lv : zJ} {Q : Int32 → zI → zR → zJ → Prop} (hT : zTop rv) 
    (h : ((iv 176 0) ≤ x2 → Zi mX11_sort (d + 1) 120 [some (.ref 174), some (.int x1), some (.int (0 : Int32)), none] [] iv rv lv Q) ∧ (¬ (iv 176 0) ≤ x2 → ∃ Q1 : Int32 → zI → zR → zJ → Prop, Ci mX11_rank d [.ref 174, .int x2] iv rv lv Q1 ∧ ∀ (v6 : Int32) (iv2 : zI) (rv3 : zR) (lv4 : zJ), Q1 v6 iv2 rv3 lv4 → zTop rv3 ∧ (∃ Q7 : Int32 → zI → zR → zJ → Prop, Ci mX11_value d [.ref 174, .int x2] iv2 rv3 lv4 Q7 ∧ ∀ (v12 : Int32) (iv8 : zI) (rv9 : zR) (lv10 : zJ), Q7 v12 iv8 rv9 lv10 → zTop rv9 ∧ (vp_in ((2 : Int32) + v6) 35 ∧ (∀ iv14 : zI, iv14 = zu iv8 197 ((2 : Int32) + v6).toNatClampNeg v12 → vp_in ((12 : Int32) + x2) 35 ∧ (vp_in ((12 : Int32) + v6) 35 ∧ (∀ iv17 : zI, iv17 = zu iv14 197 ((12 : Int32) + v6).toNatClampNeg (iv14 176 ((12 : Int32) + x2).toNatClampNeg) → (¬ v6 = x2 → Zi mX11_sort (d + 1) 52 [some (.ref 174), some (.int (x1 + (1 : Int32))), some (.int (x2 + 1)), none] [] iv17 rv9 lv10 Q) ∧ (v6 = x2 → Zi mX11_sort (d + 1) 52 [some (.ref 174), some (.int (x1 + (0 : Int32))), some (.int (x2 + 1)), none] [] iv17 rv9 lv10 Q)))))))) :
    Zi mX11_sort (d + 1) 52 [some (.ref 174), some (.int x1), some (.int x2), none] [] iv rv lv Q := by
  unfold Zi
  refine Z_iload_n (a := 2) (q := 53) (by decide +kernel) rfl rfl ?_
  refine Z_aload_n (a := 0) (q := 54) (by decide +kernel) rfl rfl ?_
  refine g11_14 (idx := 17) (q := 57) (by decide +kernel) fX11_17 rfl (by decide) (t11_14 hT) rfl ?_
  refine Z_iconst (a := 0) (v := 0) (q := 58) (by decide +kernel) (by decide +kernel) rfl ?_
  refine Z_iald (len := 35) (q := 59) (by decide +kernel) rfl (by decide) (by unfold vp_in; decide) rfl ?_
  refine Z_icmp_ge (t := 118) (off := 59) (q := 62) (by decide +kernel) (by decide) rfl (fun hc => ?_) (fun hc => ?_)
  · replace h := h.1 hc
    refine Z_iconst (a := 0) (v := 0) (q := 119) (by decide +kernel) (by decide +kernel) rfl ?_
    refine Z_istore_n (a := 2) (loc2 := [_, _, _, _]) (q := 120) (by decide +kernel) (by decide +kernel) rfl rfl rfl ?_
    exact h
  · replace h := h.2 hc
    refine Z_aload_n (a := 0) (q := 63) (by decide +kernel) rfl rfl ?_
    refine Z_iload_n (a := 2) (q := 64) (by decide +kernel) rfl rfl ?_
    obtain ⟨Q1, hm, h⟩ := h
    refine Z_callVi (M2 := mX11_rank) (idx := 220) (d2 := d) (ci := 11) (As := [.int _]) (q := 67) (by decide +kernel) kX11_rank lX11_220 rfl rfl (by decide) rfl rfl (by decide +kernel) (Nat.le_of_ble_eq_true rfl) (Nat.le_refl _) hm rfl (fun v6 iv2 rv3 lv4 hq => ?_)
    obtain ⟨hT5, h⟩ := h v6 iv2 rv3 lv4 hq
    refine Z_istore_n (a := 3) (loc2 := [_, _, _, _]) (q := 68) (by decide +kernel) (by decide +kernel) rfl rfl rfl ?_
    refine Z_aload_n (a := 0) (q := 69) (by decide +kernel) rfl rfl ?_
    refine g11_49 (idx := 81) (q := 72) (by decide +kernel) fX11_81 rfl (by decide) (t11_49 hT5) rfl ?_
    refine Z_iconst (a := 2) (v := 2) (q := 73) (by decide +kernel) (by decide +kernel) rfl ?_
    refine Z_iload_n (a := 3) (q := 74) (by decide +kernel) rfl rfl ?_
    refine Z_iadd (q := 75) (by decide +kernel) rfl ?_
    refine Z_aload_n (a := 0) (q := 76) (by decide +kernel) rfl rfl ?_
    refine Z_iload_n (a := 2) (q := 77) (by decide +kernel) rfl rfl ?_
    obtain ⟨Q7, hm, h⟩ := h
    refine Z_callVi (M2 := mX11_value) (idx := 217) (d2 := d) (ci := 11) (As := [.int _]) (q := 80) (by decide +kernel) kX11_value lX11_217 rfl rfl (by decide) rfl rfl (by decide +kernel) (Nat.le_of_ble_eq_true rfl) (Nat.le_refl _) hm rfl (fun v12 iv8 rv9 lv10 hq => ?_)
    obtain ⟨hT11, h⟩ := h v12 iv8 rv9 lv10 hq
    obtain ⟨hin13, h⟩ := h
    refine Z_iast (len := 35) (q := 81) (by decide +kernel) rfl (by decide) hin13 rfl ?_
    replace h := h _ rfl
    refine Z_aload_n (a := 0) (q := 82) (by decide +kernel) rfl rfl ?_
    refine g11_49 (idx := 81) (q := 85) (by decide +kernel) fX11_81 rfl (by decide) (t11_49 hT11) rfl ?_
    refine Z_bipush (a := 12) (v := 12) (q := 87) (by decide +kernel) (by decide +kernel) rfl ?_
    refine Z_iload_n (a := 3) (q := 88) (by decide +kernel) rfl rfl ?_
    refine Z_iadd (q := 89) (by decide +kernel) rfl ?_
    refine Z_aload_n (a := 0) (q := 90) (by decide +kernel) rfl rfl ?_
    refine g11_14 (idx := 17) (q := 93) (by decide +kernel) fX11_17 rfl (by decide) (t11_14 hT11) rfl ?_
    refine Z_bipush (a := 12) (v := 12) (q := 95) (by decide +kernel) (by decide +kernel) rfl ?_
    refine Z_iload_n (a := 2) (q := 96) (by decide +kernel) rfl rfl ?_
    refine Z_iadd (q := 97) (by decide +kernel) rfl ?_
    obtain ⟨hin15, h⟩ := h
    refine Z_iald (len := 35) (q := 98) (by decide +kernel) rfl (by decide) hin15 rfl ?_
    obtain ⟨hin16, h⟩ := h
    refine Z_iast (len := 35) (q := 99) (by decide +kernel) rfl (by decide) hin16 rfl ?_
    replace h := h _ rfl
    refine Z_iload_n (a := 1) (q := 100) (by decide +kernel) rfl rfl ?_
    refine Z_iload_n (a := 3) (q := 101) (by decide +kernel) rfl rfl ?_
    refine Z_iload_n (a := 2) (q := 102) (by decide +kernel) rfl rfl ?_
    refine Z_icmp_ne (t := 109) (off := 7) (q := 105) (by decide +kernel) (by decide) rfl (fun hc => ?_) (fun hc => ?_)
    · replace h := h.1 hc
      refine Z_iconst (a := 1) (v := 1) (q := 110) (by decide +kernel) (by decide +kernel) rfl ?_
      refine Z_iadd (q := 111) (by decide +kernel) rfl ?_
      refine Z_istore_n (a := 1) (loc2 := [_, _, _, _]) (q := 112) (by decide +kernel) (by decide +kernel) rfl rfl rfl ?_
      refine Z_iinc (a := 2) (b := 1) (v := _ + 1) (loc2 := [_, _, _, _]) (q := 115) (by decide +kernel) rfl (zinc _) (by decide +kernel) rfl rfl rfl ?_
      refine Z_goto (q := 52) (off := -63) (by decide +kernel) (by decide) ?_
      exact Z_forget h (And.intro rfl (And.intro rfl (And.intro rfl trivial)))
    · replace h := h.2 hc
      refine Z_iconst (a := 0) (v := 0) (q := 106) (by decide +kernel) (by decide +kernel) rfl ?_
      refine Z_goto (q := 110) (off := 4) (by decide +kernel) (by decide) ?_
      refine Z_iadd (q := 111) (by decide +kernel) rfl ?_
      refine Z_istore_n (a := 1) (loc2 := [_, _, _, _]) (q := 112) (by decide +kernel) (by decide +kernel) rfl rfl rfl ?_
      refine Z_iinc (a := 2) (b := 1) (v := _ + 1) (loc2 := [_, _, _, _]) (q := 115) (by decide +kernel) rfl (zinc _) (by decide +kernel) rfl rfl rfl ?_
      refine Z_goto (q := 52) (off := -63) (by decide +kernel) (by decide) ?_
      exact Z_forget h (And.intro rfl (And.intro rfl (And.intro rfl trivial)))
set_option maxRecDepth 4000 in
theorem bX11_sort_120 {d : Nat} (x1 : Int32) (x2 : Int32) {iv : zI} {rv : zR} {lv : zJ} {Q : Int32 → zI → zR → zJ → Prop} (hT : zTop rv) 
    (h : (((2 : Int32) * (iv 176 22)) ≤ x2 → Zi mX11_sort (d + 1) 163 [some (.ref 174), some (.int x1), some (.int (0 : Int32)), none] [] iv rv lv Q) ∧ (¬ ((2 : Int32) * (iv 176 22)) ≤ x2 → vp_in ((23 : Int32) + x2) 35 ∧ (∃ Q2 : Int32 → zI → zR → zJ → Prop, Ci mX11_rank d [.ref 174, .int (iv 176 ((23 : Int32) + x2).toNatClampNeg)] iv rv lv Q2 ∧ ∀ (v7 : Int32) (iv3 : zI) (rv4 : zR) (lv5 : zJ), Q2 v7 iv3 rv4 lv5 → zTop rv4 ∧ (∀ iv8 : zI, iv8 = zu iv3 197 ((23 : Int32) + x2).toNatClampNeg v7 → Zi mX11_sort (d + 1) 120 [some (.ref 174), some (.int x1), some (.int (x2 + 1)), none] [] iv8 rv4 lv5 Q)))) :
    Zi mX11_sort (d + 1) 120 [some (.ref 174), some (.int x1), some (.int x2), none] [] iv rv lv Q := by
  unfold Zi
  refine Z_iload_n (a := 2) (q := 121) (by decide +kernel) rfl rfl ?_
  refine Z_iconst (a := 2) (v := 2) (q := 122) (by decide +kernel) (by decide +kernel) rfl ?_
  refine Z_aload_n (a := 0) (q := 123) (by decide +kernel) rfl rfl ?_
  refine g11_14 (idx := 17) (q := 126) (by decide +kernel) fX11_17 rfl (by decide) (t11_14 hT) rfl ?_
  refine Z_bipush (a := 22) (v := 22) (q := 128) (by decide +kernel) (by decide +kernel) rfl ?_
  refine Z_iald (len := 35) (q := 129) (by decide +kernel) rfl (by decide) (by unfold vp_in; decide) rfl ?_
  refine Z_imul (q := 130) (by decide +kernel) rfl ?_
  refine Z_icmp_ge (t := 161) (off := 31) (q := 133) (by decide +kernel) (by decide) rfl (fun hc => ?_) (fun hc => ?_)
  · replace h := h.1 hc
    refine Z_iconst (a := 0) (v := 0) (q := 162) (by decide +kernel) (by decide +kernel) rfl ?_
    refine Z_istore_n (a := 2) (loc2 := [_, _, _, _]) (q := 163) (by decide +kernel) (by decide +kernel) rfl rfl rfl ?_
    exact h
  · replace h := h.2 hc
    refine Z_aload_n (a := 0) (q := 134) (by decide +kernel) rfl rfl ?_
    refine g11_49 (idx := 81) (q := 137) (by decide +kernel) fX11_81 rfl (by decide) (t11_49 hT) rfl ?_
    refine Z_bipush (a := 23) (v := 23) (q := 139) (by decide +kernel) (by decide +kernel) rfl ?_
    refine Z_iload_n (a := 2) (q := 140) (by decide +kernel) rfl rfl ?_
    refine Z_iadd (q := 141) (by decide +kernel) rfl ?_
    refine Z_aload_n (a := 0) (q := 142) (by decide +kernel) rfl rfl ?_
    refine Z_aload_n (a := 0) (q := 143) (by decide +kernel) rfl rfl ?_
    refine g11_14 (idx := 17) (q := 146) (by decide +kernel) fX11_17 rfl (by decide) (t11_14 hT) rfl ?_
    refine Z_bipush (a := 23) (v := 23) (q := 148) (by decide +kernel) (by decide +kernel) rfl ?_
    refine Z_iload_n (a := 2) (q := 149) (by decide +kernel) rfl rfl ?_
    refine Z_iadd (q := 150) (by decide +kernel) rfl ?_
    obtain ⟨hin1, h⟩ := h
    refine Z_iald (len := 35) (q := 151) (by decide +kernel) rfl (by decide) hin1 rfl ?_
    obtain ⟨Q2, hm, h⟩ := h
    refine Z_callVi (M2 := mX11_rank) (idx := 220) (d2 := d) (ci := 11) (As := [.int _]) (q := 154) (by decide +kernel) kX11_rank lX11_220 rfl rfl (by decide) rfl rfl (by decide +kernel) (Nat.le_of_ble_eq_true rfl) (Nat.le_refl _) hm rfl (fun v7 iv3 rv4 lv5 hq => ?_)
    obtain ⟨hT6, h⟩ := h v7 iv3 rv4 lv5 hq
    refine Z_iast (len := 35) (q := 155) (by decide +kernel) rfl (by decide) hin1 rfl ?_
    replace h := h _ rfl
    refine Z_iinc (a := 2) (b := 1) (v := _ + 1) (loc2 := [_, _, _, _]) (q := 158) (by decide +kernel) rfl (zinc _) (by decide +kernel) rfl rfl rfl ?_
    refine Z_goto (q := 120) (off := -38) (by decide +kernel) (by decide) ?_
    exact h
set_option maxRecDepth 4000 in
theorem bX11_sort_163 {d : Nat} (x1 : Int32) (x2 : Int32) {iv : zI} {rv : zR} {lv : zJ} {Q : Int32 → zI → zR → zJ → Prop} (hT : zTop rv) 
    (h : ((35 : Int32) ≤ x2 → ∃ Q1 : Int32 → zI → zR → zJ → Prop, Ci mX11_good d [.ref 174, .int x1] iv rv lv Q1 ∧ ∀ (v6 : Int32) (iv2 : zI) (rv3 : zR) (lv4 : zJ), Q1 v6 iv2 rv3 lv4 → zTop rv3 ∧ (Q v6 iv2 rv3 lv4)) ∧ (¬ (35 : Int32) ≤ x2 → vp_in x2 35 ∧ (∀ iv8 : zI, iv8 = zu iv 176 x2.toNatClampNeg (iv 197 x2.toNatClampNeg) → Zi mX11_sort (d + 1) 163 [some (.ref 174), some (.int x1), some (.int (x2 + 1)), none] [] iv8 rv lv Q))) :
    Zi mX11_sort (d + 1) 163 [some (.ref 174), some (.int x1), some (.int x2), none] [] iv rv lv Q := by
  unfold Zi
  refine Z_iload_n (a := 2) (q := 164) (by decide +kernel) rfl rfl ?_
  refine Z_bipush (a := 35) (v := 35) (q := 166) (by decide +kernel) (by decide +kernel) rfl ?_
  refine Z_icmp_ge (t := 187) (off := 21) (q := 169) (by decide +kernel) (by decide) rfl (fun hc => ?_) (fun hc => ?_)
  · replace h := h.1 hc
    refine Z_aload_n (a := 0) (q := 188) (by decide +kernel) rfl rfl ?_
    refine Z_iload_n (a := 1) (q := 189) (by decide +kernel) rfl rfl ?_
    obtain ⟨Q1, hm, h⟩ := h
    refine Z_callVi (M2 := mX11_good) (idx := 214) (d2 := d) (ci := 11) (As := [.int _]) (q := 192) (by decide +kernel) kX11_good lX11_214 rfl rfl (by decide) rfl rfl (by decide +kernel) (Nat.le_of_ble_eq_true rfl) (Nat.le_refl _) hm rfl (fun v6 iv2 rv3 lv4 hq => ?_)
    obtain ⟨hT5, h⟩ := h v6 iv2 rv3 lv4 hq
    exact Z_iret (ty := .int) (by decide +kernel) rfl rfl rfl ⟨_, rfl, h⟩
  · replace h := h.2 hc
    refine Z_aload_n (a := 0) (q := 170) (by decide +kernel) rfl rfl ?_
    refine g11_14 (idx := 17) (q := 173) (by decide +kernel) fX11_17 rfl (by decide) (t11_14 hT) rfl ?_
    refine Z_iload_n (a := 2) (q := 174) (by decide +kernel) rfl rfl ?_
    refine Z_aload_n (a := 0) (q := 175) (by decide +kernel) rfl rfl ?_
    refine g11_49 (idx := 81) (q := 178) (by decide +kernel) fX11_81 rfl (by decide) (t11_49 hT) rfl ?_
    refine Z_iload_n (a := 2) (q := 179) (by decide +kernel) rfl rfl ?_
    obtain ⟨hin7, h⟩ := h
    refine Z_iald (len := 35) (q := 180) (by decide +kernel) rfl (by decide) hin7 rfl ?_
    refine Z_iast (len := 35) (q := 181) (by decide +kernel) rfl (by decide) hin7 rfl ?_
    replace h := h _ rfl
    refine Z_iinc (a := 2) (b := 1) (v := _ + 1) (loc2 := [_, _, _, _]) (q := 184) (by decide +kernel) rfl (zinc _) (by decide +kernel) rfl rfl rfl ?_
    refine Z_goto (q := 163) (off := -21) (by decide +kernel) (by decide) ?_
    exact h
theorem eX11_heaps {d : Nat} (x1 : Int32) {iv : zI} {rv : zR} {lv : zJ} {Q : Int32 → zI → zR → zJ → Prop} (h : Zi mX11_heaps (d + 1) 0 [some (.ref 174), some (.int x1)] [] iv rv lv Q) : Ci mX11_heaps (d + 1) [.ref 174, .int x1] iv rv lv Q := Ci.of (by decide +kernel) (by simp [Value.category]) (Nat.le_of_ble_eq_true rfl) rfl h
set_option maxRecDepth 4000 in
theorem bX11_heaps_0 {d : Nat} (x1 : Int32) {iv : zI} {rv : zR} {lv : zJ} {Q : Int32 → zI → zR → zJ → Prop} (hT : zTop rv) 
    (h : ∀ iv1 : zI, iv1 = zu iv 174 0 (0 : Int32) → (¬ (iv1 174 19) = 0 → ∃ Q2 : Int32 → zI → zR → zJ → Prop, Ci mX11_isK d [.int x1] iv1 rv lv Q2 ∧ ∀ (v7 : Int32) (iv3 : zI) (rv4 : zR) (lv5 : zJ), Q2 v7 iv3 rv4 lv5 → zTop rv4 ∧ ((v7 = 0 → ∃ Q8 : Int32 → zI → zR → zJ → Prop, Ci mX11_refused d [.ref 174, .int (2 : Int32)] iv3 rv4 lv5 Q8 ∧ ∀ (v13 : Int32) (iv9 : zI) (rv10 : zR) (lv11 : zJ), Q8 v13 iv9 rv10 lv11 → zTop rv10 ∧ (Q v13 iv9 rv10 lv11)) ∧ (¬ v7 = 0 → ∃ Q14 : Int32 → zI → zR → zJ → Prop, Ci mX11_changes d [.ref 174, .int (1 : Int32), .int x1] iv3 rv4 lv5 Q14 ∧ ∀ (v19 : Int32) (iv15 : zI) (rv16 : zR) (lv17 : zJ), Q14 v19 iv15 rv16 lv17 → zTop rv16 ∧ (∃ Q20 : Int32 → zI → zR → zJ → Prop, Ci mX11_good d [.ref 174, .int v19] iv15 rv16 lv17 Q20 ∧ ∀ (v25 : Int32) (iv21 : zI) (rv22 : zR) (lv23 : zJ), Q20 v25 iv21 rv22 lv23 → zTop rv22 ∧ (Q v25 iv21 rv22 lv23))))) ∧ ((iv1 174 19) = 0 → ∃ Q26 : Int32 → zI → zR → zJ → Prop, Ci mX11_refused d [.ref 174, .int (1 : Int32)] iv1 rv lv Q26 ∧ ∀ (v31 : Int32) (iv27 : zI) (rv28 : zR) (lv29 : zJ), Q26 v31 iv27 rv28 lv29 → zTop rv28 ∧ (Q v31 iv27 rv28 lv29))) :
    Zi mX11_heaps (d + 1) 0 [some (.ref 174), some (.int x1)] [] iv rv lv Q := by
  unfold Zi
  refine Z_aload_n (a := 0) (q := 1) (by decide +kernel) rfl rfl ?_
  refine Z_iconst (a := 0) (v := 0) (q := 2) (by decide +kernel) (by decide +kernel) rfl ?_
  refine p11_0 (idx := 87) (q := 5) (by decide +kernel) fX11_87 rfl (by decide) rfl ?_
  replace h := h _ rfl
  refine Z_aload_n (a := 0) (q := 6) (by decide +kernel) rfl rfl ?_
  refine g11_19 (idx := 211) (q := 9) (by decide +kernel) fX11_211 rfl (by decide) rfl ?_
  refine Z_if_ne (t := 18) (off := 9) (q := 12) (by decide +kernel) (by decide) rfl (fun hc => ?_) (fun hc => ?_)
  · replace h := h.1 hc
    refine Z_iload_n (a := 1) (q := 19) (by decide +kernel) rfl rfl ?_
    obtain ⟨Q2, hm, h⟩ := h
    refine Z_callSi (M2 := mX11_isK) (idx := 238) (d2 := d) (As := [.int _]) (q := 22) (by decide +kernel) kX11_isK lX11_238 rfl rfl (by decide +kernel) (Nat.le_of_ble_eq_true rfl) (Nat.le_refl _) hm rfl (fun v7 iv3 rv4 lv5 hq => ?_)
    obtain ⟨hT6, h⟩ := h v7 iv3 rv4 lv5 hq
    refine Z_if_eq (t := 38) (off := 16) (q := 25) (by decide +kernel) (by decide) rfl (fun hc => ?_) (fun hc => ?_)
    · replace h := h.1 hc
      refine Z_aload_n (a := 0) (q := 39) (by decide +kernel) rfl rfl ?_
      refine Z_iconst (a := 2) (v := 2) (q := 40) (by decide +kernel) (by decide +kernel) rfl ?_
      obtain ⟨Q8, hm, h⟩ := h
      refine Z_callVi (M2 := mX11_refused) (idx := 201) (d2 := d) (ci := 11) (As := [.int _]) (q := 43) (by decide +kernel) kX11_refused lX11_201 rfl rfl (by decide) rfl rfl (by decide +kernel) (Nat.le_of_ble_eq_true rfl) (Nat.le_refl _) hm rfl (fun v13 iv9 rv10 lv11 hq => ?_)
      obtain ⟨hT12, h⟩ := h v13 iv9 rv10 lv11 hq
      exact Z_iret (ty := .int) (by decide +kernel) rfl rfl rfl ⟨_, rfl, h⟩
    · replace h := h.2 hc
      refine Z_aload_n (a := 0) (q := 26) (by decide +kernel) rfl rfl ?_
      refine Z_aload_n (a := 0) (q := 27) (by decide +kernel) rfl rfl ?_
      refine Z_iconst (a := 1) (v := 1) (q := 28) (by decide +kernel) (by decide +kernel) rfl ?_
      refine Z_iload_n (a := 1) (q := 29) (by decide +kernel) rfl rfl ?_
      obtain ⟨Q14, hm, h⟩ := h
      refine Z_callVi (M2 := mX11_changes) (idx := 371) (d2 := d) (ci := 11) (As := [.int _, .int _]) (q := 32) (by decide +kernel) kX11_changes lX11_371 rfl rfl (by decide) rfl rfl (by decide +kernel) (Nat.le_of_ble_eq_true rfl) (Nat.le_refl _) hm rfl (fun v19 iv15 rv16 lv17 hq => ?_)
      obtain ⟨hT18, h⟩ := h v19 iv15 rv16 lv17 hq
      obtain ⟨Q20, hm, h⟩ := h
      refine Z_callVi (M2 := mX11_good) (idx := 214) (d2 := d) (ci := 11) (As := [.int _]) (q := 35) (by decide +kernel) kX11_good lX11_214 rfl rfl (by decide) rfl rfl (by decide +kernel) (Nat.le_of_ble_eq_true rfl) (Nat.le_refl _) hm rfl (fun v25 iv21 rv22 lv23 hq => ?_)
      obtain ⟨hT24, h⟩ := h v25 iv21 rv22 lv23 hq
      refine Z_goto (q := 43) (off := 8) (by decide +kernel) (by decide) ?_
      exact Z_iret (ty := .int) (by decide +kernel) rfl rfl rfl ⟨_, rfl, h⟩
  · replace h := h.2 hc
    refine Z_aload_n (a := 0) (q := 13) (by decide +kernel) rfl rfl ?_
    refine Z_iconst (a := 1) (v := 1) (q := 14) (by decide +kernel) (by decide +kernel) rfl ?_
    obtain ⟨Q26, hm, h⟩ := h
    refine Z_callVi (M2 := mX11_refused) (idx := 201) (d2 := d) (ci := 11) (As := [.int _]) (q := 17) (by decide +kernel) kX11_refused lX11_201 rfl rfl (by decide) rfl rfl (by decide +kernel) (Nat.le_of_ble_eq_true rfl) (Nat.le_refl _) hm rfl (fun v31 iv27 rv28 lv29 hq => ?_)
    obtain ⟨hT30, h⟩ := h v31 iv27 rv28 lv29 hq
    exact Z_iret (ty := .int) (by decide +kernel) rfl rfl rfl ⟨_, rfl, h⟩
theorem eX11_undo {d : Nat}  {iv : zI} {rv : zR} {lv : zJ} {Q : Int32 → zI → zR → zJ → Prop} (h : Zi mX11_undo (d + 1) 0 [some (.ref 174), none] [] iv rv lv Q) : Ci mX11_undo (d + 1) [.ref 174] iv rv lv Q := Ci.of (by decide +kernel) (by simp [Value.category]) (Nat.le_of_ble_eq_true rfl) rfl h
set_option maxRecDepth 4000 in
theorem bX11_undo_0 {d : Nat}  {iv : zI} {rv : zR} {lv : zJ} {Q : Int32 → zI → zR → zJ → Prop} (hT : zTop rv) 
    (h : ∀ iv1 : zI, iv1 = zu iv 174 0 (0 : Int32) → (¬ (iv1 174 19) = 0 → (¬ (iv1 174 21) = 0 → ∀ iv2 : zI, iv2 = zu iv1 174 21 ((iv1 174 21) - (1 : Int32)) → Zi mX11_undo (d + 1) 43 [some (.ref 174), some (.int (0 : Int32))] [] iv2 rv lv Q) ∧ ((iv1 174 21) = 0 → ∃ Q3 : Int32 → zI → zR → zJ → Prop, Ci mX11_refused d [.ref 174, .int (5 : Int32)] iv1 rv lv Q3 ∧ ∀ (v8 : Int32) (iv4 : zI) (rv5 : zR) (lv6 : zJ), Q3 v8 iv4 rv5 lv6 → zTop rv5 ∧ (Q v8 iv4 rv5 lv6))) ∧ ((iv1 174 19) = 0 → ∃ Q9 : Int32 → zI → zR → zJ → Prop, Ci mX11_refused d [.ref 174, .int (1 : Int32)] iv1 rv lv Q9 ∧ ∀ (v14 : Int32) (iv10 : zI) (rv11 : zR) (lv12 : zJ), Q9 v14 iv10 rv11 lv12 → zTop rv11 ∧ (Q v14 iv10 rv11 lv12))) :
    Zi mX11_undo (d + 1) 0 [some (.ref 174), none] [] iv rv lv Q := by
  unfold Zi
  refine Z_aload_n (a := 0) (q := 1) (by decide +kernel) rfl rfl ?_
  refine Z_iconst (a := 0) (v := 0) (q := 2) (by decide +kernel) (by decide +kernel) rfl ?_
  refine p11_0 (idx := 87) (q := 5) (by decide +kernel) fX11_87 rfl (by decide) rfl ?_
  replace h := h _ rfl
  refine Z_aload_n (a := 0) (q := 6) (by decide +kernel) rfl rfl ?_
  refine g11_19 (idx := 211) (q := 9) (by decide +kernel) fX11_211 rfl (by decide) rfl ?_
  refine Z_if_ne (t := 18) (off := 9) (q := 12) (by decide +kernel) (by decide) rfl (fun hc => ?_) (fun hc => ?_)
  · replace h := h.1 hc
    refine Z_aload_n (a := 0) (q := 19) (by decide +kernel) rfl rfl ?_
    refine g11_21 (idx := 208) (q := 22) (by decide +kernel) fX11_208 rfl (by decide) rfl ?_
    refine Z_if_ne (t := 31) (off := 9) (q := 25) (by decide +kernel) (by decide) rfl (fun hc => ?_) (fun hc => ?_)
    · replace h := h.1 hc
      refine Z_aload_n (a := 0) (q := 32) (by decide +kernel) rfl rfl ?_
      refine Z_dup (q := 33) (by decide +kernel) rfl rfl ?_
      refine g11_21 (idx := 208) (q := 36) (by decide +kernel) fX11_208 rfl (by decide) rfl ?_
      refine Z_iconst (a := 1) (v := 1) (q := 37) (by decide +kernel) (by decide +kernel) rfl ?_
      refine Z_isub (q := 38) (by decide +kernel) rfl ?_
      refine p11_21 (idx := 208) (q := 41) (by decide +kernel) fX11_208 rfl (by decide) rfl ?_
      replace h := h _ rfl
      refine Z_iconst (a := 0) (v := 0) (q := 42) (by decide +kernel) (by decide +kernel) rfl ?_
      refine Z_istore_n (a := 1) (loc2 := [_, _]) (q := 43) (by decide +kernel) (by decide +kernel) rfl rfl rfl ?_
      exact h
    · replace h := h.2 hc
      refine Z_aload_n (a := 0) (q := 26) (by decide +kernel) rfl rfl ?_
      refine Z_iconst (a := 5) (v := 5) (q := 27) (by decide +kernel) (by decide +kernel) rfl ?_
      obtain ⟨Q3, hm, h⟩ := h
      refine Z_callVi (M2 := mX11_refused) (idx := 201) (d2 := d) (ci := 11) (As := [.int _]) (q := 30) (by decide +kernel) kX11_refused lX11_201 rfl rfl (by decide) rfl rfl (by decide +kernel) (Nat.le_of_ble_eq_true rfl) (Nat.le_refl _) hm rfl (fun v8 iv4 rv5 lv6 hq => ?_)
      obtain ⟨hT7, h⟩ := h v8 iv4 rv5 lv6 hq
      exact Z_iret (ty := .int) (by decide +kernel) rfl rfl rfl ⟨_, rfl, h⟩
  · replace h := h.2 hc
    refine Z_aload_n (a := 0) (q := 13) (by decide +kernel) rfl rfl ?_
    refine Z_iconst (a := 1) (v := 1) (q := 14) (by decide +kernel) (by decide +kernel) rfl ?_
    obtain ⟨Q9, hm, h⟩ := h
    refine Z_callVi (M2 := mX11_refused) (idx := 201) (d2 := d) (ci := 11) (As := [.int _]) (q := 17) (by decide +kernel) kX11_refused lX11_201 rfl rfl (by decide) rfl rfl (by decide +kernel) (Nat.le_of_ble_eq_true rfl) (Nat.le_refl _) hm rfl (fun v14 iv10 rv11 lv12 hq => ?_)
    obtain ⟨hT13, h⟩ := h v14 iv10 rv11 lv12 hq
    exact Z_iret (ty := .int) (by decide +kernel) rfl rfl rfl ⟨_, rfl, h⟩
set_option maxRecDepth 4000 in
theorem bX11_undo_43 {d : Nat} (x1 : Int32) {iv : zI} {rv : zR} {lv : zJ} {Q : Int32 → zI → zR → zJ → Prop} (hT : zTop rv) 
    (h : ((35 : Int32) ≤ x1 → ∃ Q1 : Int32 → zI → zR → zJ → Prop, Ci mX11_good d [.ref 174, .int (iv 174 21)] iv rv lv Q1 ∧ ∀ (v6 : Int32) (iv2 : zI) (rv3 : zR) (lv4 : zJ), Q1 v6 iv2 rv3 lv4 → zTop rv3 ∧ (Q v6 iv2 rv3 lv4)) ∧ (¬ (35 : Int32) ≤ x1 → vp_in (((iv 174 21) * (35 : Int32)) + x1) 350 ∧ (vp_in x1 35 ∧ (∀ iv9 : zI, iv9 = zu iv 176 x1.toNatClampNeg (iv 178 (((iv 174 21) * (35 : Int32)) + x1).toNatClampNeg) → Zi mX11_undo (d + 1) 43 [some (.ref 174), some (.int (x1 + 1))] [] iv9 rv lv Q)))) :
    Zi mX11_undo (d + 1) 43 [some (.ref 174), some (.int x1)] [] iv rv lv Q := by
  unfold Zi
  refine Z_iload_n (a := 1) (q := 44) (by decide +kernel) rfl rfl ?_
  refine Z_bipush (a := 35) (v := 35) (q := 46) (by decide +kernel) (by decide +kernel) rfl ?_
  refine Z_icmp_ge (t := 75) (off := 29) (q := 49) (by decide +kernel) (by decide) rfl (fun hc => ?_) (fun hc => ?_)
  · replace h := h.1 hc
    refine Z_aload_n (a := 0) (q := 76) (by decide +kernel) rfl rfl ?_
    refine Z_aload_n (a := 0) (q := 77) (by decide +kernel) rfl rfl ?_
    refine g11_21 (idx := 208) (q := 80) (by decide +kernel) fX11_208 rfl (by decide) rfl ?_
    obtain ⟨Q1, hm, h⟩ := h
    refine Z_callVi (M2 := mX11_good) (idx := 214) (d2 := d) (ci := 11) (As := [.int _]) (q := 83) (by decide +kernel) kX11_good lX11_214 rfl rfl (by decide) rfl rfl (by decide +kernel) (Nat.le_of_ble_eq_true rfl) (Nat.le_refl _) hm rfl (fun v6 iv2 rv3 lv4 hq => ?_)
    obtain ⟨hT5, h⟩ := h v6 iv2 rv3 lv4 hq
    exact Z_iret (ty := .int) (by decide +kernel) rfl rfl rfl ⟨_, rfl, h⟩
  · replace h := h.2 hc
    refine Z_aload_n (a := 0) (q := 50) (by decide +kernel) rfl rfl ?_
    refine g11_14 (idx := 17) (q := 53) (by decide +kernel) fX11_17 rfl (by decide) (t11_14 hT) rfl ?_
    refine Z_iload_n (a := 1) (q := 54) (by decide +kernel) rfl rfl ?_
    refine Z_aload_n (a := 0) (q := 55) (by decide +kernel) rfl rfl ?_
    refine g11_16 (idx := 23) (q := 58) (by decide +kernel) fX11_23 rfl (by decide) (t11_16 hT) rfl ?_
    refine Z_aload_n (a := 0) (q := 59) (by decide +kernel) rfl rfl ?_
    refine g11_21 (idx := 208) (q := 62) (by decide +kernel) fX11_208 rfl (by decide) rfl ?_
    refine Z_bipush (a := 35) (v := 35) (q := 64) (by decide +kernel) (by decide +kernel) rfl ?_
    refine Z_imul (q := 65) (by decide +kernel) rfl ?_
    refine Z_iload_n (a := 1) (q := 66) (by decide +kernel) rfl rfl ?_
    refine Z_iadd (q := 67) (by decide +kernel) rfl ?_
    obtain ⟨hin7, h⟩ := h
    refine Z_iald (len := 350) (q := 68) (by decide +kernel) rfl (by decide) hin7 rfl ?_
    obtain ⟨hin8, h⟩ := h
    refine Z_iast (len := 35) (q := 69) (by decide +kernel) rfl (by decide) hin8 rfl ?_
    replace h := h _ rfl
    refine Z_iinc (a := 1) (b := 1) (v := _ + 1) (loc2 := [_, _]) (q := 72) (by decide +kernel) rfl (zinc _) (by decide +kernel) rfl rfl rfl ?_
    refine Z_goto (q := 43) (off := -29) (by decide +kernel) (by decide) ?_
    exact h
theorem eX11_image {d : Nat} (x1 : Int32) {iv : zI} {rv : zR} {lv : zJ} {Q : Int32 → zI → zR → zJ → Prop} (h : Zi mX11_image (d + 1) 0 [some (.ref 174), some (.int x1), none] [] iv rv lv Q) : Ci mX11_image (d + 1) [.ref 174, .int x1] iv rv lv Q := Ci.of (by decide +kernel) (by simp [Value.category]) (Nat.le_of_ble_eq_true rfl) rfl h
set_option maxRecDepth 4000 in
theorem bX11_image_0 {d : Nat} (x1 : Int32) {iv : zI} {rv : zR} {lv : zJ} {Q : Int32 → zI → zR → zJ → Prop} (hT : zTop rv) 
    (h : ∀ iv1 : zI, iv1 = zu iv 174 0 (0 : Int32) → ((iv1 174 19) = 0 → ∃ Q2 : Int32 → zI → zR → zJ → Prop, Ci mX11_granted d [.ref 174, .int (1 : Int32)] iv1 rv lv Q2 ∧ ∀ (v7 : Int32) (iv3 : zI) (rv4 : zR) (lv5 : zJ), Q2 v7 iv3 rv4 lv5 → zTop rv4 ∧ ((v7 = 0 ∨ v7 = 1) ∧ Q v7 iv3 rv4 lv5)) ∧ (¬ (iv1 174 19) = 0 → ∃ Q8 : Int32 → zI → zR → zJ → Prop, Ci mX11_in d [.int x1, .int (0 : Int32), .int (1 : Int32)] iv1 rv lv Q8 ∧ ∀ (v13 : Int32) (iv9 : zI) (rv10 : zR) (lv11 : zJ), Q8 v13 iv9 rv10 lv11 → zTop rv10 ∧ ((¬ v13 = 0 → Zi mX11_image (d + 1) 29 [some (.ref 174), some (.int x1), some (.int (0 : Int32))] [] iv9 rv10 lv11 Q) ∧ (v13 = 0 → ∃ Q14 : Int32 → zI → zR → zJ → Prop, Ci mX11_granted d [.ref 174, .int (1 : Int32)] iv9 rv10 lv11 Q14 ∧ ∀ (v19 : Int32) (iv15 : zI) (rv16 : zR) (lv17 : zJ), Q14 v19 iv15 rv16 lv17 → zTop rv16 ∧ ((v19 = 0 ∨ v19 = 1) ∧ Q v19 iv15 rv16 lv17))))) :
    Zi mX11_image (d + 1) 0 [some (.ref 174), some (.int x1), none] [] iv rv lv Q := by
  unfold Zi
  refine Z_aload_n (a := 0) (q := 1) (by decide +kernel) rfl rfl ?_
  refine Z_iconst (a := 0) (v := 0) (q := 2) (by decide +kernel) (by decide +kernel) rfl ?_
  refine p11_0 (idx := 87) (q := 5) (by decide +kernel) fX11_87 rfl (by decide) rfl ?_
  replace h := h _ rfl
  refine Z_aload_n (a := 0) (q := 6) (by decide +kernel) rfl rfl ?_
  refine g11_19 (idx := 211) (q := 9) (by decide +kernel) fX11_211 rfl (by decide) rfl ?_
  refine Z_if_eq (t := 21) (off := 12) (q := 12) (by decide +kernel) (by decide) rfl (fun hc => ?_) (fun hc => ?_)
  · replace h := h.1 hc
    refine Z_aload_n (a := 0) (q := 22) (by decide +kernel) rfl rfl ?_
    refine Z_iconst (a := 1) (v := 1) (q := 23) (by decide +kernel) (by decide +kernel) rfl ?_
    obtain ⟨Q2, hm, h⟩ := h
    refine Z_callVi (M2 := mX11_granted) (idx := 374) (d2 := d) (ci := 11) (As := [.int _]) (q := 26) (by decide +kernel) kX11_granted lX11_374 rfl rfl (by decide) rfl rfl (by decide +kernel) (Nat.le_of_ble_eq_true rfl) (Nat.le_refl _) hm rfl (fun v7 iv3 rv4 lv5 hq => ?_)
    obtain ⟨hT6, h⟩ := h v7 iv3 rv4 lv5 hq
    exact Z_iret (ty := .boolean) (by decide +kernel) rfl (by rcases h.1 with e | e <;> rw [e] <;> rfl) rfl ⟨_, rfl, h.2⟩
  · replace h := h.2 hc
    refine Z_iload_n (a := 1) (q := 13) (by decide +kernel) rfl rfl ?_
    refine Z_iconst (a := 0) (v := 0) (q := 14) (by decide +kernel) (by decide +kernel) rfl ?_
    refine Z_iconst (a := 1) (v := 1) (q := 15) (by decide +kernel) (by decide +kernel) rfl ?_
    obtain ⟨Q8, hm, h⟩ := h
    refine Z_callSi (M2 := mX11_in) (idx := 112) (d2 := d) (As := [.int _, .int _, .int _]) (q := 18) (by decide +kernel) kX11_in lX11_112 rfl rfl (by decide +kernel) (Nat.le_of_ble_eq_true rfl) (Nat.le_refl _) hm rfl (fun v13 iv9 rv10 lv11 hq => ?_)
    obtain ⟨hT12, h⟩ := h v13 iv9 rv10 lv11 hq
    refine Z_if_ne (t := 27) (off := 9) (q := 21) (by decide +kernel) (by decide) rfl (fun hc => ?_) (fun hc => ?_)
    · replace h := h.1 hc
      refine Z_iconst (a := 0) (v := 0) (q := 28) (by decide +kernel) (by decide +kernel) rfl ?_
      refine Z_istore_n (a := 2) (loc2 := [_, _, _]) (q := 29) (by decide +kernel) (by decide +kernel) rfl rfl rfl ?_
      exact h
    · replace h := h.2 hc
      refine Z_aload_n (a := 0) (q := 22) (by decide +kernel) rfl rfl ?_
      refine Z_iconst (a := 1) (v := 1) (q := 23) (by decide +kernel) (by decide +kernel) rfl ?_
      obtain ⟨Q14, hm, h⟩ := h
      refine Z_callVi (M2 := mX11_granted) (idx := 374) (d2 := d) (ci := 11) (As := [.int _]) (q := 26) (by decide +kernel) kX11_granted lX11_374 rfl rfl (by decide) rfl rfl (by decide +kernel) (Nat.le_of_ble_eq_true rfl) (Nat.le_refl _) hm rfl (fun v19 iv15 rv16 lv17 hq => ?_)
      obtain ⟨hT18, h⟩ := h v19 iv15 rv16 lv17 hq
      exact Z_iret (ty := .boolean) (by decide +kernel) rfl (by rcases h.1 with e | e <;> rw [e] <;> rfl) rfl ⟨_, rfl, h.2⟩
set_option maxRecDepth 4000 in
theorem bX11_image_29 {d : Nat} (x1 : Int32) (x2 : Int32) {iv : zI} {rv : zR} {lv : zJ} {Q : Int32 → zI → zR → zJ → Prop} (hT : zTop rv) 
    (h : ((35 : Int32) ≤ x2 → vp_in x1 2 ∧ (∀ iv2 : zI, iv2 = zu iv 180 x1.toNatClampNeg (vp_nar .boolean (1 : Int32)) → ∃ Q3 : Int32 → zI → zR → zJ → Prop, Ci mX11_granted d [.ref 174, .int (0 : Int32)] iv2 rv lv Q3 ∧ ∀ (v8 : Int32) (iv4 : zI) (rv5 : zR) (lv6 : zJ), Q3 v8 iv4 rv5 lv6 → zTop rv5 ∧ ((v8 = 0 ∨ v8 = 1) ∧ Q v8 iv4 rv5 lv6))) ∧ (¬ (35 : Int32) ≤ x2 → vp_in x2 35 ∧ (vp_in (((35 : Int32) * x1) + x2) 70 ∧ (∀ iv11 : zI, iv11 = zu iv 179 (((35 : Int32) * x1) + x2).toNatClampNeg (iv 176 x2.toNatClampNeg) → Zi mX11_image (d + 1) 29 [some (.ref 174), some (.int x1), some (.int (x2 + 1))] [] iv11 rv lv Q)))) :
    Zi mX11_image (d + 1) 29 [some (.ref 174), some (.int x1), some (.int x2)] [] iv rv lv Q := by
  unfold Zi
  refine Z_iload_n (a := 2) (q := 30) (by decide +kernel) rfl rfl ?_
  refine Z_bipush (a := 35) (v := 35) (q := 32) (by decide +kernel) (by decide +kernel) rfl ?_
  refine Z_icmp_ge (t := 58) (off := 26) (q := 35) (by decide +kernel) (by decide) rfl (fun hc => ?_) (fun hc => ?_)
  · replace h := h.1 hc
    refine Z_aload_n (a := 0) (q := 59) (by decide +kernel) rfl rfl ?_
    refine g11_18 (idx := 29) (q := 62) (by decide +kernel) fX11_29 rfl (by decide) (t11_18 hT) rfl ?_
    refine Z_iload_n (a := 1) (q := 63) (by decide +kernel) rfl rfl ?_
    refine Z_iconst (a := 1) (v := 1) (q := 64) (by decide +kernel) (by decide +kernel) rfl ?_
    obtain ⟨hin1, h⟩ := h
    refine Z_zast (len := 2) (q := 65) (by decide +kernel) rfl (by decide) hin1 rfl ?_
    replace h := h _ rfl
    refine Z_aload_n (a := 0) (q := 66) (by decide +kernel) rfl rfl ?_
    refine Z_iconst (a := 0) (v := 0) (q := 67) (by decide +kernel) (by decide +kernel) rfl ?_
    obtain ⟨Q3, hm, h⟩ := h
    refine Z_callVi (M2 := mX11_granted) (idx := 374) (d2 := d) (ci := 11) (As := [.int _]) (q := 70) (by decide +kernel) kX11_granted lX11_374 rfl rfl (by decide) rfl rfl (by decide +kernel) (Nat.le_of_ble_eq_true rfl) (Nat.le_refl _) hm rfl (fun v8 iv4 rv5 lv6 hq => ?_)
    obtain ⟨hT7, h⟩ := h v8 iv4 rv5 lv6 hq
    exact Z_iret (ty := .boolean) (by decide +kernel) rfl (by rcases h.1 with e | e <;> rw [e] <;> rfl) rfl ⟨_, rfl, h.2⟩
  · replace h := h.2 hc
    refine Z_aload_n (a := 0) (q := 36) (by decide +kernel) rfl rfl ?_
    refine g11_17 (idx := 26) (q := 39) (by decide +kernel) fX11_26 rfl (by decide) (t11_17 hT) rfl ?_
    refine Z_bipush (a := 35) (v := 35) (q := 41) (by decide +kernel) (by decide +kernel) rfl ?_
    refine Z_iload_n (a := 1) (q := 42) (by decide +kernel) rfl rfl ?_
    refine Z_imul (q := 43) (by decide +kernel) rfl ?_
    refine Z_iload_n (a := 2) (q := 44) (by decide +kernel) rfl rfl ?_
    refine Z_iadd (q := 45) (by decide +kernel) rfl ?_
    refine Z_aload_n (a := 0) (q := 46) (by decide +kernel) rfl rfl ?_
    refine g11_14 (idx := 17) (q := 49) (by decide +kernel) fX11_17 rfl (by decide) (t11_14 hT) rfl ?_
    refine Z_iload_n (a := 2) (q := 50) (by decide +kernel) rfl rfl ?_
    obtain ⟨hin9, h⟩ := h
    refine Z_iald (len := 35) (q := 51) (by decide +kernel) rfl (by decide) hin9 rfl ?_
    obtain ⟨hin10, h⟩ := h
    refine Z_iast (len := 70) (q := 52) (by decide +kernel) rfl (by decide) hin10 rfl ?_
    replace h := h _ rfl
    refine Z_iinc (a := 2) (b := 1) (v := _ + 1) (loc2 := [_, _, _]) (q := 55) (by decide +kernel) rfl (zinc _) (by decide +kernel) rfl rfl rfl ?_
    refine Z_goto (q := 29) (off := -26) (by decide +kernel) (by decide) ?_
    exact h
theorem eX11_back {d : Nat} (x1 : Int32) {iv : zI} {rv : zR} {lv : zJ} {Q : Int32 → zI → zR → zJ → Prop} (h : Zi mX11_back (d + 1) 0 [some (.ref 174), some (.int x1), none] [] iv rv lv Q) : Ci mX11_back (d + 1) [.ref 174, .int x1] iv rv lv Q := Ci.of (by decide +kernel) (by simp [Value.category]) (Nat.le_of_ble_eq_true rfl) rfl h
set_option maxRecDepth 4000 in
theorem bX11_back_0 {d : Nat} (x1 : Int32) {iv : zI} {rv : zR} {lv : zJ} {Q : Int32 → zI → zR → zJ → Prop} (hT : zTop rv) 
    (h : ∀ iv1 : zI, iv1 = zu iv 174 0 (0 : Int32) → ((iv1 174 19) = 0 → ∃ Q2 : Int32 → zI → zR → zJ → Prop, Ci mX11_granted d [.ref 174, .int (1 : Int32)] iv1 rv lv Q2 ∧ ∀ (v7 : Int32) (iv3 : zI) (rv4 : zR) (lv5 : zJ), Q2 v7 iv3 rv4 lv5 → zTop rv4 ∧ ((v7 = 0 ∨ v7 = 1) ∧ Q v7 iv3 rv4 lv5)) ∧ (¬ (iv1 174 19) = 0 → ∃ Q8 : Int32 → zI → zR → zJ → Prop, Ci mX11_in d [.int x1, .int (0 : Int32), .int (1 : Int32)] iv1 rv lv Q8 ∧ ∀ (v13 : Int32) (iv9 : zI) (rv10 : zR) (lv11 : zJ), Q8 v13 iv9 rv10 lv11 → zTop rv10 ∧ ((v13 = 0 → ∃ Q14 : Int32 → zI → zR → zJ → Prop, Ci mX11_granted d [.ref 174, .int (1 : Int32)] iv9 rv10 lv11 Q14 ∧ ∀ (v19 : Int32) (iv15 : zI) (rv16 : zR) (lv17 : zJ), Q14 v19 iv15 rv16 lv17 → zTop rv16 ∧ ((v19 = 0 ∨ v19 = 1) ∧ Q v19 iv15 rv16 lv17)) ∧ (¬ v13 = 0 → vp_in x1 2 ∧ ((¬ (iv9 180 x1.toNatClampNeg) = 0 → Zi mX11_back (d + 1) 38 [some (.ref 174), some (.int x1), some (.int (0 : Int32))] [] iv9 rv10 lv11 Q) ∧ ((iv9 180 x1.toNatClampNeg) = 0 → ∃ Q21 : Int32 → zI → zR → zJ → Prop, Ci mX11_granted d [.ref 174, .int (1 : Int32)] iv9 rv10 lv11 Q21 ∧ ∀ (v26 : Int32) (iv22 : zI) (rv23 : zR) (lv24 : zJ), Q21 v26 iv22 rv23 lv24 → zTop rv23 ∧ ((v26 = 0 ∨ v26 = 1) ∧ Q v26 iv22 rv23 lv24))))))) :
    Zi mX11_back (d + 1) 0 [some (.ref 174), some (.int x1), none] [] iv rv lv Q := by
  unfold Zi
  refine Z_aload_n (a := 0) (q := 1) (by decide +kernel) rfl rfl ?_
  refine Z_iconst (a := 0) (v := 0) (q := 2) (by decide +kernel) (by decide +kernel) rfl ?_
  refine p11_0 (idx := 87) (q := 5) (by decide +kernel) fX11_87 rfl (by decide) rfl ?_
  replace h := h _ rfl
  refine Z_aload_n (a := 0) (q := 6) (by decide +kernel) rfl rfl ?_
  refine g11_19 (idx := 211) (q := 9) (by decide +kernel) fX11_211 rfl (by decide) rfl ?_
  refine Z_if_eq (t := 30) (off := 21) (q := 12) (by decide +kernel) (by decide) rfl (fun hc => ?_) (fun hc => ?_)
  · replace h := h.1 hc
    refine Z_aload_n (a := 0) (q := 31) (by decide +kernel) rfl rfl ?_
    refine Z_iconst (a := 1) (v := 1) (q := 32) (by decide +kernel) (by decide +kernel) rfl ?_
    obtain ⟨Q2, hm, h⟩ := h
    refine Z_callVi (M2 := mX11_granted) (idx := 374) (d2 := d) (ci := 11) (As := [.int _]) (q := 35) (by decide +kernel) kX11_granted lX11_374 rfl rfl (by decide) rfl rfl (by decide +kernel) (Nat.le_of_ble_eq_true rfl) (Nat.le_refl _) hm rfl (fun v7 iv3 rv4 lv5 hq => ?_)
    obtain ⟨hT6, h⟩ := h v7 iv3 rv4 lv5 hq
    exact Z_iret (ty := .boolean) (by decide +kernel) rfl (by rcases h.1 with e | e <;> rw [e] <;> rfl) rfl ⟨_, rfl, h.2⟩
  · replace h := h.2 hc
    refine Z_iload_n (a := 1) (q := 13) (by decide +kernel) rfl rfl ?_
    refine Z_iconst (a := 0) (v := 0) (q := 14) (by decide +kernel) (by decide +kernel) rfl ?_
    refine Z_iconst (a := 1) (v := 1) (q := 15) (by decide +kernel) (by decide +kernel) rfl ?_
    obtain ⟨Q8, hm, h⟩ := h
    refine Z_callSi (M2 := mX11_in) (idx := 112) (d2 := d) (As := [.int _, .int _, .int _]) (q := 18) (by decide +kernel) kX11_in lX11_112 rfl rfl (by decide +kernel) (Nat.le_of_ble_eq_true rfl) (Nat.le_refl _) hm rfl (fun v13 iv9 rv10 lv11 hq => ?_)
    obtain ⟨hT12, h⟩ := h v13 iv9 rv10 lv11 hq
    refine Z_if_eq (t := 30) (off := 12) (q := 21) (by decide +kernel) (by decide) rfl (fun hc => ?_) (fun hc => ?_)
    · replace h := h.1 hc
      refine Z_aload_n (a := 0) (q := 31) (by decide +kernel) rfl rfl ?_
      refine Z_iconst (a := 1) (v := 1) (q := 32) (by decide +kernel) (by decide +kernel) rfl ?_
      obtain ⟨Q14, hm, h⟩ := h
      refine Z_callVi (M2 := mX11_granted) (idx := 374) (d2 := d) (ci := 11) (As := [.int _]) (q := 35) (by decide +kernel) kX11_granted lX11_374 rfl rfl (by decide) rfl rfl (by decide +kernel) (Nat.le_of_ble_eq_true rfl) (Nat.le_refl _) hm rfl (fun v19 iv15 rv16 lv17 hq => ?_)
      obtain ⟨hT18, h⟩ := h v19 iv15 rv16 lv17 hq
      exact Z_iret (ty := .boolean) (by decide +kernel) rfl (by rcases h.1 with e | e <;> rw [e] <;> rfl) rfl ⟨_, rfl, h.2⟩
    · replace h := h.2 hc
      refine Z_aload_n (a := 0) (q := 22) (by decide +kernel) rfl rfl ?_
      refine g11_18 (idx := 29) (q := 25) (by decide +kernel) fX11_29 rfl (by decide) (t11_18 hT12) rfl ?_
      refine Z_iload_n (a := 1) (q := 26) (by decide +kernel) rfl rfl ?_
      obtain ⟨hin20, h⟩ := h
      refine Z_zald (len := 2) (q := 27) (by decide +kernel) rfl (by decide) hin20 rfl ?_
      refine Z_if_ne (t := 36) (off := 9) (q := 30) (by decide +kernel) (by decide) rfl (fun hc => ?_) (fun hc => ?_)
      · replace h := h.1 hc
        refine Z_iconst (a := 0) (v := 0) (q := 37) (by decide +kernel) (by decide +kernel) rfl ?_
        refine Z_istore_n (a := 2) (loc2 := [_, _, _]) (q := 38) (by decide +kernel) (by decide +kernel) rfl rfl rfl ?_
        exact h
      · replace h := h.2 hc
        refine Z_aload_n (a := 0) (q := 31) (by decide +kernel) rfl rfl ?_
        refine Z_iconst (a := 1) (v := 1) (q := 32) (by decide +kernel) (by decide +kernel) rfl ?_
        obtain ⟨Q21, hm, h⟩ := h
        refine Z_callVi (M2 := mX11_granted) (idx := 374) (d2 := d) (ci := 11) (As := [.int _]) (q := 35) (by decide +kernel) kX11_granted lX11_374 rfl rfl (by decide) rfl rfl (by decide +kernel) (Nat.le_of_ble_eq_true rfl) (Nat.le_refl _) hm rfl (fun v26 iv22 rv23 lv24 hq => ?_)
        obtain ⟨hT25, h⟩ := h v26 iv22 rv23 lv24 hq
        exact Z_iret (ty := .boolean) (by decide +kernel) rfl (by rcases h.1 with e | e <;> rw [e] <;> rfl) rfl ⟨_, rfl, h.2⟩
set_option maxRecDepth 4000 in
theorem bX11_back_38 {d : Nat} (x1 : Int32) (x2 : Int32) {iv : zI} {rv : zR} {lv : zJ} {Q : Int32 → zI → zR → zJ → Prop} (hT : zTop rv) 
    (h : ((35 : Int32) ≤ x2 → ∀ iv1 : zI, iv1 = zu iv 174 21 (0 : Int32) → ∃ Q2 : Int32 → zI → zR → zJ → Prop, Ci mX11_granted d [.ref 174, .int (0 : Int32)] iv1 rv lv Q2 ∧ ∀ (v7 : Int32) (iv3 : zI) (rv4 : zR) (lv5 : zJ), Q2 v7 iv3 rv4 lv5 → zTop rv4 ∧ ((v7 = 0 ∨ v7 = 1) ∧ Q v7 iv3 rv4 lv5)) ∧ (¬ (35 : Int32) ≤ x2 → vp_in (((35 : Int32) * x1) + x2) 70 ∧ (vp_in x2 35 ∧ (∀ iv10 : zI, iv10 = zu iv 176 x2.toNatClampNeg (iv 179 (((35 : Int32) * x1) + x2).toNatClampNeg) → Zi mX11_back (d + 1) 38 [some (.ref 174), some (.int x1), some (.int (x2 + 1))] [] iv10 rv lv Q)))) :
    Zi mX11_back (d + 1) 38 [some (.ref 174), some (.int x1), some (.int x2)] [] iv rv lv Q := by
  unfold Zi
  refine Z_iload_n (a := 2) (q := 39) (by decide +kernel) rfl rfl ?_
  refine Z_bipush (a := 35) (v := 35) (q := 41) (by decide +kernel) (by decide +kernel) rfl ?_
  refine Z_icmp_ge (t := 67) (off := 26) (q := 44) (by decide +kernel) (by decide) rfl (fun hc => ?_) (fun hc => ?_)
  · replace h := h.1 hc
    refine Z_aload_n (a := 0) (q := 68) (by decide +kernel) rfl rfl ?_
    refine Z_iconst (a := 0) (v := 0) (q := 69) (by decide +kernel) (by decide +kernel) rfl ?_
    refine p11_21 (idx := 208) (q := 72) (by decide +kernel) fX11_208 rfl (by decide) rfl ?_
    replace h := h _ rfl
    refine Z_aload_n (a := 0) (q := 73) (by decide +kernel) rfl rfl ?_
    refine Z_iconst (a := 0) (v := 0) (q := 74) (by decide +kernel) (by decide +kernel) rfl ?_
    obtain ⟨Q2, hm, h⟩ := h
    refine Z_callVi (M2 := mX11_granted) (idx := 374) (d2 := d) (ci := 11) (As := [.int _]) (q := 77) (by decide +kernel) kX11_granted lX11_374 rfl rfl (by decide) rfl rfl (by decide +kernel) (Nat.le_of_ble_eq_true rfl) (Nat.le_refl _) hm rfl (fun v7 iv3 rv4 lv5 hq => ?_)
    obtain ⟨hT6, h⟩ := h v7 iv3 rv4 lv5 hq
    exact Z_iret (ty := .boolean) (by decide +kernel) rfl (by rcases h.1 with e | e <;> rw [e] <;> rfl) rfl ⟨_, rfl, h.2⟩
  · replace h := h.2 hc
    refine Z_aload_n (a := 0) (q := 45) (by decide +kernel) rfl rfl ?_
    refine g11_14 (idx := 17) (q := 48) (by decide +kernel) fX11_17 rfl (by decide) (t11_14 hT) rfl ?_
    refine Z_iload_n (a := 2) (q := 49) (by decide +kernel) rfl rfl ?_
    refine Z_aload_n (a := 0) (q := 50) (by decide +kernel) rfl rfl ?_
    refine g11_17 (idx := 26) (q := 53) (by decide +kernel) fX11_26 rfl (by decide) (t11_17 hT) rfl ?_
    refine Z_bipush (a := 35) (v := 35) (q := 55) (by decide +kernel) (by decide +kernel) rfl ?_
    refine Z_iload_n (a := 1) (q := 56) (by decide +kernel) rfl rfl ?_
    refine Z_imul (q := 57) (by decide +kernel) rfl ?_
    refine Z_iload_n (a := 2) (q := 58) (by decide +kernel) rfl rfl ?_
    refine Z_iadd (q := 59) (by decide +kernel) rfl ?_
    obtain ⟨hin8, h⟩ := h
    refine Z_iald (len := 70) (q := 60) (by decide +kernel) rfl (by decide) hin8 rfl ?_
    obtain ⟨hin9, h⟩ := h
    refine Z_iast (len := 35) (q := 61) (by decide +kernel) rfl (by decide) hin9 rfl ?_
    replace h := h _ rfl
    refine Z_iinc (a := 2) (b := 1) (v := _ + 1) (loc2 := [_, _, _]) (q := 64) (by decide +kernel) rfl (zinc _) (by decide +kernel) rfl rfl rfl ?_
    refine Z_goto (q := 38) (off := -26) (by decide +kernel) (by decide) ?_
    exact h
theorem eX11_writes {d : Nat} (x1 : Int32) {iv : zI} {rv : zR} {lv : zJ} {Q : zI → zR → zJ → Prop} (h : Zv mX11_writes d 0 [some (.ref 174), some (.int x1)] [] iv rv lv Q) : Cv mX11_writes d [.ref 174, .int x1] iv rv lv Q := Cv.of (by decide +kernel) (by simp [Value.category]) (Nat.le_of_ble_eq_true rfl) rfl h
set_option maxRecDepth 4000 in
theorem bX11_writes_0 {d : Nat} (x1 : Int32) {iv : zI} {rv : zR} {lv : zJ} {Q : zI → zR → zJ → Prop} (hT : zTop rv) 
    (h : vp_in (iv 174 51) 80 ∧ (∀ iv2 : zI, iv2 = zu iv 198 (iv 174 51).toNatClampNeg x1 → ∀ iv3 : zI, iv3 = zu iv2 174 51 ((iv2 174 51) + (1 : Int32)) → Q iv3 rv lv)) :
    Zv mX11_writes d 0 [some (.ref 174), some (.int x1)] [] iv rv lv Q := by
  unfold Zv
  refine Z_aload_n (a := 0) (q := 1) (by decide +kernel) rfl rfl ?_
  refine g11_50 (idx := 84) (q := 4) (by decide +kernel) fX11_84 rfl (by decide) (t11_50 hT) rfl ?_
  refine Z_aload_n (a := 0) (q := 5) (by decide +kernel) rfl rfl ?_
  refine g11_51 (idx := 377) (q := 8) (by decide +kernel) fX11_377 rfl (by decide) rfl ?_
  refine Z_iload_n (a := 1) (q := 9) (by decide +kernel) rfl rfl ?_
  obtain ⟨hin1, h⟩ := h
  refine Z_iast (len := 80) (q := 10) (by decide +kernel) rfl (by decide) hin1 rfl ?_
  replace h := h _ rfl
  refine Z_aload_n (a := 0) (q := 11) (by decide +kernel) rfl rfl ?_
  refine Z_dup (q := 12) (by decide +kernel) rfl rfl ?_
  refine g11_51 (idx := 377) (q := 15) (by decide +kernel) fX11_377 rfl (by decide) rfl ?_
  refine Z_iconst (a := 1) (v := 1) (q := 16) (by decide +kernel) (by decide +kernel) rfl ?_
  refine Z_iadd (q := 17) (by decide +kernel) rfl ?_
  refine p11_51 (idx := 377) (q := 20) (by decide +kernel) fX11_377 rfl (by decide) rfl ?_
  replace h := h _ rfl
  exact Z_vret (by decide +kernel) rfl rfl ⟨rfl, h⟩
theorem eX11_writesNumber {d : Nat} (x1 : Int32) {iv : zI} {rv : zR} {lv : zJ} {Q : zI → zR → zJ → Prop} (h : Zv mX11_writesNumber (d + 1) 0 [some (.ref 174), some (.int x1), none] [] iv rv lv Q) : Cv mX11_writesNumber (d + 1) [.ref 174, .int x1] iv rv lv Q := Cv.of (by decide +kernel) (by simp [Value.category]) (Nat.le_of_ble_eq_true rfl) rfl h
set_option maxRecDepth 4000 in
theorem bX11_writesNumber_0 {d : Nat} (x1 : Int32) {iv : zI} {rv : zR} {lv : zJ} {Q : zI → zR → zJ → Prop} (hT : zTop rv) 
    (h : Zv mX11_writesNumber (d + 1) 2 [some (.ref 174), some (.int x1), some (.int (1 : Int32))] [] iv rv lv Q) :
    Zv mX11_writesNumber (d + 1) 0 [some (.ref 174), some (.int x1), none] [] iv rv lv Q := by
  unfold Zv
  refine Z_iconst (a := 1) (v := 1) (q := 1) (by decide +kernel) (by decide +kernel) rfl ?_
  refine Z_istore_n (a := 2) (loc2 := [_, _, _]) (q := 2) (by decide +kernel) (by decide +kernel) rfl rfl rfl ?_
  exact h
set_option maxRecDepth 4000 in
theorem bX11_writesNumber_2 {d : Nat} (x1 : Int32) (x2 : Int32) {iv : zI} {rv : zR} {lv : zJ} {Q : zI → zR → zJ → Prop} (hT : zTop rv) 
    (h : ¬ x2 = 0 ∧ (((x1 / x2) ≤ (9 : Int32) → Zv mX11_writesNumber (d + 1) 18 [some (.ref 174), some (.int x1), some (.int x2)] [] iv rv lv Q) ∧ (¬ (x1 / x2) ≤ (9 : Int32) → Zv mX11_writesNumber (d + 1) 2 [some (.ref 174), some (.int x1), some (.int (x2 * (10 : Int32)))] [] iv rv lv Q))) :
    Zv mX11_writesNumber (d + 1) 2 [some (.ref 174), some (.int x1), some (.int x2)] [] iv rv lv Q := by
  unfold Zv
  refine Z_iload_n (a := 1) (q := 3) (by decide +kernel) rfl rfl ?_
  refine Z_iload_n (a := 2) (q := 4) (by decide +kernel) rfl rfl ?_
  obtain ⟨hne, h⟩ := h
  refine Z_idiv (q := 5) (by decide +kernel) hne rfl ?_
  refine Z_bipush (a := 9) (v := 9) (q := 7) (by decide +kernel) (by decide +kernel) rfl ?_
  refine Z_icmp_le (t := 18) (off := 11) (q := 10) (by decide +kernel) (by decide) rfl (fun hc => ?_) (fun hc => ?_)
  · replace h := h.1 hc
    exact h
  · replace h := h.2 hc
    refine Z_iload_n (a := 2) (q := 11) (by decide +kernel) rfl rfl ?_
    refine Z_bipush (a := 10) (v := 10) (q := 13) (by decide +kernel) (by decide +kernel) rfl ?_
    refine Z_imul (q := 14) (by decide +kernel) rfl ?_
    refine Z_istore_n (a := 2) (loc2 := [_, _, _]) (q := 15) (by decide +kernel) (by decide +kernel) rfl rfl rfl ?_
    refine Z_goto (q := 2) (off := -13) (by decide +kernel) (by decide) ?_
    exact h
set_option maxRecDepth 4000 in
theorem bX11_writesNumber_18 {d : Nat} (x1 : Int32) (x2 : Int32) {iv : zI} {rv : zR} {lv : zJ} {Q : zI → zR → zJ → Prop} (hT : zTop rv) 
    (h : (x2 ≤ 0 → Q iv rv lv) ∧ (¬ x2 ≤ 0 → ¬ x2 = 0 ∧ (∃ Q1 : zI → zR → zJ → Prop, Cv mX11_writes d [.ref 174, .int ((48 : Int32) + ((x1 / x2) - (x1 / x2) / (10 : Int32) * (10 : Int32)))] iv rv lv Q1 ∧ ∀ (iv2 : zI) (rv3 : zR) (lv4 : zJ), Q1 iv2 rv3 lv4 → zTop rv3 ∧ (Zv mX11_writesNumber (d + 1) 18 [some (.ref 174), some (.int x1), some (.int (x2 / (10 : Int32)))] [] iv2 rv3 lv4 Q)))) :
    Zv mX11_writesNumber (d + 1) 18 [some (.ref 174), some (.int x1), some (.int x2)] [] iv rv lv Q := by
  unfold Zv
  refine Z_iload_n (a := 2) (q := 19) (by decide +kernel) rfl rfl ?_
  refine Z_if_le (t := 43) (off := 24) (q := 22) (by decide +kernel) (by decide) rfl (fun hc => ?_) (fun hc => ?_)
  · replace h := h.1 hc
    exact Z_vret (by decide +kernel) rfl rfl ⟨rfl, h⟩
  · replace h := h.2 hc
    refine Z_aload_n (a := 0) (q := 23) (by decide +kernel) rfl rfl ?_
    refine Z_bipush (a := 48) (v := 48) (q := 25) (by decide +kernel) (by decide +kernel) rfl ?_
    refine Z_iload_n (a := 1) (q := 26) (by decide +kernel) rfl rfl ?_
    refine Z_iload_n (a := 2) (q := 27) (by decide +kernel) rfl rfl ?_
    obtain ⟨hne, h⟩ := h
    refine Z_idiv (q := 28) (by decide +kernel) hne rfl ?_
    refine Z_bipush (a := 10) (v := 10) (q := 30) (by decide +kernel) (by decide +kernel) rfl ?_
    refine Z_irem (q := 31) (by decide +kernel) (by decide) rfl ?_
    refine Z_iadd (q := 32) (by decide +kernel) rfl ?_
    obtain ⟨Q1, hm, h⟩ := h
    refine Z_callVv (M2 := mX11_writes) (idx := 380) (d2 := d) (ci := 11) (As := [.int _]) (q := 35) (by decide +kernel) kX11_writes lX11_380 rfl rfl (by decide) rfl rfl (by decide +kernel) (Nat.le_of_ble_eq_true rfl) (Nat.le_refl _) hm rfl (fun iv2 rv3 lv4 hq => ?_)
    obtain ⟨hT5, h⟩ := h iv2 rv3 lv4 hq
    refine Z_iload_n (a := 2) (q := 36) (by decide +kernel) rfl rfl ?_
    refine Z_bipush (a := 10) (v := 10) (q := 38) (by decide +kernel) (by decide +kernel) rfl ?_
    refine Z_idiv (q := 39) (by decide +kernel) (by decide) rfl ?_
    refine Z_istore_n (a := 2) (loc2 := [_, _, _]) (q := 40) (by decide +kernel) (by decide +kernel) rfl rfl rfl ?_
    refine Z_goto (q := 18) (off := -22) (by decide +kernel) (by decide) ?_
    exact h
theorem eX11_write {d : Nat}  {iv : zI} {rv : zR} {lv : zJ} {Q : Int32 → zI → zR → zJ → Prop} (h : Zi mX11_write (d + 1) 0 [some (.ref 174), none, none, none] [] iv rv lv Q) : Ci mX11_write (d + 1) [.ref 174] iv rv lv Q := Ci.of (by decide +kernel) (by simp [Value.category]) (Nat.le_of_ble_eq_true rfl) rfl h
set_option maxRecDepth 4000 in
theorem bX11_write_0 {d : Nat}  {iv : zI} {rv : zR} {lv : zJ} {Q : Int32 → zI → zR → zJ → Prop} (hT : zTop rv) 
    (h : ∀ iv1 : zI, iv1 = zu iv 174 0 (0 : Int32) → (¬ (iv1 174 19) = 0 → ∃ Q2 : Int32 → zI → zR → zJ → Prop, Ci mX11_areRows d [.ref 174, .int (iv1 176 1)] iv1 rv lv Q2 ∧ ∀ (v7 : Int32) (iv3 : zI) (rv4 : zR) (lv5 : zJ), Q2 v7 iv3 rv4 lv5 → zTop rv4 ∧ ((¬ v7 = 0 → ∀ iv8 : zI, iv8 = zu iv3 174 51 (0 : Int32) → Zi mX11_write (d + 1) 45 [some (.ref 174), some (.int (0 : Int32)), none, none] [] iv8 rv4 lv5 Q) ∧ (v7 = 0 → ∃ Q9 : Int32 → zI → zR → zJ → Prop, Ci mX11_refused d [.ref 174, .int (6 : Int32)] iv3 rv4 lv5 Q9 ∧ ∀ (v14 : Int32) (iv10 : zI) (rv11 : zR) (lv12 : zJ), Q9 v14 iv10 rv11 lv12 → zTop rv11 ∧ (Q v14 iv10 rv11 lv12)))) ∧ ((iv1 174 19) = 0 → ∃ Q15 : Int32 → zI → zR → zJ → Prop, Ci mX11_refused d [.ref 174, .int (1 : Int32)] iv1 rv lv Q15 ∧ ∀ (v20 : Int32) (iv16 : zI) (rv17 : zR) (lv18 : zJ), Q15 v20 iv16 rv17 lv18 → zTop rv17 ∧ (Q v20 iv16 rv17 lv18))) :
    Zi mX11_write (d + 1) 0 [some (.ref 174), none, none, none] [] iv rv lv Q := by
  unfold Zi
  refine Z_aload_n (a := 0) (q := 1) (by decide +kernel) rfl rfl ?_
  refine Z_iconst (a := 0) (v := 0) (q := 2) (by decide +kernel) (by decide +kernel) rfl ?_
  refine p11_0 (idx := 87) (q := 5) (by decide +kernel) fX11_87 rfl (by decide) rfl ?_
  replace h := h _ rfl
  refine Z_aload_n (a := 0) (q := 6) (by decide +kernel) rfl rfl ?_
  refine g11_19 (idx := 211) (q := 9) (by decide +kernel) fX11_211 rfl (by decide) rfl ?_
  refine Z_if_ne (t := 18) (off := 9) (q := 12) (by decide +kernel) (by decide) rfl (fun hc => ?_) (fun hc => ?_)
  · replace h := h.1 hc
    refine Z_aload_n (a := 0) (q := 19) (by decide +kernel) rfl rfl ?_
    refine Z_aload_n (a := 0) (q := 20) (by decide +kernel) rfl rfl ?_
    refine g11_14 (idx := 17) (q := 23) (by decide +kernel) fX11_17 rfl (by decide) (t11_14 hT) rfl ?_
    refine Z_iconst (a := 1) (v := 1) (q := 24) (by decide +kernel) (by decide +kernel) rfl ?_
    refine Z_iald (len := 35) (q := 25) (by decide +kernel) rfl (by decide) (by unfold vp_in; decide) rfl ?_
    obtain ⟨Q2, hm, h⟩ := h
    refine Z_callVi (M2 := mX11_areRows) (idx := 334) (d2 := d) (ci := 11) (As := [.int _]) (q := 28) (by decide +kernel) kX11_areRows lX11_334 rfl rfl (by decide) rfl rfl (by decide +kernel) (Nat.le_of_ble_eq_true rfl) (Nat.le_refl _) hm rfl (fun v7 iv3 rv4 lv5 hq => ?_)
    obtain ⟨hT6, h⟩ := h v7 iv3 rv4 lv5 hq
    refine Z_if_ne (t := 38) (off := 10) (q := 31) (by decide +kernel) (by decide) rfl (fun hc => ?_) (fun hc => ?_)
    · replace h := h.1 hc
      refine Z_aload_n (a := 0) (q := 39) (by decide +kernel) rfl rfl ?_
      refine Z_iconst (a := 0) (v := 0) (q := 40) (by decide +kernel) (by decide +kernel) rfl ?_
      refine p11_51 (idx := 377) (q := 43) (by decide +kernel) fX11_377 rfl (by decide) rfl ?_
      replace h := h _ rfl
      refine Z_iconst (a := 0) (v := 0) (q := 44) (by decide +kernel) (by decide +kernel) rfl ?_
      refine Z_istore_n (a := 1) (loc2 := [_, _, _, _]) (q := 45) (by decide +kernel) (by decide +kernel) rfl rfl rfl ?_
      exact h
    · replace h := h.2 hc
      refine Z_aload_n (a := 0) (q := 32) (by decide +kernel) rfl rfl ?_
      refine Z_bipush (a := 6) (v := 6) (q := 34) (by decide +kernel) (by decide +kernel) rfl ?_
      obtain ⟨Q9, hm, h⟩ := h
      refine Z_callVi (M2 := mX11_refused) (idx := 201) (d2 := d) (ci := 11) (As := [.int _]) (q := 37) (by decide +kernel) kX11_refused lX11_201 rfl rfl (by decide) rfl rfl (by decide +kernel) (Nat.le_of_ble_eq_true rfl) (Nat.le_refl _) hm rfl (fun v14 iv10 rv11 lv12 hq => ?_)
      obtain ⟨hT13, h⟩ := h v14 iv10 rv11 lv12 hq
      exact Z_iret (ty := .int) (by decide +kernel) rfl rfl rfl ⟨_, rfl, h⟩
  · replace h := h.2 hc
    refine Z_aload_n (a := 0) (q := 13) (by decide +kernel) rfl rfl ?_
    refine Z_iconst (a := 1) (v := 1) (q := 14) (by decide +kernel) (by decide +kernel) rfl ?_
    obtain ⟨Q15, hm, h⟩ := h
    refine Z_callVi (M2 := mX11_refused) (idx := 201) (d2 := d) (ci := 11) (As := [.int _]) (q := 17) (by decide +kernel) kX11_refused lX11_201 rfl rfl (by decide) rfl rfl (by decide +kernel) (Nat.le_of_ble_eq_true rfl) (Nat.le_refl _) hm rfl (fun v20 iv16 rv17 lv18 hq => ?_)
    obtain ⟨hT19, h⟩ := h v20 iv16 rv17 lv18 hq
    exact Z_iret (ty := .int) (by decide +kernel) rfl rfl rfl ⟨_, rfl, h⟩
set_option maxRecDepth 4000 in
theorem bX11_write_45 {d : Nat} (x1 : Int32) {iv : zI} {rv : zR} {lv : zJ} {Q : Int32 → zI → zR → zJ → Prop} (hT : zTop rv) 
    (h : ((iv 176 1) ≤ x1 → ∃ Q1 : Int32 → zI → zR → zJ → Prop, Ci mX11_good d [.ref 174, .int (iv 174 51)] iv rv lv Q1 ∧ ∀ (v6 : Int32) (iv2 : zI) (rv3 : zR) (lv4 : zJ), Q1 v6 iv2 rv3 lv4 → zTop rv3 ∧ (Q v6 iv2 rv3 lv4)) ∧ (¬ (iv 176 1) ≤ x1 → (x1 ≤ 0 → Zi mX11_write (d + 1) 69 [some (.ref 174), some (.int x1), some (.int (0 : Int32)), some (.int (0 : Int32))] [] iv rv lv Q) ∧ (¬ x1 ≤ 0 → ∃ Q7 : zI → zR → zJ → Prop, Cv mX11_writes d [.ref 174, .int (47 : Int32)] iv rv lv Q7 ∧ ∀ (iv8 : zI) (rv9 : zR) (lv10 : zJ), Q7 iv8 rv9 lv10 → zTop rv9 ∧ (Zi mX11_write (d + 1) 69 [some (.ref 174), some (.int x1), some (.int (0 : Int32)), some (.int (0 : Int32))] [] iv8 rv9 lv10 Q)))) :
    Zi mX11_write (d + 1) 45 [some (.ref 174), some (.int x1), none, none] [] iv rv lv Q := by
  unfold Zi
  refine Z_iload_n (a := 1) (q := 46) (by decide +kernel) rfl rfl ?_
  refine Z_aload_n (a := 0) (q := 47) (by decide +kernel) rfl rfl ?_
  refine g11_14 (idx := 17) (q := 50) (by decide +kernel) fX11_17 rfl (by decide) (t11_14 hT) rfl ?_
  refine Z_iconst (a := 1) (v := 1) (q := 51) (by decide +kernel) (by decide +kernel) rfl ?_
  refine Z_iald (len := 35) (q := 52) (by decide +kernel) rfl (by decide) (by unfold vp_in; decide) rfl ?_
  refine Z_icmp_ge (t := 135) (off := 83) (q := 55) (by decide +kernel) (by decide) rfl (fun hc => ?_) (fun hc => ?_)
  · replace h := h.1 hc
    refine Z_aload_n (a := 0) (q := 136) (by decide +kernel) rfl rfl ?_
    refine Z_aload_n (a := 0) (q := 137) (by decide +kernel) rfl rfl ?_
    refine g11_51 (idx := 377) (q := 140) (by decide +kernel) fX11_377 rfl (by decide) rfl ?_
    obtain ⟨Q1, hm, h⟩ := h
    refine Z_callVi (M2 := mX11_good) (idx := 214) (d2 := d) (ci := 11) (As := [.int _]) (q := 143) (by decide +kernel) kX11_good lX11_214 rfl rfl (by decide) rfl rfl (by decide +kernel) (Nat.le_of_ble_eq_true rfl) (Nat.le_refl _) hm rfl (fun v6 iv2 rv3 lv4 hq => ?_)
    obtain ⟨hT5, h⟩ := h v6 iv2 rv3 lv4 hq
    exact Z_iret (ty := .int) (by decide +kernel) rfl rfl rfl ⟨_, rfl, h⟩
  · replace h := h.2 hc
    refine Z_iload_n (a := 1) (q := 56) (by decide +kernel) rfl rfl ?_
    refine Z_if_le (t := 65) (off := 9) (q := 59) (by decide +kernel) (by decide) rfl (fun hc => ?_) (fun hc => ?_)
    · replace h := h.1 hc
      refine Z_iconst (a := 0) (v := 0) (q := 66) (by decide +kernel) (by decide +kernel) rfl ?_
      refine Z_istore_n (a := 2) (loc2 := [_, _, _, _]) (q := 67) (by decide +kernel) (by decide +kernel) rfl rfl rfl ?_
      refine Z_iconst (a := 0) (v := 0) (q := 68) (by decide +kernel) (by decide +kernel) rfl ?_
      refine Z_istore_n (a := 3) (loc2 := [_, _, _, _]) (q := 69) (by decide +kernel) (by decide +kernel) rfl rfl rfl ?_
      exact h
    · replace h := h.2 hc
      refine Z_aload_n (a := 0) (q := 60) (by decide +kernel) rfl rfl ?_
      refine Z_bipush (a := 47) (v := 47) (q := 62) (by decide +kernel) (by decide +kernel) rfl ?_
      obtain ⟨Q7, hm, h⟩ := h
      refine Z_callVv (M2 := mX11_writes) (idx := 380) (d2 := d) (ci := 11) (As := [.int _]) (q := 65) (by decide +kernel) kX11_writes lX11_380 rfl rfl (by decide) rfl rfl (by decide +kernel) (Nat.le_of_ble_eq_true rfl) (Nat.le_refl _) hm rfl (fun iv8 rv9 lv10 hq => ?_)
      obtain ⟨hT11, h⟩ := h iv8 rv9 lv10 hq
      refine Z_iconst (a := 0) (v := 0) (q := 66) (by decide +kernel) (by decide +kernel) rfl ?_
      refine Z_istore_n (a := 2) (loc2 := [_, _, _, _]) (q := 67) (by decide +kernel) (by decide +kernel) rfl rfl rfl ?_
      refine Z_iconst (a := 0) (v := 0) (q := 68) (by decide +kernel) (by decide +kernel) rfl ?_
      refine Z_istore_n (a := 3) (loc2 := [_, _, _, _]) (q := 69) (by decide +kernel) (by decide +kernel) rfl rfl rfl ?_
      exact h
set_option maxRecDepth 4000 in
theorem bX11_write_69 {d : Nat} (x1 : Int32) (x2 : Int32) (x3 : Int32) {iv : zI} {rv : zR} {lv : zJ} {Q : Int32 → zI → zR → zJ → Prop} (hT : zTop rv) 
    (h : ((iv 176 0) ≤ x3 → (¬ x2 = 0 → Zi mX11_write (d + 1) 45 [some (.ref 174), some (.int (x1 + 1)), none, none] [] iv rv lv Q) ∧ (x2 = 0 → ∃ Q1 : zI → zR → zJ → Prop, Cv mX11_writes d [.ref 174, .int (48 : Int32)] iv rv lv Q1 ∧ ∀ (iv2 : zI) (rv3 : zR) (lv4 : zJ), Q1 iv2 rv3 lv4 → zTop rv3 ∧ (Zi mX11_write (d + 1) 45 [some (.ref 174), some (.int (x1 + 1)), none, none] [] iv2 rv3 lv4 Q))) ∧ (¬ (iv 176 0) ≤ x3 → vp_in x3 10 ∧ (((iv 183 x3.toNatClampNeg) = x1 → (x2 = 0 → ∃ Q8 : Int32 → zI → zR → zJ → Prop, Ci mX11_value d [.ref 174, .int x3] iv rv lv Q8 ∧ ∀ (v13 : Int32) (iv9 : zI) (rv10 : zR) (lv11 : zJ), Q8 v13 iv9 rv10 lv11 → zTop rv10 ∧ (∃ Q14 : zI → zR → zJ → Prop, Cv mX11_writesNumber d [.ref 174, .int v13] iv9 rv10 lv11 Q14 ∧ ∀ (iv15 : zI) (rv16 : zR) (lv17 : zJ), Q14 iv15 rv16 lv17 → zTop rv16 ∧ (Zi mX11_write (d + 1) 69 [some (.ref 174), some (.int x1), some (.int (1 : Int32)), some (.int (x3 + 1))] [] iv15 rv16 lv17 Q))) ∧ (¬ x2 = 0 → ∃ Q20 : zI → zR → zJ → Prop, Cv mX11_writes d [.ref 174, .int (43 : Int32)] iv rv lv Q20 ∧ ∀ (iv21 : zI) (rv22 : zR) (lv23 : zJ), Q20 iv21 rv22 lv23 → zTop rv22 ∧ (∃ Q26 : Int32 → zI → zR → zJ → Prop, Ci mX11_value d [.ref 174, .int x3] iv21 rv22 lv23 Q26 ∧ ∀ (v31 : Int32) (iv27 : zI) (rv28 : zR) (lv29 : zJ), Q26 v31 iv27 rv28 lv29 → zTop rv28 ∧ (∃ Q32 : zI → zR → zJ → Prop, Cv mX11_writesNumber d [.ref 174, .int v31] iv27 rv28 lv29 Q32 ∧ ∀ (iv33 : zI) (rv34 : zR) (lv35 : zJ), Q32 iv33 rv34 lv35 → zTop rv34 ∧ (Zi mX11_write (d + 1) 69 [some (.ref 174), some (.int x1), some (.int (1 : Int32)), some (.int (x3 + 1))] [] iv33 rv34 lv35 Q))))) ∧ (¬ (iv 183 x3.toNatClampNeg) = x1 → Zi mX11_write (d + 1) 69 [some (.ref 174), some (.int x1), some (.int x2), some (.int (x3 + 1))] [] iv rv lv Q)))) :
    Zi mX11_write (d + 1) 69 [some (.ref 174), some (.int x1), some (.int x2), some (.int x3)] [] iv rv lv Q := by
  unfold Zi
  refine Z_iload_n (a := 3) (q := 70) (by decide +kernel) rfl rfl ?_
  refine Z_aload_n (a := 0) (q := 71) (by decide +kernel) rfl rfl ?_
  refine g11_14 (idx := 17) (q := 74) (by decide +kernel) fX11_17 rfl (by decide) (t11_14 hT) rfl ?_
  refine Z_iconst (a := 0) (v := 0) (q := 75) (by decide +kernel) (by decide +kernel) rfl ?_
  refine Z_iald (len := 35) (q := 76) (by decide +kernel) rfl (by decide) (by unfold vp_in; decide) rfl ?_
  refine Z_icmp_ge (t := 119) (off := 43) (q := 79) (by decide +kernel) (by decide) rfl (fun hc => ?_) (fun hc => ?_)
  · replace h := h.1 hc
    refine Z_iload_n (a := 2) (q := 120) (by decide +kernel) rfl rfl ?_
    refine Z_if_ne (t := 129) (off := 9) (q := 123) (by decide +kernel) (by decide) rfl (fun hc => ?_) (fun hc => ?_)
    · replace h := h.1 hc
      refine Z_iinc (a := 1) (b := 1) (v := _ + 1) (loc2 := [_, _, _, _]) (q := 132) (by decide +kernel) rfl (zinc _) (by decide +kernel) rfl rfl rfl ?_
      refine Z_goto (q := 45) (off := -87) (by decide +kernel) (by decide) ?_
      exact Z_forget h (And.intro rfl (And.intro rfl trivial))
    · replace h := h.2 hc
      refine Z_aload_n (a := 0) (q := 124) (by decide +kernel) rfl rfl ?_
      refine Z_bipush (a := 48) (v := 48) (q := 126) (by decide +kernel) (by decide +kernel) rfl ?_
      obtain ⟨Q1, hm, h⟩ := h
      refine Z_callVv (M2 := mX11_writes) (idx := 380) (d2 := d) (ci := 11) (As := [.int _]) (q := 129) (by decide +kernel) kX11_writes lX11_380 rfl rfl (by decide) rfl rfl (by decide +kernel) (Nat.le_of_ble_eq_true rfl) (Nat.le_refl _) hm rfl (fun iv2 rv3 lv4 hq => ?_)
      obtain ⟨hT5, h⟩ := h iv2 rv3 lv4 hq
      refine Z_iinc (a := 1) (b := 1) (v := _ + 1) (loc2 := [_, _, _, _]) (q := 132) (by decide +kernel) rfl (zinc _) (by decide +kernel) rfl rfl rfl ?_
      refine Z_goto (q := 45) (off := -87) (by decide +kernel) (by decide) ?_
      exact Z_forget h (And.intro rfl (And.intro rfl trivial))
  · replace h := h.2 hc
    refine Z_aload_n (a := 0) (q := 80) (by decide +kernel) rfl rfl ?_
    refine g11_24 (idx := 39) (q := 83) (by decide +kernel) fX11_39 rfl (by decide) (t11_24 hT) rfl ?_
    refine Z_iload_n (a := 3) (q := 84) (by decide +kernel) rfl rfl ?_
    obtain ⟨hin7, h⟩ := h
    refine Z_iald (len := 10) (q := 85) (by decide +kernel) rfl (by decide) hin7 rfl ?_
    refine Z_iload_n (a := 1) (q := 86) (by decide +kernel) rfl rfl ?_
    refine Z_icmp_eq (t := 92) (off := 6) (q := 89) (by decide +kernel) (by decide) rfl (fun hc => ?_) (fun hc => ?_)
    · replace h := h.1 hc
      refine Z_iload_n (a := 2) (q := 93) (by decide +kernel) rfl rfl ?_
      refine Z_if_eq (t := 102) (off := 9) (q := 96) (by decide +kernel) (by decide) rfl (fun hc => ?_) (fun hc => ?_)
      · replace h := h.1 hc
        refine Z_iconst (a := 1) (v := 1) (q := 103) (by decide +kernel) (by decide +kernel) rfl ?_
        refine Z_istore_n (a := 2) (loc2 := [_, _, _, _]) (q := 104) (by decide +kernel) (by decide +kernel) rfl rfl rfl ?_
        refine Z_aload_n (a := 0) (q := 105) (by decide +kernel) rfl rfl ?_
        refine Z_aload_n (a := 0) (q := 106) (by decide +kernel) rfl rfl ?_
        refine Z_iload_n (a := 3) (q := 107) (by decide +kernel) rfl rfl ?_
        obtain ⟨Q8, hm, h⟩ := h
        refine Z_callVi (M2 := mX11_value) (idx := 217) (d2 := d) (ci := 11) (As := [.int _]) (q := 110) (by decide +kernel) kX11_value lX11_217 rfl rfl (by decide) rfl rfl (by decide +kernel) (Nat.le_of_ble_eq_true rfl) (Nat.le_refl _) hm rfl (fun v13 iv9 rv10 lv11 hq => ?_)
        obtain ⟨hT12, h⟩ := h v13 iv9 rv10 lv11 hq
        obtain ⟨Q14, hm, h⟩ := h
        refine Z_callVv (M2 := mX11_writesNumber) (idx := 383) (d2 := d) (ci := 11) (As := [.int _]) (q := 113) (by decide +kernel) kX11_writesNumber lX11_383 rfl rfl (by decide) rfl rfl (by decide +kernel) (Nat.le_of_ble_eq_true rfl) (Nat.le_refl _) hm rfl (fun iv15 rv16 lv17 hq => ?_)
        obtain ⟨hT18, h⟩ := h iv15 rv16 lv17 hq
        refine Z_iinc (a := 3) (b := 1) (v := _ + 1) (loc2 := [_, _, _, _]) (q := 116) (by decide +kernel) rfl (zinc _) (by decide +kernel) rfl rfl rfl ?_
        refine Z_goto (q := 69) (off := -47) (by decide +kernel) (by decide) ?_
        exact h
      · replace h := h.2 hc
        refine Z_aload_n (a := 0) (q := 97) (by decide +kernel) rfl rfl ?_
        refine Z_bipush (a := 43) (v := 43) (q := 99) (by decide +kernel) (by decide +kernel) rfl ?_
        obtain ⟨Q20, hm, h⟩ := h
        refine Z_callVv (M2 := mX11_writes) (idx := 380) (d2 := d) (ci := 11) (As := [.int _]) (q := 102) (by decide +kernel) kX11_writes lX11_380 rfl rfl (by decide) rfl rfl (by decide +kernel) (Nat.le_of_ble_eq_true rfl) (Nat.le_refl _) hm rfl (fun iv21 rv22 lv23 hq => ?_)
        obtain ⟨hT24, h⟩ := h iv21 rv22 lv23 hq
        refine Z_iconst (a := 1) (v := 1) (q := 103) (by decide +kernel) (by decide +kernel) rfl ?_
        refine Z_istore_n (a := 2) (loc2 := [_, _, _, _]) (q := 104) (by decide +kernel) (by decide +kernel) rfl rfl rfl ?_
        refine Z_aload_n (a := 0) (q := 105) (by decide +kernel) rfl rfl ?_
        refine Z_aload_n (a := 0) (q := 106) (by decide +kernel) rfl rfl ?_
        refine Z_iload_n (a := 3) (q := 107) (by decide +kernel) rfl rfl ?_
        obtain ⟨Q26, hm, h⟩ := h
        refine Z_callVi (M2 := mX11_value) (idx := 217) (d2 := d) (ci := 11) (As := [.int _]) (q := 110) (by decide +kernel) kX11_value lX11_217 rfl rfl (by decide) rfl rfl (by decide +kernel) (Nat.le_of_ble_eq_true rfl) (Nat.le_refl _) hm rfl (fun v31 iv27 rv28 lv29 hq => ?_)
        obtain ⟨hT30, h⟩ := h v31 iv27 rv28 lv29 hq
        obtain ⟨Q32, hm, h⟩ := h
        refine Z_callVv (M2 := mX11_writesNumber) (idx := 383) (d2 := d) (ci := 11) (As := [.int _]) (q := 113) (by decide +kernel) kX11_writesNumber lX11_383 rfl rfl (by decide) rfl rfl (by decide +kernel) (Nat.le_of_ble_eq_true rfl) (Nat.le_refl _) hm rfl (fun iv33 rv34 lv35 hq => ?_)
        obtain ⟨hT36, h⟩ := h iv33 rv34 lv35 hq
        refine Z_iinc (a := 3) (b := 1) (v := _ + 1) (loc2 := [_, _, _, _]) (q := 116) (by decide +kernel) rfl (zinc _) (by decide +kernel) rfl rfl rfl ?_
        refine Z_goto (q := 69) (off := -47) (by decide +kernel) (by decide) ?_
        exact h
    · replace h := h.2 hc
      refine Z_goto (q := 113) (off := 24) (by decide +kernel) (by decide) ?_
      refine Z_iinc (a := 3) (b := 1) (v := _ + 1) (loc2 := [_, _, _, _]) (q := 116) (by decide +kernel) rfl (zinc _) (by decide +kernel) rfl rfl rfl ?_
      refine Z_goto (q := 69) (off := -47) (by decide +kernel) (by decide) ?_
      exact h
theorem eX11_octet {d : Nat} (x1 : Int32) {iv : zI} {rv : zR} {lv : zJ} {Q : Int32 → zI → zR → zJ → Prop} (h : Zi mX11_octet (d + 1) 0 [some (.ref 174), some (.int x1)] [] iv rv lv Q) : Ci mX11_octet (d + 1) [.ref 174, .int x1] iv rv lv Q := Ci.of (by decide +kernel) (by simp [Value.category]) (Nat.le_of_ble_eq_true rfl) rfl h
set_option maxRecDepth 4000 in
theorem bX11_octet_0 {d : Nat} (x1 : Int32) {iv : zI} {rv : zR} {lv : zJ} {Q : Int32 → zI → zR → zJ → Prop} (hT : zTop rv) 
    (h : ∃ Q1 : Int32 → zI → zR → zJ → Prop, Ci mX11_in d [.int x1, .int (0 : Int32), .int ((iv 174 51) - (1 : Int32))] iv rv lv Q1 ∧ ∀ (v6 : Int32) (iv2 : zI) (rv3 : zR) (lv4 : zJ), Q1 v6 iv2 rv3 lv4 → zTop rv3 ∧ ((v6 = 0 → ∀ iv7 : zI, iv7 = zu iv2 174 0 (1 : Int32) → (¬ (iv7 174 0) = (1 : Int32) → vp_in x1 80 ∧ (Q (iv7 198 x1.toNatClampNeg) iv7 rv3 lv4)) ∧ ((iv7 174 0) = (1 : Int32) → Q (0 : Int32) iv7 rv3 lv4)) ∧ (¬ v6 = 0 → ∀ iv9 : zI, iv9 = zu iv2 174 0 (0 : Int32) → (¬ (iv9 174 0) = (1 : Int32) → vp_in x1 80 ∧ (Q (iv9 198 x1.toNatClampNeg) iv9 rv3 lv4)) ∧ ((iv9 174 0) = (1 : Int32) → Q (0 : Int32) iv9 rv3 lv4)))) :
    Zi mX11_octet (d + 1) 0 [some (.ref 174), some (.int x1)] [] iv rv lv Q := by
  unfold Zi
  refine Z_aload_n (a := 0) (q := 1) (by decide +kernel) rfl rfl ?_
  refine Z_iload_n (a := 1) (q := 2) (by decide +kernel) rfl rfl ?_
  refine Z_iconst (a := 0) (v := 0) (q := 3) (by decide +kernel) (by decide +kernel) rfl ?_
  refine Z_aload_n (a := 0) (q := 4) (by decide +kernel) rfl rfl ?_
  refine g11_51 (idx := 377) (q := 7) (by decide +kernel) fX11_377 rfl (by decide) rfl ?_
  refine Z_iconst (a := 1) (v := 1) (q := 8) (by decide +kernel) (by decide +kernel) rfl ?_
  refine Z_isub (q := 9) (by decide +kernel) rfl ?_
  obtain ⟨Q1, hm, h⟩ := h
  refine Z_callSi (M2 := mX11_in) (idx := 112) (d2 := d) (As := [.int _, .int _, .int _]) (q := 12) (by decide +kernel) kX11_in lX11_112 rfl rfl (by decide +kernel) (Nat.le_of_ble_eq_true rfl) (Nat.le_refl _) hm rfl (fun v6 iv2 rv3 lv4 hq => ?_)
  obtain ⟨hT5, h⟩ := h v6 iv2 rv3 lv4 hq
  refine Z_if_eq (t := 19) (off := 7) (q := 15) (by decide +kernel) (by decide) rfl (fun hc => ?_) (fun hc => ?_)
  · replace h := h.1 hc
    refine Z_iconst (a := 1) (v := 1) (q := 20) (by decide +kernel) (by decide +kernel) rfl ?_
    refine p11_0 (idx := 87) (q := 23) (by decide +kernel) fX11_87 rfl (by decide) rfl ?_
    replace h := h _ rfl
    refine Z_aload_n (a := 0) (q := 24) (by decide +kernel) rfl rfl ?_
    refine g11_0 (idx := 87) (q := 27) (by decide +kernel) fX11_87 rfl (by decide) rfl ?_
    refine Z_iconst (a := 1) (v := 1) (q := 28) (by decide +kernel) (by decide +kernel) rfl ?_
    refine Z_icmp_ne (t := 35) (off := 7) (q := 31) (by decide +kernel) (by decide) rfl (fun hc => ?_) (fun hc => ?_)
    · replace h := h.1 hc
      refine Z_aload_n (a := 0) (q := 36) (by decide +kernel) rfl rfl ?_
      refine g11_50 (idx := 84) (q := 39) (by decide +kernel) fX11_84 rfl (by decide) (t11_50 hT5) rfl ?_
      refine Z_iload_n (a := 1) (q := 40) (by decide +kernel) rfl rfl ?_
      obtain ⟨hin8, h⟩ := h
      refine Z_iald (len := 80) (q := 41) (by decide +kernel) rfl (by decide) hin8 rfl ?_
      exact Z_iret (ty := .int) (by decide +kernel) rfl rfl rfl ⟨_, rfl, h⟩
    · replace h := h.2 hc
      refine Z_iconst (a := 0) (v := 0) (q := 32) (by decide +kernel) (by decide +kernel) rfl ?_
      refine Z_goto (q := 41) (off := 9) (by decide +kernel) (by decide) ?_
      exact Z_iret (ty := .int) (by decide +kernel) rfl rfl rfl ⟨_, rfl, h⟩
  · replace h := h.2 hc
    refine Z_iconst (a := 0) (v := 0) (q := 16) (by decide +kernel) (by decide +kernel) rfl ?_
    refine Z_goto (q := 20) (off := 4) (by decide +kernel) (by decide) ?_
    refine p11_0 (idx := 87) (q := 23) (by decide +kernel) fX11_87 rfl (by decide) rfl ?_
    replace h := h _ rfl
    refine Z_aload_n (a := 0) (q := 24) (by decide +kernel) rfl rfl ?_
    refine g11_0 (idx := 87) (q := 27) (by decide +kernel) fX11_87 rfl (by decide) rfl ?_
    refine Z_iconst (a := 1) (v := 1) (q := 28) (by decide +kernel) (by decide +kernel) rfl ?_
    refine Z_icmp_ne (t := 35) (off := 7) (q := 31) (by decide +kernel) (by decide) rfl (fun hc => ?_) (fun hc => ?_)
    · replace h := h.1 hc
      refine Z_aload_n (a := 0) (q := 36) (by decide +kernel) rfl rfl ?_
      refine g11_50 (idx := 84) (q := 39) (by decide +kernel) fX11_84 rfl (by decide) (t11_50 hT5) rfl ?_
      refine Z_iload_n (a := 1) (q := 40) (by decide +kernel) rfl rfl ?_
      obtain ⟨hin10, h⟩ := h
      refine Z_iald (len := 80) (q := 41) (by decide +kernel) rfl (by decide) hin10 rfl ?_
      exact Z_iret (ty := .int) (by decide +kernel) rfl rfl rfl ⟨_, rfl, h⟩
    · replace h := h.2 hc
      refine Z_iconst (a := 0) (v := 0) (q := 32) (by decide +kernel) (by decide +kernel) rfl ?_
      refine Z_goto (q := 41) (off := 9) (by decide +kernel) (by decide) ?_
      exact Z_iret (ty := .int) (by decide +kernel) rfl rfl rfl ⟨_, rfl, h⟩
theorem eX11_bytes {d : Nat}  {iv : zI} {rv : zR} {lv : zJ} {Q : Int32 → zI → zR → zJ → Prop} (h : Zi mX11_bytes d 0 [some (.ref 174)] [] iv rv lv Q) : Ci mX11_bytes d [.ref 174] iv rv lv Q := Ci.of (by decide +kernel) (by simp [Value.category]) (Nat.le_of_ble_eq_true rfl) rfl h
set_option maxRecDepth 4000 in
theorem bX11_bytes_0 {d : Nat}  {iv : zI} {rv : zR} {lv : zJ} {Q : Int32 → zI → zR → zJ → Prop} (hT : zTop rv) 
    (h : ∀ iv1 : zI, iv1 = zu iv 174 0 (0 : Int32) → Q (iv1 174 4) iv1 rv lv) :
    Zi mX11_bytes d 0 [some (.ref 174)] [] iv rv lv Q := by
  unfold Zi
  refine Z_aload_n (a := 0) (q := 1) (by decide +kernel) rfl rfl ?_
  refine Z_iconst (a := 0) (v := 0) (q := 2) (by decide +kernel) (by decide +kernel) rfl ?_
  refine p11_0 (idx := 87) (q := 5) (by decide +kernel) fX11_87 rfl (by decide) rfl ?_
  replace h := h _ rfl
  refine Z_aload_n (a := 0) (q := 6) (by decide +kernel) rfl rfl ?_
  refine g11_4 (idx := 97) (q := 9) (by decide +kernel) fX11_97 rfl (by decide) rfl ?_
  exact Z_iret (ty := .int) (by decide +kernel) rfl rfl rfl ⟨_, rfl, h⟩
theorem eX11_trouble {d : Nat}  {iv : zI} {rv : zR} {lv : zJ} {Q : Int32 → zI → zR → zJ → Prop} (h : Zi mX11_trouble d 0 [some (.ref 174)] [] iv rv lv Q) : Ci mX11_trouble d [.ref 174] iv rv lv Q := Ci.of (by decide +kernel) (by simp [Value.category]) (Nat.le_of_ble_eq_true rfl) rfl h
set_option maxRecDepth 4000 in
theorem bX11_trouble_0 {d : Nat}  {iv : zI} {rv : zR} {lv : zJ} {Q : Int32 → zI → zR → zJ → Prop} (hT : zTop rv) 
    (h : ∀ iv1 : zI, iv1 = zu iv 174 0 (0 : Int32) → Q (iv1 174 1) iv1 rv lv) :
    Zi mX11_trouble d 0 [some (.ref 174)] [] iv rv lv Q := by
  unfold Zi
  refine Z_aload_n (a := 0) (q := 1) (by decide +kernel) rfl rfl ?_
  refine Z_iconst (a := 0) (v := 0) (q := 2) (by decide +kernel) (by decide +kernel) rfl ?_
  refine p11_0 (idx := 87) (q := 5) (by decide +kernel) fX11_87 rfl (by decide) rfl ?_
  replace h := h _ rfl
  refine Z_aload_n (a := 0) (q := 6) (by decide +kernel) rfl rfl ?_
  refine g11_1 (idx := 90) (q := 9) (by decide +kernel) fX11_90 rfl (by decide) rfl ?_
  exact Z_iret (ty := .int) (by decide +kernel) rfl rfl rfl ⟨_, rfl, h⟩
