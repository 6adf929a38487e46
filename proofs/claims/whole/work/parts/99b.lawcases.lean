/-! THE LAW'S CASES, by program. -/
theorem Z.forget {M : zM} {B : zB} {pc : Nat} {loc loc2 : List (Option Value)} {st : List Value} {n : Nat} {iv : zI} {rv : zR} {lv : zJ} {Q : zQ} (h : ∀ (i : Nat) (v : Value), loc2[i]? = some (some v) → loc[i]? = some (some v)) (k : Z M B pc loc2 st n iv rv lv Q) : Z M B pc loc st n iv rv lv Q := by
  intro l p e R s m args below meth c D dA ad0 adV xc xs Qm hC hR ad H locs ls h1 h2 h3 h4 h5 h6 h7
  exact k l p e R s m args below meth c D dA ad0 adV xc xs Qm hC hR ad H locs ls h1 ⟨h2.1, h2.2.1, fun i v hi => h2.2.2 i v (h i v hi)⟩ h3 h4 h5 h6 h7
theorem Z_arg {d x b L i k pc q : Nat} {xs : Nat → Int32} {o1 o2 o3 o5 o6 : Option Value} {rest : List Value} {iv : zI} {rv : zR} {lv : zJ} {Q : zQ} (d0 : decode cL_law pc = .ok (.aload_n 0, 1)) (d1 : decode cL_law (pc + 1) = .ok (.iload 4, 2)) (d3 : decode cL_law (pc + 3) = .ok (.iconst k, 1)) (d4 : decode cL_law (pc + 4) = .ok (.iadd, 1)) (d5 : decode cL_law (pc + 5) = .ok (.iaload, 1)) (hk : k < 6) (hi : i + 6 ≤ L) (hL : L ≤ 3072) (hq : pc + 6 = q) (kk : Z mLw (d, 0, 200, x, zKl b L xs) q [some (.ref 2000000), o1, o2, o3, some (.int (nI i)), o5, o6] (.int (xs (i + k)) :: rest) 200 iv rv lv Q) : Z mLw (d, 0, 200, x, zKl b L xs) pc [some (.ref 2000000), o1, o2, o3, some (.int (nI i)), o5, o6] rest 200 iv rv lv Q := by
  subst hq
  refine Z_aload_n (a := 0) (x := 2000000) d0 rfl rfl ?_
  refine Z_iload (a := 4) (x := nI i) d1 rfl rfl ?_
  refine Z_iconst (a := k) (v := nI k) d3 rfl rfl ?_
  refine Z_iadd d4 rfl ?_
  rw [nI_add]
  refine Z_scrAt d5 (vp_in_nI (by omega) (by omega)) rfl ?_
  rw [nI_clamp (by omega)]
  exact kk
theorem lc0 {d x b L i : Nat} {xs : Nat → Int32} {iv : zI} {rv : zR} {lv : zJ} {Q : zQ} (hi : i + 6 ≤ L) (hL : L ≤ 3072) (h : ∃ Q1 : Int32 → zI → zR → zJ → Prop, Ci mX10_feed d [.ref 0, .int (xs (i + 1)), .int (xs (i + 2)), .int (xs (i + 3)), .int (xs (i + 4)), .int (xs (i + 5))] iv rv lv Q1 ∧ ∀ v a1 b1 c1, Q1 v a1 b1 c1 → ∃ Q2 : Int32 → zI → zR → zJ → Prop, Ci mX11_feed d [.ref 174, .int (xs (i + 1)), .int (xs (i + 2)), .int (xs (i + 3)), .int (xs (i + 4)), .int (xs (i + 5))] a1 b1 c1 Q2 ∧ ∀ w a2 b2 c2, Q2 w a2 b2 c2 → v = w ∧ Z mLw (d + 1, 0, 200, x, zKl b L xs) 1401 [some (.ref 2000000), some (.ref 0), some (.ref 174), some (.ref 199), some (.int (nI i)), none, none] [] 200 a2 b2 c2 Q) : Z mLw (d + 1, 0, 200, x, zKl b L xs) 224 [some (.ref 2000000), some (.ref 0), some (.ref 174), some (.ref 199), some (.int (nI i)), none, none] [] 200 iv rv lv Q := by
  obtain ⟨Q1, hm, h⟩ := h
  refine Z_aload_n (a := 1) (q := 225) (by decide +kernel) rfl rfl ?_
  refine Z_arg (k := 1) (q := 231) (by decide +kernel) (by decide +kernel) (by decide +kernel) (by decide +kernel) (by decide +kernel) (by decide) hi hL rfl ?_
  refine Z_arg (k := 2) (q := 237) (by decide +kernel) (by decide +kernel) (by decide +kernel) (by decide +kernel) (by decide +kernel) (by decide) hi hL rfl ?_
  refine Z_arg (k := 3) (q := 243) (by decide +kernel) (by decide +kernel) (by decide +kernel) (by decide +kernel) (by decide +kernel) (by decide) hi hL rfl ?_
  refine Z_arg (k := 4) (q := 249) (by decide +kernel) (by decide +kernel) (by decide +kernel) (by decide +kernel) (by decide +kernel) (by decide) hi hL rfl ?_
  refine Z_arg (k := 5) (q := 255) (by decide +kernel) (by decide +kernel) (by decide +kernel) (by decide +kernel) (by decide +kernel) (by decide) hi hL rfl ?_
  refine Z_callVi (M2 := mX10_feed) (idx := 19) (d2 := d) (ci := 10) (As := [.int _, .int _, .int _, .int _, .int _]) (q := 258) (by decide +kernel) kX10_feed lL_19 rfl rfl (by decide) rfl rfl (by decide +kernel) (Nat.le_of_ble_eq_true rfl) (Nat.le_refl _) hm rfl (fun v a1 b1 c1 hq => ?_)
  obtain ⟨Q2, hm2, h⟩ := h v a1 b1 c1 hq
  refine Z_aload_n (a := 2) (q := 259) (by decide +kernel) rfl rfl ?_
  refine Z_arg (k := 1) (q := 265) (by decide +kernel) (by decide +kernel) (by decide +kernel) (by decide +kernel) (by decide +kernel) (by decide) hi hL rfl ?_
  refine Z_arg (k := 2) (q := 271) (by decide +kernel) (by decide +kernel) (by decide +kernel) (by decide +kernel) (by decide +kernel) (by decide) hi hL rfl ?_
  refine Z_arg (k := 3) (q := 277) (by decide +kernel) (by decide +kernel) (by decide +kernel) (by decide +kernel) (by decide +kernel) (by decide) hi hL rfl ?_
  refine Z_arg (k := 4) (q := 283) (by decide +kernel) (by decide +kernel) (by decide +kernel) (by decide +kernel) (by decide +kernel) (by decide) hi hL rfl ?_
  refine Z_arg (k := 5) (q := 289) (by decide +kernel) (by decide +kernel) (by decide +kernel) (by decide +kernel) (by decide +kernel) (by decide) hi hL rfl ?_
  refine Z_callVi (M2 := mX11_feed) (idx := 23) (d2 := d) (ci := 11) (As := [.int _, .int _, .int _, .int _, .int _]) (q := 292) (by decide +kernel) kX11_feed lL_23 rfl rfl (by decide) rfl rfl (by decide +kernel) (Nat.le_of_ble_eq_true rfl) (Nat.le_refl _) hm2 rfl (fun w a2 b2 c2 hq2 => ?_)
  obtain ⟨e, h⟩ := h w a2 b2 c2 hq2
  exact Z_icmp_eq (t := 1401) (off := 1109) (q := 295) (by decide +kernel) (by decide) rfl (fun _ => h) (fun z => absurd e z)
theorem lc1 {d x b L i : Nat} {xs : Nat → Int32} {iv : zI} {rv : zR} {lv : zJ} {Q : zQ} (hi : i + 6 ≤ L) (hL : L ≤ 3072) (h : ∃ Q1 : Int32 → zI → zR → zJ → Prop, Ci mX10_text d [.ref 0, .int (xs (i + 1))] iv rv lv Q1 ∧ ∀ v a1 b1 c1, Q1 v a1 b1 c1 → ∃ Q2 : Int32 → zI → zR → zJ → Prop, Ci mX11_text d [.ref 174, .int (xs (i + 1))] a1 b1 c1 Q2 ∧ ∀ w a2 b2 c2, Q2 w a2 b2 c2 → v = w ∧ Z mLw (d + 1, 0, 200, x, zKl b L xs) 1401 [some (.ref 2000000), some (.ref 0), some (.ref 174), some (.ref 199), some (.int (nI i)), none, none] [] 200 a2 b2 c2 Q) : Z mLw (d + 1, 0, 200, x, zKl b L xs) 297 [some (.ref 2000000), some (.ref 0), some (.ref 174), some (.ref 199), some (.int (nI i)), none, none] [] 200 iv rv lv Q := by
  obtain ⟨Q1, hm, h⟩ := h
  refine Z_aload_n (a := 1) (q := 298) (by decide +kernel) rfl rfl ?_
  refine Z_arg (k := 1) (q := 304) (by decide +kernel) (by decide +kernel) (by decide +kernel) (by decide +kernel) (by decide +kernel) (by decide) hi hL rfl ?_
  refine Z_callVi (M2 := mX10_text) (idx := 24) (d2 := d) (ci := 10) (As := [.int _]) (q := 307) (by decide +kernel) kX10_text lL_24 rfl rfl (by decide) rfl rfl (by decide +kernel) (Nat.le_of_ble_eq_true rfl) (Nat.le_refl _) hm rfl (fun v a1 b1 c1 hq => ?_)
  obtain ⟨Q2, hm2, h⟩ := h v a1 b1 c1 hq
  refine Z_aload_n (a := 2) (q := 308) (by decide +kernel) rfl rfl ?_
  refine Z_arg (k := 1) (q := 314) (by decide +kernel) (by decide +kernel) (by decide +kernel) (by decide +kernel) (by decide +kernel) (by decide) hi hL rfl ?_
  refine Z_callVi (M2 := mX11_text) (idx := 27) (d2 := d) (ci := 11) (As := [.int _]) (q := 317) (by decide +kernel) kX11_text lL_27 rfl rfl (by decide) rfl rfl (by decide +kernel) (Nat.le_of_ble_eq_true rfl) (Nat.le_refl _) hm2 rfl (fun w a2 b2 c2 hq2 => ?_)
  obtain ⟨e, h⟩ := h w a2 b2 c2 hq2
  exact Z_icmp_eq (t := 1401) (off := 1084) (q := 320) (by decide +kernel) (by decide) rfl (fun _ => h) (fun z => absurd e z)
theorem lc2 {d x b L i : Nat} {xs : Nat → Int32} {iv : zI} {rv : zR} {lv : zJ} {Q : zQ} (hi : i + 6 ≤ L) (hL : L ≤ 3072) (h : ∃ Q1 : Int32 → zI → zR → zJ → Prop, Ci mX10_fault d [.ref 0] iv rv lv Q1 ∧ ∀ v a1 b1 c1, Q1 v a1 b1 c1 → ∃ Q2 : Int32 → zI → zR → zJ → Prop, Ci mX11_fault d [.ref 174] a1 b1 c1 Q2 ∧ ∀ w a2 b2 c2, Q2 w a2 b2 c2 → v = w ∧ Z mLw (d + 1, 0, 200, x, zKl b L xs) 1401 [some (.ref 2000000), some (.ref 0), some (.ref 174), some (.ref 199), some (.int (nI i)), none, none] [] 200 a2 b2 c2 Q) : Z mLw (d + 1, 0, 200, x, zKl b L xs) 322 [some (.ref 2000000), some (.ref 0), some (.ref 174), some (.ref 199), some (.int (nI i)), none, none] [] 200 iv rv lv Q := by
  obtain ⟨Q1, hm, h⟩ := h
  refine Z_aload_n (a := 1) (q := 323) (by decide +kernel) rfl rfl ?_
  refine Z_callVi (M2 := mX10_fault) (idx := 28) (d2 := d) (ci := 10) (As := []) (q := 326) (by decide +kernel) kX10_fault lL_28 rfl rfl (by decide) rfl rfl (by decide +kernel) (Nat.le_of_ble_eq_true rfl) (Nat.le_refl _) hm rfl (fun v a1 b1 c1 hq => ?_)
  obtain ⟨Q2, hm2, h⟩ := h v a1 b1 c1 hq
  refine Z_aload_n (a := 2) (q := 327) (by decide +kernel) rfl rfl ?_
  refine Z_callVi (M2 := mX11_fault) (idx := 32) (d2 := d) (ci := 11) (As := []) (q := 330) (by decide +kernel) kX11_fault lL_32 rfl rfl (by decide) rfl rfl (by decide +kernel) (Nat.le_of_ble_eq_true rfl) (Nat.le_refl _) hm2 rfl (fun w a2 b2 c2 hq2 => ?_)
  obtain ⟨e, h⟩ := h w a2 b2 c2 hq2
  exact Z_icmp_eq (t := 1401) (off := 1071) (q := 333) (by decide +kernel) (by decide) rfl (fun _ => h) (fun z => absurd e z)
theorem lc3 {d x b L i : Nat} {xs : Nat → Int32} {iv : zI} {rv : zR} {lv : zJ} {Q : zQ} (hi : i + 6 ≤ L) (hL : L ≤ 3072) (h : ∃ Q1 : Int32 → zI → zR → zJ → Prop, Ci mX10_where d [.ref 0] iv rv lv Q1 ∧ ∀ v a1 b1 c1, Q1 v a1 b1 c1 → ∃ Q2 : Int32 → zI → zR → zJ → Prop, Ci mX11_where d [.ref 174] a1 b1 c1 Q2 ∧ ∀ w a2 b2 c2, Q2 w a2 b2 c2 → v = w ∧ Z mLw (d + 1, 0, 200, x, zKl b L xs) 1401 [some (.ref 2000000), some (.ref 0), some (.ref 174), some (.ref 199), some (.int (nI i)), none, none] [] 200 a2 b2 c2 Q) : Z mLw (d + 1, 0, 200, x, zKl b L xs) 335 [some (.ref 2000000), some (.ref 0), some (.ref 174), some (.ref 199), some (.int (nI i)), none, none] [] 200 iv rv lv Q := by
  obtain ⟨Q1, hm, h⟩ := h
  refine Z_aload_n (a := 1) (q := 336) (by decide +kernel) rfl rfl ?_
  refine Z_callVi (M2 := mX10_where) (idx := 33) (d2 := d) (ci := 10) (As := []) (q := 339) (by decide +kernel) kX10_where lL_33 rfl rfl (by decide) rfl rfl (by decide +kernel) (Nat.le_of_ble_eq_true rfl) (Nat.le_refl _) hm rfl (fun v a1 b1 c1 hq => ?_)
  obtain ⟨Q2, hm2, h⟩ := h v a1 b1 c1 hq
  refine Z_aload_n (a := 2) (q := 340) (by decide +kernel) rfl rfl ?_
  refine Z_callVi (M2 := mX11_where) (idx := 36) (d2 := d) (ci := 11) (As := []) (q := 343) (by decide +kernel) kX11_where lL_36 rfl rfl (by decide) rfl rfl (by decide +kernel) (Nat.le_of_ble_eq_true rfl) (Nat.le_refl _) hm2 rfl (fun w a2 b2 c2 hq2 => ?_)
  obtain ⟨e, h⟩ := h w a2 b2 c2 hq2
  exact Z_icmp_eq (t := 1401) (off := 1058) (q := 346) (by decide +kernel) (by decide) rfl (fun _ => h) (fun z => absurd e z)
theorem lc4 {d x b L i : Nat} {xs : Nat → Int32} {iv : zI} {rv : zR} {lv : zJ} {Q : zQ} (hi : i + 6 ≤ L) (hL : L ≤ 3072) (h : ∃ Q1 : Int32 → zI → zR → zJ → Prop, Ci mX10_about d [.ref 0, .int (xs (i + 1))] iv rv lv Q1 ∧ ∀ v a1 b1 c1, Q1 v a1 b1 c1 → ∃ Q2 : Int32 → zI → zR → zJ → Prop, Ci mX11_about d [.ref 174, .int (xs (i + 1))] a1 b1 c1 Q2 ∧ ∀ w a2 b2 c2, Q2 w a2 b2 c2 → v = w ∧ Z mLw (d + 1, 0, 200, x, zKl b L xs) 1401 [some (.ref 2000000), some (.ref 0), some (.ref 174), some (.ref 199), some (.int (nI i)), none, none] [] 200 a2 b2 c2 Q) : Z mLw (d + 1, 0, 200, x, zKl b L xs) 348 [some (.ref 2000000), some (.ref 0), some (.ref 174), some (.ref 199), some (.int (nI i)), none, none] [] 200 iv rv lv Q := by
  obtain ⟨Q1, hm, h⟩ := h
  refine Z_aload_n (a := 1) (q := 349) (by decide +kernel) rfl rfl ?_
  refine Z_arg (k := 1) (q := 355) (by decide +kernel) (by decide +kernel) (by decide +kernel) (by decide +kernel) (by decide +kernel) (by decide) hi hL rfl ?_
  refine Z_callVi (M2 := mX10_about) (idx := 37) (d2 := d) (ci := 10) (As := [.int _]) (q := 358) (by decide +kernel) kX10_about lL_37 rfl rfl (by decide) rfl rfl (by decide +kernel) (Nat.le_of_ble_eq_true rfl) (Nat.le_refl _) hm rfl (fun v a1 b1 c1 hq => ?_)
  obtain ⟨Q2, hm2, h⟩ := h v a1 b1 c1 hq
  refine Z_aload_n (a := 2) (q := 359) (by decide +kernel) rfl rfl ?_
  refine Z_arg (k := 1) (q := 365) (by decide +kernel) (by decide +kernel) (by decide +kernel) (by decide +kernel) (by decide +kernel) (by decide) hi hL rfl ?_
  refine Z_callVi (M2 := mX11_about) (idx := 40) (d2 := d) (ci := 11) (As := [.int _]) (q := 368) (by decide +kernel) kX11_about lL_40 rfl rfl (by decide) rfl rfl (by decide +kernel) (Nat.le_of_ble_eq_true rfl) (Nat.le_refl _) hm2 rfl (fun w a2 b2 c2 hq2 => ?_)
  obtain ⟨e, h⟩ := h w a2 b2 c2 hq2
  exact Z_icmp_eq (t := 1401) (off := 1033) (q := 371) (by decide +kernel) (by decide) rfl (fun _ => h) (fun z => absurd e z)
theorem lc5 {d x b L i : Nat} {xs : Nat → Int32} {iv : zI} {rv : zR} {lv : zJ} {Q : zQ} (hi : i + 6 ≤ L) (hL : L ≤ 3072) (h : ∃ Q1 : Int32 → zI → zR → zJ → Prop, Ci mX10_number d [.ref 0, .int (xs (i + 1)), .int (xs (i + 2))] iv rv lv Q1 ∧ ∀ v a1 b1 c1, Q1 v a1 b1 c1 → ∃ Q2 : Int32 → zI → zR → zJ → Prop, Ci mX11_number d [.ref 174, .int (xs (i + 1)), .int (xs (i + 2))] a1 b1 c1 Q2 ∧ ∀ w a2 b2 c2, Q2 w a2 b2 c2 → v = w ∧ Z mLw (d + 1, 0, 200, x, zKl b L xs) 1401 [some (.ref 2000000), some (.ref 0), some (.ref 174), some (.ref 199), some (.int (nI i)), none, none] [] 200 a2 b2 c2 Q) : Z mLw (d + 1, 0, 200, x, zKl b L xs) 373 [some (.ref 2000000), some (.ref 0), some (.ref 174), some (.ref 199), some (.int (nI i)), none, none] [] 200 iv rv lv Q := by
  obtain ⟨Q1, hm, h⟩ := h
  refine Z_aload_n (a := 1) (q := 374) (by decide +kernel) rfl rfl ?_
  refine Z_arg (k := 1) (q := 380) (by decide +kernel) (by decide +kernel) (by decide +kernel) (by decide +kernel) (by decide +kernel) (by decide) hi hL rfl ?_
  refine Z_arg (k := 2) (q := 386) (by decide +kernel) (by decide +kernel) (by decide +kernel) (by decide +kernel) (by decide +kernel) (by decide) hi hL rfl ?_
  refine Z_callVi (M2 := mX10_number) (idx := 41) (d2 := d) (ci := 10) (As := [.int _, .int _]) (q := 389) (by decide +kernel) kX10_number lL_41 rfl rfl (by decide) rfl rfl (by decide +kernel) (Nat.le_of_ble_eq_true rfl) (Nat.le_refl _) hm rfl (fun v a1 b1 c1 hq => ?_)
  obtain ⟨Q2, hm2, h⟩ := h v a1 b1 c1 hq
  refine Z_aload_n (a := 2) (q := 390) (by decide +kernel) rfl rfl ?_
  refine Z_arg (k := 1) (q := 396) (by decide +kernel) (by decide +kernel) (by decide +kernel) (by decide +kernel) (by decide +kernel) (by decide) hi hL rfl ?_
  refine Z_arg (k := 2) (q := 402) (by decide +kernel) (by decide +kernel) (by decide +kernel) (by decide +kernel) (by decide +kernel) (by decide) hi hL rfl ?_
  refine Z_callVi (M2 := mX11_number) (idx := 45) (d2 := d) (ci := 11) (As := [.int _, .int _]) (q := 405) (by decide +kernel) kX11_number lL_45 rfl rfl (by decide) rfl rfl (by decide +kernel) (Nat.le_of_ble_eq_true rfl) (Nat.le_refl _) hm2 rfl (fun w a2 b2 c2 hq2 => ?_)
  obtain ⟨e, h⟩ := h w a2 b2 c2 hq2
  exact Z_icmp_eq (t := 1401) (off := 996) (q := 408) (by decide +kernel) (by decide) rfl (fun _ => h) (fun z => absurd e z)
theorem lc6 {d x b L i : Nat} {xs : Nat → Int32} {iv : zI} {rv : zR} {lv : zJ} {Q : zQ} (hi : i + 6 ≤ L) (hL : L ≤ 3072) (h : ∃ Q1 : Int32 → zI → zR → zJ → Prop, Ci mX10_sized d [.ref 0, .int (xs (i + 1))] iv rv lv Q1 ∧ ∀ v a1 b1 c1, Q1 v a1 b1 c1 → ∃ Q2 : Int32 → zI → zR → zJ → Prop, Ci mX11_sized d [.ref 174, .int (xs (i + 1))] a1 b1 c1 Q2 ∧ ∀ w a2 b2 c2, Q2 w a2 b2 c2 → v = w ∧ Z mLw (d + 1, 0, 200, x, zKl b L xs) 1401 [some (.ref 2000000), some (.ref 0), some (.ref 174), some (.ref 199), some (.int (nI i)), none, none] [] 200 a2 b2 c2 Q) : Z mLw (d + 1, 0, 200, x, zKl b L xs) 410 [some (.ref 2000000), some (.ref 0), some (.ref 174), some (.ref 199), some (.int (nI i)), none, none] [] 200 iv rv lv Q := by
  obtain ⟨Q1, hm, h⟩ := h
  refine Z_aload_n (a := 1) (q := 411) (by decide +kernel) rfl rfl ?_
  refine Z_arg (k := 1) (q := 417) (by decide +kernel) (by decide +kernel) (by decide +kernel) (by decide +kernel) (by decide +kernel) (by decide) hi hL rfl ?_
  refine Z_callVi (M2 := mX10_sized) (idx := 46) (d2 := d) (ci := 10) (As := [.int _]) (q := 420) (by decide +kernel) kX10_sized lL_46 rfl rfl (by decide) rfl rfl (by decide +kernel) (Nat.le_of_ble_eq_true rfl) (Nat.le_refl _) hm rfl (fun v a1 b1 c1 hq => ?_)
  obtain ⟨Q2, hm2, h⟩ := h v a1 b1 c1 hq
  refine Z_aload_n (a := 2) (q := 421) (by decide +kernel) rfl rfl ?_
  refine Z_arg (k := 1) (q := 427) (by decide +kernel) (by decide +kernel) (by decide +kernel) (by decide +kernel) (by decide +kernel) (by decide) hi hL rfl ?_
  refine Z_callVi (M2 := mX11_sized) (idx := 49) (d2 := d) (ci := 11) (As := [.int _]) (q := 430) (by decide +kernel) kX11_sized lL_49 rfl rfl (by decide) rfl rfl (by decide +kernel) (Nat.le_of_ble_eq_true rfl) (Nat.le_refl _) hm2 rfl (fun w a2 b2 c2 hq2 => ?_)
  obtain ⟨e, h⟩ := h w a2 b2 c2 hq2
  exact Z_icmp_eq (t := 1401) (off := 971) (q := 433) (by decide +kernel) (by decide) rfl (fun _ => h) (fun z => absurd e z)
theorem lc7 {d x b L i : Nat} {xs : Nat → Int32} {iv : zI} {rv : zR} {lv : zJ} {Q : zQ} (hi : i + 6 ≤ L) (hL : L ≤ 3072) (h : ∃ Q1 : Int32 → zI → zR → zJ → Prop, Ci mX10_greedy d [.ref 0, .int (xs (i + 1)), .int (xs (i + 2))] iv rv lv Q1 ∧ ∀ v a1 b1 c1, Q1 v a1 b1 c1 → ∃ Q2 : Int32 → zI → zR → zJ → Prop, Ci mX11_greedy d [.ref 174, .int (xs (i + 1)), .int (xs (i + 2))] a1 b1 c1 Q2 ∧ ∀ w a2 b2 c2, Q2 w a2 b2 c2 → v = w ∧ Z mLw (d + 1, 0, 200, x, zKl b L xs) 1401 [some (.ref 2000000), some (.ref 0), some (.ref 174), some (.ref 199), some (.int (nI i)), none, none] [] 200 a2 b2 c2 Q) : Z mLw (d + 1, 0, 200, x, zKl b L xs) 435 [some (.ref 2000000), some (.ref 0), some (.ref 174), some (.ref 199), some (.int (nI i)), none, none] [] 200 iv rv lv Q := by
  obtain ⟨Q1, hm, h⟩ := h
  refine Z_aload_n (a := 1) (q := 436) (by decide +kernel) rfl rfl ?_
  refine Z_arg (k := 1) (q := 442) (by decide +kernel) (by decide +kernel) (by decide +kernel) (by decide +kernel) (by decide +kernel) (by decide) hi hL rfl ?_
  refine Z_arg (k := 2) (q := 448) (by decide +kernel) (by decide +kernel) (by decide +kernel) (by decide +kernel) (by decide +kernel) (by decide) hi hL rfl ?_
  refine Z_callVi (M2 := mX10_greedy) (idx := 50) (d2 := d) (ci := 10) (As := [.int _, .int _]) (q := 451) (by decide +kernel) kX10_greedy lL_50 rfl rfl (by decide) rfl rfl (by decide +kernel) (Nat.le_of_ble_eq_true rfl) (Nat.le_refl _) hm rfl (fun v a1 b1 c1 hq => ?_)
  obtain ⟨Q2, hm2, h⟩ := h v a1 b1 c1 hq
  refine Z_aload_n (a := 2) (q := 452) (by decide +kernel) rfl rfl ?_
  refine Z_arg (k := 1) (q := 458) (by decide +kernel) (by decide +kernel) (by decide +kernel) (by decide +kernel) (by decide +kernel) (by decide) hi hL rfl ?_
  refine Z_arg (k := 2) (q := 464) (by decide +kernel) (by decide +kernel) (by decide +kernel) (by decide +kernel) (by decide +kernel) (by decide) hi hL rfl ?_
  refine Z_callVi (M2 := mX11_greedy) (idx := 53) (d2 := d) (ci := 11) (As := [.int _, .int _]) (q := 467) (by decide +kernel) kX11_greedy lL_53 rfl rfl (by decide) rfl rfl (by decide +kernel) (Nat.le_of_ble_eq_true rfl) (Nat.le_refl _) hm2 rfl (fun w a2 b2 c2 hq2 => ?_)
  obtain ⟨e, h⟩ := h w a2 b2 c2 hq2
  exact Z_icmp_eq (t := 1401) (off := 934) (q := 470) (by decide +kernel) (by decide) rfl (fun _ => h) (fun z => absurd e z)
theorem lc8 {d x b L i : Nat} {xs : Nat → Int32} {iv : zI} {rv : zR} {lv : zJ} {Q : zQ} (hi : i + 6 ≤ L) (hL : L ≤ 3072) (h : ∃ Q1 : Int32 → zI → zR → zJ → Prop, Ci mX10_greedyOf d [.ref 0, .int (xs (i + 1)), .int (xs (i + 2))] iv rv lv Q1 ∧ ∀ v a1 b1 c1, Q1 v a1 b1 c1 → ∃ Q2 : Int32 → zI → zR → zJ → Prop, Ci mX11_greedyOf d [.ref 174, .int (xs (i + 1)), .int (xs (i + 2))] a1 b1 c1 Q2 ∧ ∀ w a2 b2 c2, Q2 w a2 b2 c2 → v = w ∧ Z mLw (d + 1, 0, 200, x, zKl b L xs) 1401 [some (.ref 2000000), some (.ref 0), some (.ref 174), some (.ref 199), some (.int (nI i)), none, none] [] 200 a2 b2 c2 Q) : Z mLw (d + 1, 0, 200, x, zKl b L xs) 472 [some (.ref 2000000), some (.ref 0), some (.ref 174), some (.ref 199), some (.int (nI i)), none, none] [] 200 iv rv lv Q := by
  obtain ⟨Q1, hm, h⟩ := h
  refine Z_aload_n (a := 1) (q := 473) (by decide +kernel) rfl rfl ?_
  refine Z_arg (k := 1) (q := 479) (by decide +kernel) (by decide +kernel) (by decide +kernel) (by decide +kernel) (by decide +kernel) (by decide) hi hL rfl ?_
  refine Z_arg (k := 2) (q := 485) (by decide +kernel) (by decide +kernel) (by decide +kernel) (by decide +kernel) (by decide +kernel) (by decide) hi hL rfl ?_
  refine Z_callVi (M2 := mX10_greedyOf) (idx := 54) (d2 := d) (ci := 10) (As := [.int _, .int _]) (q := 488) (by decide +kernel) kX10_greedyOf lL_54 rfl rfl (by decide) rfl rfl (by decide +kernel) (Nat.le_of_ble_eq_true rfl) (Nat.le_refl _) hm rfl (fun v a1 b1 c1 hq => ?_)
  obtain ⟨Q2, hm2, h⟩ := h v a1 b1 c1 hq
  refine Z_aload_n (a := 2) (q := 489) (by decide +kernel) rfl rfl ?_
  refine Z_arg (k := 1) (q := 495) (by decide +kernel) (by decide +kernel) (by decide +kernel) (by decide +kernel) (by decide +kernel) (by decide) hi hL rfl ?_
  refine Z_arg (k := 2) (q := 501) (by decide +kernel) (by decide +kernel) (by decide +kernel) (by decide +kernel) (by decide +kernel) (by decide) hi hL rfl ?_
  refine Z_callVi (M2 := mX11_greedyOf) (idx := 57) (d2 := d) (ci := 11) (As := [.int _, .int _]) (q := 504) (by decide +kernel) kX11_greedyOf lL_57 rfl rfl (by decide) rfl rfl (by decide +kernel) (Nat.le_of_ble_eq_true rfl) (Nat.le_refl _) hm2 rfl (fun w a2 b2 c2 hq2 => ?_)
  obtain ⟨e, h⟩ := h w a2 b2 c2 hq2
  exact Z_icmp_eq (t := 1401) (off := 897) (q := 507) (by decide +kernel) (by decide) rfl (fun _ => h) (fun z => absurd e z)
theorem lc9 {d x b L i : Nat} {xs : Nat → Int32} {iv : zI} {rv : zR} {lv : zJ} {Q : zQ} (hi : i + 6 ≤ L) (hL : L ≤ 3072) (h : ∃ Q1 : Int32 → zI → zR → zJ → Prop, Ci mX10_difference d [.ref 0] iv rv lv Q1 ∧ ∀ v a1 b1 c1, Q1 v a1 b1 c1 → ∃ Q2 : Int32 → zI → zR → zJ → Prop, Ci mX11_difference d [.ref 174] a1 b1 c1 Q2 ∧ ∀ w a2 b2 c2, Q2 w a2 b2 c2 → v = w ∧ Z mLw (d + 1, 0, 200, x, zKl b L xs) 1401 [some (.ref 2000000), some (.ref 0), some (.ref 174), some (.ref 199), some (.int (nI i)), none, none] [] 200 a2 b2 c2 Q) : Z mLw (d + 1, 0, 200, x, zKl b L xs) 509 [some (.ref 2000000), some (.ref 0), some (.ref 174), some (.ref 199), some (.int (nI i)), none, none] [] 200 iv rv lv Q := by
  obtain ⟨Q1, hm, h⟩ := h
  refine Z_aload_n (a := 1) (q := 510) (by decide +kernel) rfl rfl ?_
  refine Z_callVi (M2 := mX10_difference) (idx := 58) (d2 := d) (ci := 10) (As := []) (q := 513) (by decide +kernel) kX10_difference lL_58 rfl rfl (by decide) rfl rfl (by decide +kernel) (Nat.le_of_ble_eq_true rfl) (Nat.le_refl _) hm rfl (fun v a1 b1 c1 hq => ?_)
  obtain ⟨Q2, hm2, h⟩ := h v a1 b1 c1 hq
  refine Z_aload_n (a := 2) (q := 514) (by decide +kernel) rfl rfl ?_
  refine Z_callVi (M2 := mX11_difference) (idx := 61) (d2 := d) (ci := 11) (As := []) (q := 517) (by decide +kernel) kX11_difference lL_61 rfl rfl (by decide) rfl rfl (by decide +kernel) (Nat.le_of_ble_eq_true rfl) (Nat.le_refl _) hm2 rfl (fun w a2 b2 c2 hq2 => ?_)
  obtain ⟨e, h⟩ := h w a2 b2 c2 hq2
  exact Z_icmp_eq (t := 1401) (off := 884) (q := 520) (by decide +kernel) (by decide) rfl (fun _ => h) (fun z => absurd e z)
theorem lc10 {d x b L i : Nat} {xs : Nat → Int32} {iv : zI} {rv : zR} {lv : zJ} {Q : zQ} (hi : i + 6 ≤ L) (hL : L ≤ 3072) (h : ∃ Q1 : Int32 → zI → zR → zJ → Prop, Ci mX10_differenceOf d [.ref 0, .int (xs (i + 1))] iv rv lv Q1 ∧ ∀ v a1 b1 c1, Q1 v a1 b1 c1 → ∃ Q2 : Int32 → zI → zR → zJ → Prop, Ci mX11_differenceOf d [.ref 174, .int (xs (i + 1))] a1 b1 c1 Q2 ∧ ∀ w a2 b2 c2, Q2 w a2 b2 c2 → v = w ∧ Z mLw (d + 1, 0, 200, x, zKl b L xs) 1401 [some (.ref 2000000), some (.ref 0), some (.ref 174), some (.ref 199), some (.int (nI i)), none, none] [] 200 a2 b2 c2 Q) : Z mLw (d + 1, 0, 200, x, zKl b L xs) 522 [some (.ref 2000000), some (.ref 0), some (.ref 174), some (.ref 199), some (.int (nI i)), none, none] [] 200 iv rv lv Q := by
  obtain ⟨Q1, hm, h⟩ := h
  refine Z_aload_n (a := 1) (q := 523) (by decide +kernel) rfl rfl ?_
  refine Z_arg (k := 1) (q := 529) (by decide +kernel) (by decide +kernel) (by decide +kernel) (by decide +kernel) (by decide +kernel) (by decide) hi hL rfl ?_
  refine Z_callVi (M2 := mX10_differenceOf) (idx := 62) (d2 := d) (ci := 10) (As := [.int _]) (q := 532) (by decide +kernel) kX10_differenceOf lL_62 rfl rfl (by decide) rfl rfl (by decide +kernel) (Nat.le_of_ble_eq_true rfl) (Nat.le_refl _) hm rfl (fun v a1 b1 c1 hq => ?_)
  obtain ⟨Q2, hm2, h⟩ := h v a1 b1 c1 hq
  refine Z_aload_n (a := 2) (q := 533) (by decide +kernel) rfl rfl ?_
  refine Z_arg (k := 1) (q := 539) (by decide +kernel) (by decide +kernel) (by decide +kernel) (by decide +kernel) (by decide +kernel) (by decide) hi hL rfl ?_
  refine Z_callVi (M2 := mX11_differenceOf) (idx := 65) (d2 := d) (ci := 11) (As := [.int _]) (q := 542) (by decide +kernel) kX11_differenceOf lL_65 rfl rfl (by decide) rfl rfl (by decide +kernel) (Nat.le_of_ble_eq_true rfl) (Nat.le_refl _) hm2 rfl (fun w a2 b2 c2 hq2 => ?_)
  obtain ⟨e, h⟩ := h w a2 b2 c2 hq2
  exact Z_icmp_eq (t := 1401) (off := 859) (q := 545) (by decide +kernel) (by decide) rfl (fun _ => h) (fun z => absurd e z)
theorem lc11 {d x b L i : Nat} {xs : Nat → Int32} {iv : zI} {rv : zR} {lv : zJ} {Q : zQ} (hi : i + 6 ≤ L) (hL : L ≤ 3072) (h : ∃ Q1 : Int32 → zI → zR → zJ → Prop, Ci mX10_step d [.ref 0, .int (xs (i + 1)), .int (xs (i + 2))] iv rv lv Q1 ∧ ∀ v a1 b1 c1, Q1 v a1 b1 c1 → ∃ Q2 : Int32 → zI → zR → zJ → Prop, Ci mX11_step d [.ref 174, .int (xs (i + 1)), .int (xs (i + 2))] a1 b1 c1 Q2 ∧ ∀ w a2 b2 c2, Q2 w a2 b2 c2 → v = w ∧ Z mLw (d + 1, 0, 200, x, zKl b L xs) 1401 [some (.ref 2000000), some (.ref 0), some (.ref 174), some (.ref 199), some (.int (nI i)), none, none] [] 200 a2 b2 c2 Q) : Z mLw (d + 1, 0, 200, x, zKl b L xs) 547 [some (.ref 2000000), some (.ref 0), some (.ref 174), some (.ref 199), some (.int (nI i)), none, none] [] 200 iv rv lv Q := by
  obtain ⟨Q1, hm, h⟩ := h
  refine Z_aload_n (a := 1) (q := 548) (by decide +kernel) rfl rfl ?_
  refine Z_arg (k := 1) (q := 554) (by decide +kernel) (by decide +kernel) (by decide +kernel) (by decide +kernel) (by decide +kernel) (by decide) hi hL rfl ?_
  refine Z_arg (k := 2) (q := 560) (by decide +kernel) (by decide +kernel) (by decide +kernel) (by decide +kernel) (by decide +kernel) (by decide) hi hL rfl ?_
  refine Z_callVi (M2 := mX10_step) (idx := 66) (d2 := d) (ci := 10) (As := [.int _, .int _]) (q := 563) (by decide +kernel) kX10_step lL_66 rfl rfl (by decide) rfl rfl (by decide +kernel) (Nat.le_of_ble_eq_true rfl) (Nat.le_refl _) hm rfl (fun v a1 b1 c1 hq => ?_)
  obtain ⟨Q2, hm2, h⟩ := h v a1 b1 c1 hq
  refine Z_aload_n (a := 2) (q := 564) (by decide +kernel) rfl rfl ?_
  refine Z_arg (k := 1) (q := 570) (by decide +kernel) (by decide +kernel) (by decide +kernel) (by decide +kernel) (by decide +kernel) (by decide) hi hL rfl ?_
  refine Z_arg (k := 2) (q := 576) (by decide +kernel) (by decide +kernel) (by decide +kernel) (by decide +kernel) (by decide +kernel) (by decide) hi hL rfl ?_
  refine Z_callVi (M2 := mX11_step) (idx := 69) (d2 := d) (ci := 11) (As := [.int _, .int _]) (q := 579) (by decide +kernel) kX11_step lL_69 rfl rfl (by decide) rfl rfl (by decide +kernel) (Nat.le_of_ble_eq_true rfl) (Nat.le_refl _) hm2 rfl (fun w a2 b2 c2 hq2 => ?_)
  obtain ⟨e, h⟩ := h w a2 b2 c2 hq2
  exact Z_icmp_eq (t := 1401) (off := 822) (q := 582) (by decide +kernel) (by decide) rfl (fun _ => h) (fun z => absurd e z)
theorem lc12 {d x b L i : Nat} {xs : Nat → Int32} {iv : zI} {rv : zR} {lv : zJ} {Q : zQ} (hi : i + 6 ≤ L) (hL : L ≤ 3072) (h : ∃ Q1 : Int32 → zI → zR → zJ → Prop, Ci mX10_multi d [.ref 0, .int (xs (i + 1))] iv rv lv Q1 ∧ ∀ v a1 b1 c1, Q1 v a1 b1 c1 → ∃ Q2 : Int32 → zI → zR → zJ → Prop, Ci mX11_multi d [.ref 174, .int (xs (i + 1))] a1 b1 c1 Q2 ∧ ∀ w a2 b2 c2, Q2 w a2 b2 c2 → v = w ∧ Z mLw (d + 1, 0, 200, x, zKl b L xs) 1401 [some (.ref 2000000), some (.ref 0), some (.ref 174), some (.ref 199), some (.int (nI i)), none, none] [] 200 a2 b2 c2 Q) : Z mLw (d + 1, 0, 200, x, zKl b L xs) 584 [some (.ref 2000000), some (.ref 0), some (.ref 174), some (.ref 199), some (.int (nI i)), none, none] [] 200 iv rv lv Q := by
  obtain ⟨Q1, hm, h⟩ := h
  refine Z_aload_n (a := 1) (q := 585) (by decide +kernel) rfl rfl ?_
  refine Z_arg (k := 1) (q := 591) (by decide +kernel) (by decide +kernel) (by decide +kernel) (by decide +kernel) (by decide +kernel) (by decide) hi hL rfl ?_
  refine Z_callVi (M2 := mX10_multi) (idx := 70) (d2 := d) (ci := 10) (As := [.int _]) (q := 594) (by decide +kernel) kX10_multi lL_70 rfl rfl (by decide) rfl rfl (by decide +kernel) (Nat.le_of_ble_eq_true rfl) (Nat.le_refl _) hm rfl (fun v a1 b1 c1 hq => ?_)
  obtain ⟨Q2, hm2, h⟩ := h v a1 b1 c1 hq
  refine Z_aload_n (a := 2) (q := 595) (by decide +kernel) rfl rfl ?_
  refine Z_arg (k := 1) (q := 601) (by decide +kernel) (by decide +kernel) (by decide +kernel) (by decide +kernel) (by decide +kernel) (by decide) hi hL rfl ?_
  refine Z_callVi (M2 := mX11_multi) (idx := 73) (d2 := d) (ci := 11) (As := [.int _]) (q := 604) (by decide +kernel) kX11_multi lL_73 rfl rfl (by decide) rfl rfl (by decide +kernel) (Nat.le_of_ble_eq_true rfl) (Nat.le_refl _) hm2 rfl (fun w a2 b2 c2 hq2 => ?_)
  obtain ⟨e, h⟩ := h w a2 b2 c2 hq2
  exact Z_icmp_eq (t := 1401) (off := 797) (q := 607) (by decide +kernel) (by decide) rfl (fun _ => h) (fun z => absurd e z)
theorem lc13 {d x b L i : Nat} {xs : Nat → Int32} {iv : zI} {rv : zR} {lv : zJ} {Q : zQ} (hi : i + 6 ≤ L) (hL : L ≤ 3072) (h : ∃ Q1 : Int32 → zI → zR → zJ → Prop, Ci mX10_multiOf d [.ref 0, .int (xs (i + 1)), .int (xs (i + 2))] iv rv lv Q1 ∧ ∀ v a1 b1 c1, Q1 v a1 b1 c1 → ∃ Q2 : Int32 → zI → zR → zJ → Prop, Ci mX11_multiOf d [.ref 174, .int (xs (i + 1)), .int (xs (i + 2))] a1 b1 c1 Q2 ∧ ∀ w a2 b2 c2, Q2 w a2 b2 c2 → v = w ∧ Z mLw (d + 1, 0, 200, x, zKl b L xs) 1401 [some (.ref 2000000), some (.ref 0), some (.ref 174), some (.ref 199), some (.int (nI i)), none, none] [] 200 a2 b2 c2 Q) : Z mLw (d + 1, 0, 200, x, zKl b L xs) 609 [some (.ref 2000000), some (.ref 0), some (.ref 174), some (.ref 199), some (.int (nI i)), none, none] [] 200 iv rv lv Q := by
  obtain ⟨Q1, hm, h⟩ := h
  refine Z_aload_n (a := 1) (q := 610) (by decide +kernel) rfl rfl ?_
  refine Z_arg (k := 1) (q := 616) (by decide +kernel) (by decide +kernel) (by decide +kernel) (by decide +kernel) (by decide +kernel) (by decide) hi hL rfl ?_
  refine Z_arg (k := 2) (q := 622) (by decide +kernel) (by decide +kernel) (by decide +kernel) (by decide +kernel) (by decide +kernel) (by decide) hi hL rfl ?_
  refine Z_callVi (M2 := mX10_multiOf) (idx := 74) (d2 := d) (ci := 10) (As := [.int _, .int _]) (q := 625) (by decide +kernel) kX10_multiOf lL_74 rfl rfl (by decide) rfl rfl (by decide +kernel) (Nat.le_of_ble_eq_true rfl) (Nat.le_refl _) hm rfl (fun v a1 b1 c1 hq => ?_)
  obtain ⟨Q2, hm2, h⟩ := h v a1 b1 c1 hq
  refine Z_aload_n (a := 2) (q := 626) (by decide +kernel) rfl rfl ?_
  refine Z_arg (k := 1) (q := 632) (by decide +kernel) (by decide +kernel) (by decide +kernel) (by decide +kernel) (by decide +kernel) (by decide) hi hL rfl ?_
  refine Z_arg (k := 2) (q := 638) (by decide +kernel) (by decide +kernel) (by decide +kernel) (by decide +kernel) (by decide +kernel) (by decide) hi hL rfl ?_
  refine Z_callVi (M2 := mX11_multiOf) (idx := 77) (d2 := d) (ci := 11) (As := [.int _, .int _]) (q := 641) (by decide +kernel) kX11_multiOf lL_77 rfl rfl (by decide) rfl rfl (by decide +kernel) (Nat.le_of_ble_eq_true rfl) (Nat.le_refl _) hm2 rfl (fun w a2 b2 c2 hq2 => ?_)
  obtain ⟨e, h⟩ := h w a2 b2 c2 hq2
  exact Z_icmp_eq (t := 1401) (off := 760) (q := 644) (by decide +kernel) (by decide) rfl (fun _ => h) (fun z => absurd e z)
theorem lc14 {d x b L i : Nat} {xs : Nat → Int32} {iv : zI} {rv : zR} {lv : zJ} {Q : zQ} (hi : i + 6 ≤ L) (hL : L ≤ 3072) (h : ∃ Q1 : Int32 → zI → zR → zJ → Prop, Ci mX10_search d [.ref 0, .int (xs (i + 1))] iv rv lv Q1 ∧ ∀ v a1 b1 c1, Q1 v a1 b1 c1 → ∃ Q2 : Int32 → zI → zR → zJ → Prop, Ci mX11_search d [.ref 174, .int (xs (i + 1))] a1 b1 c1 Q2 ∧ ∀ w a2 b2 c2, Q2 w a2 b2 c2 → v = w ∧ Z mLw (d + 1, 0, 200, x, zKl b L xs) 1401 [some (.ref 2000000), some (.ref 0), some (.ref 174), some (.ref 199), some (.int (nI i)), none, none] [] 200 a2 b2 c2 Q) : Z mLw (d + 1, 0, 200, x, zKl b L xs) 646 [some (.ref 2000000), some (.ref 0), some (.ref 174), some (.ref 199), some (.int (nI i)), none, none] [] 200 iv rv lv Q := by
  obtain ⟨Q1, hm, h⟩ := h
  refine Z_aload_n (a := 1) (q := 647) (by decide +kernel) rfl rfl ?_
  refine Z_arg (k := 1) (q := 653) (by decide +kernel) (by decide +kernel) (by decide +kernel) (by decide +kernel) (by decide +kernel) (by decide) hi hL rfl ?_
  refine Z_callVi (M2 := mX10_search) (idx := 78) (d2 := d) (ci := 10) (As := [.int _]) (q := 656) (by decide +kernel) kX10_search lL_78 rfl rfl (by decide) rfl rfl (by decide +kernel) (Nat.le_of_ble_eq_true rfl) (Nat.le_refl _) hm rfl (fun v a1 b1 c1 hq => ?_)
  obtain ⟨Q2, hm2, h⟩ := h v a1 b1 c1 hq
  refine Z_aload_n (a := 2) (q := 657) (by decide +kernel) rfl rfl ?_
  refine Z_arg (k := 1) (q := 663) (by decide +kernel) (by decide +kernel) (by decide +kernel) (by decide +kernel) (by decide +kernel) (by decide) hi hL rfl ?_
  refine Z_callVi (M2 := mX11_search) (idx := 81) (d2 := d) (ci := 11) (As := [.int _]) (q := 666) (by decide +kernel) kX11_search lL_81 rfl rfl (by decide) rfl rfl (by decide +kernel) (Nat.le_of_ble_eq_true rfl) (Nat.le_refl _) hm2 rfl (fun w a2 b2 c2 hq2 => ?_)
  obtain ⟨e, h⟩ := h w a2 b2 c2 hq2
  exact Z_icmp_eq (t := 1401) (off := 735) (q := 669) (by decide +kernel) (by decide) rfl (fun _ => h) (fun z => absurd e z)
theorem lc15 {d x b L i : Nat} {xs : Nat → Int32} {iv : zI} {rv : zR} {lv : zJ} {Q : zQ} (hi : i + 6 ≤ L) (hL : L ≤ 3072) (h : ∃ Q1 : Int32 → zI → zR → zJ → Prop, Ci mX10_find d [.ref 0, .int (xs (i + 1)), .int (xs (i + 2))] iv rv lv Q1 ∧ ∀ v a1 b1 c1, Q1 v a1 b1 c1 → ∃ Q2 : Int32 → zI → zR → zJ → Prop, Ci mX11_find d [.ref 174, .int (xs (i + 1)), .int (xs (i + 2))] a1 b1 c1 Q2 ∧ ∀ w a2 b2 c2, Q2 w a2 b2 c2 → v = w ∧ Z mLw (d + 1, 0, 200, x, zKl b L xs) 1401 [some (.ref 2000000), some (.ref 0), some (.ref 174), some (.ref 199), some (.int (nI i)), none, none] [] 200 a2 b2 c2 Q) : Z mLw (d + 1, 0, 200, x, zKl b L xs) 671 [some (.ref 2000000), some (.ref 0), some (.ref 174), some (.ref 199), some (.int (nI i)), none, none] [] 200 iv rv lv Q := by
  obtain ⟨Q1, hm, h⟩ := h
  refine Z_aload_n (a := 1) (q := 672) (by decide +kernel) rfl rfl ?_
  refine Z_arg (k := 1) (q := 678) (by decide +kernel) (by decide +kernel) (by decide +kernel) (by decide +kernel) (by decide +kernel) (by decide) hi hL rfl ?_
  refine Z_arg (k := 2) (q := 684) (by decide +kernel) (by decide +kernel) (by decide +kernel) (by decide +kernel) (by decide +kernel) (by decide) hi hL rfl ?_
  refine Z_callVi (M2 := mX10_find) (idx := 82) (d2 := d) (ci := 10) (As := [.int _, .int _]) (q := 687) (by decide +kernel) kX10_find lL_82 rfl rfl (by decide) rfl rfl (by decide +kernel) (Nat.le_of_ble_eq_true rfl) (Nat.le_refl _) hm rfl (fun v a1 b1 c1 hq => ?_)
  obtain ⟨Q2, hm2, h⟩ := h v a1 b1 c1 hq
  refine Z_aload_n (a := 2) (q := 688) (by decide +kernel) rfl rfl ?_
  refine Z_arg (k := 1) (q := 694) (by decide +kernel) (by decide +kernel) (by decide +kernel) (by decide +kernel) (by decide +kernel) (by decide) hi hL rfl ?_
  refine Z_arg (k := 2) (q := 700) (by decide +kernel) (by decide +kernel) (by decide +kernel) (by decide +kernel) (by decide +kernel) (by decide) hi hL rfl ?_
  refine Z_callVi (M2 := mX11_find) (idx := 85) (d2 := d) (ci := 11) (As := [.int _, .int _]) (q := 703) (by decide +kernel) kX11_find lL_85 rfl rfl (by decide) rfl rfl (by decide +kernel) (Nat.le_of_ble_eq_true rfl) (Nat.le_refl _) hm2 rfl (fun w a2 b2 c2 hq2 => ?_)
  obtain ⟨e, h⟩ := h w a2 b2 c2 hq2
  exact Z_icmp_eq (t := 1401) (off := 698) (q := 706) (by decide +kernel) (by decide) rfl (fun _ => h) (fun z => absurd e z)
theorem lc16 {d x b L i : Nat} {xs : Nat → Int32} {iv : zI} {rv : zR} {lv : zJ} {Q : zQ} (hi : i + 6 ≤ L) (hL : L ≤ 3072) (h : ∃ Q1 : Int32 → zI → zR → zJ → Prop, Ci mX10_searchOf d [.ref 0, .int (xs (i + 1))] iv rv lv Q1 ∧ ∀ v a1 b1 c1, Q1 v a1 b1 c1 → ∃ Q2 : Int32 → zI → zR → zJ → Prop, Ci mX11_searchOf d [.ref 174, .int (xs (i + 1))] a1 b1 c1 Q2 ∧ ∀ w a2 b2 c2, Q2 w a2 b2 c2 → v = w ∧ Z mLw (d + 1, 0, 200, x, zKl b L xs) 1401 [some (.ref 2000000), some (.ref 0), some (.ref 174), some (.ref 199), some (.int (nI i)), none, none] [] 200 a2 b2 c2 Q) : Z mLw (d + 1, 0, 200, x, zKl b L xs) 708 [some (.ref 2000000), some (.ref 0), some (.ref 174), some (.ref 199), some (.int (nI i)), none, none] [] 200 iv rv lv Q := by
  obtain ⟨Q1, hm, h⟩ := h
  refine Z_aload_n (a := 1) (q := 709) (by decide +kernel) rfl rfl ?_
  refine Z_arg (k := 1) (q := 715) (by decide +kernel) (by decide +kernel) (by decide +kernel) (by decide +kernel) (by decide +kernel) (by decide) hi hL rfl ?_
  refine Z_callVi (M2 := mX10_searchOf) (idx := 86) (d2 := d) (ci := 10) (As := [.int _]) (q := 718) (by decide +kernel) kX10_searchOf lL_86 rfl rfl (by decide) rfl rfl (by decide +kernel) (Nat.le_of_ble_eq_true rfl) (Nat.le_refl _) hm rfl (fun v a1 b1 c1 hq => ?_)
  obtain ⟨Q2, hm2, h⟩ := h v a1 b1 c1 hq
  refine Z_aload_n (a := 2) (q := 719) (by decide +kernel) rfl rfl ?_
  refine Z_arg (k := 1) (q := 725) (by decide +kernel) (by decide +kernel) (by decide +kernel) (by decide +kernel) (by decide +kernel) (by decide) hi hL rfl ?_
  refine Z_callVi (M2 := mX11_searchOf) (idx := 89) (d2 := d) (ci := 11) (As := [.int _]) (q := 728) (by decide +kernel) kX11_searchOf lL_89 rfl rfl (by decide) rfl rfl (by decide +kernel) (Nat.le_of_ble_eq_true rfl) (Nat.le_refl _) hm2 rfl (fun w a2 b2 c2 hq2 => ?_)
  obtain ⟨e, h⟩ := h w a2 b2 c2 hq2
  exact Z_icmp_eq (t := 1401) (off := 673) (q := 731) (by decide +kernel) (by decide) rfl (fun _ => h) (fun z => absurd e z)
theorem lc17 {d x b L i : Nat} {xs : Nat → Int32} {iv : zI} {rv : zR} {lv : zJ} {Q : zQ} (hi : i + 6 ≤ L) (hL : L ≤ 3072) (h : ∃ Q1 : Int32 → zI → zR → zJ → Prop, Ci mX10_bound d [.ref 0, .int (xs (i + 1))] iv rv lv Q1 ∧ ∀ v a1 b1 c1, Q1 v a1 b1 c1 → ∃ Q2 : Int32 → zI → zR → zJ → Prop, Ci mX11_bound d [.ref 174, .int (xs (i + 1))] a1 b1 c1 Q2 ∧ ∀ w a2 b2 c2, Q2 w a2 b2 c2 → v = w ∧ Z mLw (d + 1, 0, 200, x, zKl b L xs) 1401 [some (.ref 2000000), some (.ref 0), some (.ref 174), some (.ref 199), some (.int (nI i)), none, none] [] 200 a2 b2 c2 Q) : Z mLw (d + 1, 0, 200, x, zKl b L xs) 733 [some (.ref 2000000), some (.ref 0), some (.ref 174), some (.ref 199), some (.int (nI i)), none, none] [] 200 iv rv lv Q := by
  obtain ⟨Q1, hm, h⟩ := h
  refine Z_aload_n (a := 1) (q := 734) (by decide +kernel) rfl rfl ?_
  refine Z_arg (k := 1) (q := 740) (by decide +kernel) (by decide +kernel) (by decide +kernel) (by decide +kernel) (by decide +kernel) (by decide) hi hL rfl ?_
  refine Z_callVi (M2 := mX10_bound) (idx := 90) (d2 := d) (ci := 10) (As := [.int _]) (q := 743) (by decide +kernel) kX10_bound lL_90 rfl rfl (by decide) rfl rfl (by decide +kernel) (Nat.le_of_ble_eq_true rfl) (Nat.le_refl _) hm rfl (fun v a1 b1 c1 hq => ?_)
  obtain ⟨Q2, hm2, h⟩ := h v a1 b1 c1 hq
  refine Z_aload_n (a := 2) (q := 744) (by decide +kernel) rfl rfl ?_
  refine Z_arg (k := 1) (q := 750) (by decide +kernel) (by decide +kernel) (by decide +kernel) (by decide +kernel) (by decide +kernel) (by decide) hi hL rfl ?_
  refine Z_callVi (M2 := mX11_bound) (idx := 93) (d2 := d) (ci := 11) (As := [.int _]) (q := 753) (by decide +kernel) kX11_bound lL_93 rfl rfl (by decide) rfl rfl (by decide +kernel) (Nat.le_of_ble_eq_true rfl) (Nat.le_refl _) hm2 rfl (fun w a2 b2 c2 hq2 => ?_)
  obtain ⟨e, h⟩ := h w a2 b2 c2 hq2
  exact Z_icmp_eq (t := 1401) (off := 648) (q := 756) (by decide +kernel) (by decide) rfl (fun _ => h) (fun z => absurd e z)
theorem lc18 {d x b L i : Nat} {xs : Nat → Int32} {iv : zI} {rv : zR} {lv : zJ} {Q : zQ} (hi : i + 6 ≤ L) (hL : L ≤ 3072) (h : ∃ Q1 : Int32 → zI → zR → zJ → Prop, Ci mX10_least d [.ref 0, .int (xs (i + 1)), .int (xs (i + 2))] iv rv lv Q1 ∧ ∀ v a1 b1 c1, Q1 v a1 b1 c1 → ∃ Q2 : Int32 → zI → zR → zJ → Prop, Ci mX11_least d [.ref 174, .int (xs (i + 1)), .int (xs (i + 2))] a1 b1 c1 Q2 ∧ ∀ w a2 b2 c2, Q2 w a2 b2 c2 → v = w ∧ Z mLw (d + 1, 0, 200, x, zKl b L xs) 1401 [some (.ref 2000000), some (.ref 0), some (.ref 174), some (.ref 199), some (.int (nI i)), none, none] [] 200 a2 b2 c2 Q) : Z mLw (d + 1, 0, 200, x, zKl b L xs) 758 [some (.ref 2000000), some (.ref 0), some (.ref 174), some (.ref 199), some (.int (nI i)), none, none] [] 200 iv rv lv Q := by
  obtain ⟨Q1, hm, h⟩ := h
  refine Z_aload_n (a := 1) (q := 759) (by decide +kernel) rfl rfl ?_
  refine Z_arg (k := 1) (q := 765) (by decide +kernel) (by decide +kernel) (by decide +kernel) (by decide +kernel) (by decide +kernel) (by decide) hi hL rfl ?_
  refine Z_arg (k := 2) (q := 771) (by decide +kernel) (by decide +kernel) (by decide +kernel) (by decide +kernel) (by decide +kernel) (by decide) hi hL rfl ?_
  refine Z_callVi (M2 := mX10_least) (idx := 94) (d2 := d) (ci := 10) (As := [.int _, .int _]) (q := 774) (by decide +kernel) kX10_least lL_94 rfl rfl (by decide) rfl rfl (by decide +kernel) (Nat.le_of_ble_eq_true rfl) (Nat.le_refl _) hm rfl (fun v a1 b1 c1 hq => ?_)
  obtain ⟨Q2, hm2, h⟩ := h v a1 b1 c1 hq
  refine Z_aload_n (a := 2) (q := 775) (by decide +kernel) rfl rfl ?_
  refine Z_arg (k := 1) (q := 781) (by decide +kernel) (by decide +kernel) (by decide +kernel) (by decide +kernel) (by decide +kernel) (by decide) hi hL rfl ?_
  refine Z_arg (k := 2) (q := 787) (by decide +kernel) (by decide +kernel) (by decide +kernel) (by decide +kernel) (by decide +kernel) (by decide) hi hL rfl ?_
  refine Z_callVi (M2 := mX11_least) (idx := 97) (d2 := d) (ci := 11) (As := [.int _, .int _]) (q := 790) (by decide +kernel) kX11_least lL_97 rfl rfl (by decide) rfl rfl (by decide +kernel) (Nat.le_of_ble_eq_true rfl) (Nat.le_refl _) hm2 rfl (fun w a2 b2 c2 hq2 => ?_)
  obtain ⟨e, h⟩ := h w a2 b2 c2 hq2
  exact Z_icmp_eq (t := 1401) (off := 611) (q := 793) (by decide +kernel) (by decide) rfl (fun _ => h) (fun z => absurd e z)
theorem lc19 {d x b L i : Nat} {xs : Nat → Int32} {iv : zI} {rv : zR} {lv : zJ} {Q : zQ} (hi : i + 6 ≤ L) (hL : L ≤ 3072) (h : ∃ Q1 : Int32 → zI → zR → zJ → Prop, Ci mX10_leastOf d [.ref 0, .int (xs (i + 1)), .int (xs (i + 2))] iv rv lv Q1 ∧ ∀ v a1 b1 c1, Q1 v a1 b1 c1 → ∃ Q2 : Int32 → zI → zR → zJ → Prop, Ci mX11_leastOf d [.ref 174, .int (xs (i + 1)), .int (xs (i + 2))] a1 b1 c1 Q2 ∧ ∀ w a2 b2 c2, Q2 w a2 b2 c2 → v = w ∧ Z mLw (d + 1, 0, 200, x, zKl b L xs) 1401 [some (.ref 2000000), some (.ref 0), some (.ref 174), some (.ref 199), some (.int (nI i)), none, none] [] 200 a2 b2 c2 Q) : Z mLw (d + 1, 0, 200, x, zKl b L xs) 795 [some (.ref 2000000), some (.ref 0), some (.ref 174), some (.ref 199), some (.int (nI i)), none, none] [] 200 iv rv lv Q := by
  obtain ⟨Q1, hm, h⟩ := h
  refine Z_aload_n (a := 1) (q := 796) (by decide +kernel) rfl rfl ?_
  refine Z_arg (k := 1) (q := 802) (by decide +kernel) (by decide +kernel) (by decide +kernel) (by decide +kernel) (by decide +kernel) (by decide) hi hL rfl ?_
  refine Z_arg (k := 2) (q := 808) (by decide +kernel) (by decide +kernel) (by decide +kernel) (by decide +kernel) (by decide +kernel) (by decide) hi hL rfl ?_
  refine Z_callVi (M2 := mX10_leastOf) (idx := 98) (d2 := d) (ci := 10) (As := [.int _, .int _]) (q := 811) (by decide +kernel) kX10_leastOf lL_98 rfl rfl (by decide) rfl rfl (by decide +kernel) (Nat.le_of_ble_eq_true rfl) (Nat.le_refl _) hm rfl (fun v a1 b1 c1 hq => ?_)
  obtain ⟨Q2, hm2, h⟩ := h v a1 b1 c1 hq
  refine Z_aload_n (a := 2) (q := 812) (by decide +kernel) rfl rfl ?_
  refine Z_arg (k := 1) (q := 818) (by decide +kernel) (by decide +kernel) (by decide +kernel) (by decide +kernel) (by decide +kernel) (by decide) hi hL rfl ?_
  refine Z_arg (k := 2) (q := 824) (by decide +kernel) (by decide +kernel) (by decide +kernel) (by decide +kernel) (by decide +kernel) (by decide) hi hL rfl ?_
  refine Z_callVi (M2 := mX11_leastOf) (idx := 101) (d2 := d) (ci := 11) (As := [.int _, .int _]) (q := 827) (by decide +kernel) kX11_leastOf lL_101 rfl rfl (by decide) rfl rfl (by decide +kernel) (Nat.le_of_ble_eq_true rfl) (Nat.le_refl _) hm2 rfl (fun w a2 b2 c2 hq2 => ?_)
  obtain ⟨e, h⟩ := h w a2 b2 c2 hq2
  exact Z_icmp_eq (t := 1401) (off := 574) (q := 830) (by decide +kernel) (by decide) rfl (fun _ => h) (fun z => absurd e z)
theorem lc20 {d x b L i : Nat} {xs : Nat → Int32} {iv : zI} {rv : zR} {lv : zJ} {Q : zQ} (hi : i + 6 ≤ L) (hL : L ≤ 3072) (h : ∃ Q1 : Int32 → zI → zR → zJ → Prop, Ci mX10_flat d [.ref 0, .int (xs (i + 1))] iv rv lv Q1 ∧ ∀ v a1 b1 c1, Q1 v a1 b1 c1 → ∃ Q2 : Int32 → zI → zR → zJ → Prop, Ci mX11_flat d [.ref 174, .int (xs (i + 1))] a1 b1 c1 Q2 ∧ ∀ w a2 b2 c2, Q2 w a2 b2 c2 → v = w ∧ Z mLw (d + 1, 0, 200, x, zKl b L xs) 1401 [some (.ref 2000000), some (.ref 0), some (.ref 174), some (.ref 199), some (.int (nI i)), none, none] [] 200 a2 b2 c2 Q) : Z mLw (d + 1, 0, 200, x, zKl b L xs) 832 [some (.ref 2000000), some (.ref 0), some (.ref 174), some (.ref 199), some (.int (nI i)), none, none] [] 200 iv rv lv Q := by
  obtain ⟨Q1, hm, h⟩ := h
  refine Z_aload_n (a := 1) (q := 833) (by decide +kernel) rfl rfl ?_
  refine Z_arg (k := 1) (q := 839) (by decide +kernel) (by decide +kernel) (by decide +kernel) (by decide +kernel) (by decide +kernel) (by decide) hi hL rfl ?_
  refine Z_callVi (M2 := mX10_flat) (idx := 102) (d2 := d) (ci := 10) (As := [.int _]) (q := 842) (by decide +kernel) kX10_flat lL_102 rfl rfl (by decide) rfl rfl (by decide +kernel) (Nat.le_of_ble_eq_true rfl) (Nat.le_refl _) hm rfl (fun v a1 b1 c1 hq => ?_)
  obtain ⟨Q2, hm2, h⟩ := h v a1 b1 c1 hq
  refine Z_aload_n (a := 2) (q := 843) (by decide +kernel) rfl rfl ?_
  refine Z_arg (k := 1) (q := 849) (by decide +kernel) (by decide +kernel) (by decide +kernel) (by decide +kernel) (by decide +kernel) (by decide) hi hL rfl ?_
  refine Z_callVi (M2 := mX11_flat) (idx := 105) (d2 := d) (ci := 11) (As := [.int _]) (q := 852) (by decide +kernel) kX11_flat lL_105 rfl rfl (by decide) rfl rfl (by decide +kernel) (Nat.le_of_ble_eq_true rfl) (Nat.le_refl _) hm2 rfl (fun w a2 b2 c2 hq2 => ?_)
  obtain ⟨e, h⟩ := h w a2 b2 c2 hq2
  exact Z_icmp_eq (t := 1401) (off := 549) (q := 855) (by decide +kernel) (by decide) rfl (fun _ => h) (fun z => absurd e z)
theorem lc21 {d x b L i : Nat} {xs : Nat → Int32} {iv : zI} {rv : zR} {lv : zJ} {Q : zQ} (hi : i + 6 ≤ L) (hL : L ≤ 3072) (h : ∃ Q1 : Int32 → zI → zR → zJ → Prop, Ci mX10_rows d [.ref 0, .int (xs (i + 1))] iv rv lv Q1 ∧ ∀ v a1 b1 c1, Q1 v a1 b1 c1 → ∃ Q2 : Int32 → zI → zR → zJ → Prop, Ci mX11_rows d [.ref 174, .int (xs (i + 1))] a1 b1 c1 Q2 ∧ ∀ w a2 b2 c2, Q2 w a2 b2 c2 → v = w ∧ Z mLw (d + 1, 0, 200, x, zKl b L xs) 1401 [some (.ref 2000000), some (.ref 0), some (.ref 174), some (.ref 199), some (.int (nI i)), none, none] [] 200 a2 b2 c2 Q) : Z mLw (d + 1, 0, 200, x, zKl b L xs) 857 [some (.ref 2000000), some (.ref 0), some (.ref 174), some (.ref 199), some (.int (nI i)), none, none] [] 200 iv rv lv Q := by
  obtain ⟨Q1, hm, h⟩ := h
  refine Z_aload_n (a := 1) (q := 858) (by decide +kernel) rfl rfl ?_
  refine Z_arg (k := 1) (q := 864) (by decide +kernel) (by decide +kernel) (by decide +kernel) (by decide +kernel) (by decide +kernel) (by decide) hi hL rfl ?_
  refine Z_callVi (M2 := mX10_rows) (idx := 106) (d2 := d) (ci := 10) (As := [.int _]) (q := 867) (by decide +kernel) kX10_rows lL_106 rfl rfl (by decide) rfl rfl (by decide +kernel) (Nat.le_of_ble_eq_true rfl) (Nat.le_refl _) hm rfl (fun v a1 b1 c1 hq => ?_)
  obtain ⟨Q2, hm2, h⟩ := h v a1 b1 c1 hq
  refine Z_aload_n (a := 2) (q := 868) (by decide +kernel) rfl rfl ?_
  refine Z_arg (k := 1) (q := 874) (by decide +kernel) (by decide +kernel) (by decide +kernel) (by decide +kernel) (by decide +kernel) (by decide) hi hL rfl ?_
  refine Z_callVi (M2 := mX11_rows) (idx := 109) (d2 := d) (ci := 11) (As := [.int _]) (q := 877) (by decide +kernel) kX11_rows lL_109 rfl rfl (by decide) rfl rfl (by decide +kernel) (Nat.le_of_ble_eq_true rfl) (Nat.le_refl _) hm2 rfl (fun w a2 b2 c2 hq2 => ?_)
  obtain ⟨e, h⟩ := h w a2 b2 c2 hq2
  exact Z_icmp_eq (t := 1401) (off := 524) (q := 880) (by decide +kernel) (by decide) rfl (fun _ => h) (fun z => absurd e z)
theorem lc22 {d x b L i : Nat} {xs : Nat → Int32} {iv : zI} {rv : zR} {lv : zJ} {Q : zQ} (hi : i + 6 ≤ L) (hL : L ≤ 3072) (h : ∃ Q1 : Int32 → zI → zR → zJ → Prop, Ci mX10_climb d [.ref 0, .int (xs (i + 1)), .int (xs (i + 2))] iv rv lv Q1 ∧ ∀ v a1 b1 c1, Q1 v a1 b1 c1 → ∃ Q2 : Int32 → zI → zR → zJ → Prop, Ci mX11_climb d [.ref 174, .int (xs (i + 1)), .int (xs (i + 2))] a1 b1 c1 Q2 ∧ ∀ w a2 b2 c2, Q2 w a2 b2 c2 → v = w ∧ Z mLw (d + 1, 0, 200, x, zKl b L xs) 1401 [some (.ref 2000000), some (.ref 0), some (.ref 174), some (.ref 199), some (.int (nI i)), none, none] [] 200 a2 b2 c2 Q) : Z mLw (d + 1, 0, 200, x, zKl b L xs) 882 [some (.ref 2000000), some (.ref 0), some (.ref 174), some (.ref 199), some (.int (nI i)), none, none] [] 200 iv rv lv Q := by
  obtain ⟨Q1, hm, h⟩ := h
  refine Z_aload_n (a := 1) (q := 883) (by decide +kernel) rfl rfl ?_
  refine Z_arg (k := 1) (q := 889) (by decide +kernel) (by decide +kernel) (by decide +kernel) (by decide +kernel) (by decide +kernel) (by decide) hi hL rfl ?_
  refine Z_arg (k := 2) (q := 895) (by decide +kernel) (by decide +kernel) (by decide +kernel) (by decide +kernel) (by decide +kernel) (by decide) hi hL rfl ?_
  refine Z_callVi (M2 := mX10_climb) (idx := 110) (d2 := d) (ci := 10) (As := [.int _, .int _]) (q := 898) (by decide +kernel) kX10_climb lL_110 rfl rfl (by decide) rfl rfl (by decide +kernel) (Nat.le_of_ble_eq_true rfl) (Nat.le_refl _) hm rfl (fun v a1 b1 c1 hq => ?_)
  obtain ⟨Q2, hm2, h⟩ := h v a1 b1 c1 hq
  refine Z_aload_n (a := 2) (q := 899) (by decide +kernel) rfl rfl ?_
  refine Z_arg (k := 1) (q := 905) (by decide +kernel) (by decide +kernel) (by decide +kernel) (by decide +kernel) (by decide +kernel) (by decide) hi hL rfl ?_
  refine Z_arg (k := 2) (q := 911) (by decide +kernel) (by decide +kernel) (by decide +kernel) (by decide +kernel) (by decide +kernel) (by decide) hi hL rfl ?_
  refine Z_callVi (M2 := mX11_climb) (idx := 113) (d2 := d) (ci := 11) (As := [.int _, .int _]) (q := 914) (by decide +kernel) kX11_climb lL_113 rfl rfl (by decide) rfl rfl (by decide +kernel) (Nat.le_of_ble_eq_true rfl) (Nat.le_refl _) hm2 rfl (fun w a2 b2 c2 hq2 => ?_)
  obtain ⟨e, h⟩ := h w a2 b2 c2 hq2
  exact Z_icmp_eq (t := 1401) (off := 487) (q := 917) (by decide +kernel) (by decide) rfl (fun _ => h) (fun z => absurd e z)
theorem lc23 {d x b L i : Nat} {xs : Nat → Int32} {iv : zI} {rv : zR} {lv : zJ} {Q : zQ} (hi : i + 6 ≤ L) (hL : L ≤ 3072) (h : ∃ Q1 : Int32 → zI → zR → zJ → Prop, Ci mX10_climbOf d [.ref 0, .int (xs (i + 1)), .int (xs (i + 2))] iv rv lv Q1 ∧ ∀ v a1 b1 c1, Q1 v a1 b1 c1 → ∃ Q2 : Int32 → zI → zR → zJ → Prop, Ci mX11_climbOf d [.ref 174, .int (xs (i + 1)), .int (xs (i + 2))] a1 b1 c1 Q2 ∧ ∀ w a2 b2 c2, Q2 w a2 b2 c2 → v = w ∧ Z mLw (d + 1, 0, 200, x, zKl b L xs) 1401 [some (.ref 2000000), some (.ref 0), some (.ref 174), some (.ref 199), some (.int (nI i)), none, none] [] 200 a2 b2 c2 Q) : Z mLw (d + 1, 0, 200, x, zKl b L xs) 919 [some (.ref 2000000), some (.ref 0), some (.ref 174), some (.ref 199), some (.int (nI i)), none, none] [] 200 iv rv lv Q := by
  obtain ⟨Q1, hm, h⟩ := h
  refine Z_aload_n (a := 1) (q := 920) (by decide +kernel) rfl rfl ?_
  refine Z_arg (k := 1) (q := 926) (by decide +kernel) (by decide +kernel) (by decide +kernel) (by decide +kernel) (by decide +kernel) (by decide) hi hL rfl ?_
  refine Z_arg (k := 2) (q := 932) (by decide +kernel) (by decide +kernel) (by decide +kernel) (by decide +kernel) (by decide +kernel) (by decide) hi hL rfl ?_
  refine Z_callVi (M2 := mX10_climbOf) (idx := 114) (d2 := d) (ci := 10) (As := [.int _, .int _]) (q := 935) (by decide +kernel) kX10_climbOf lL_114 rfl rfl (by decide) rfl rfl (by decide +kernel) (Nat.le_of_ble_eq_true rfl) (Nat.le_refl _) hm rfl (fun v a1 b1 c1 hq => ?_)
  obtain ⟨Q2, hm2, h⟩ := h v a1 b1 c1 hq
  refine Z_aload_n (a := 2) (q := 936) (by decide +kernel) rfl rfl ?_
  refine Z_arg (k := 1) (q := 942) (by decide +kernel) (by decide +kernel) (by decide +kernel) (by decide +kernel) (by decide +kernel) (by decide) hi hL rfl ?_
  refine Z_arg (k := 2) (q := 948) (by decide +kernel) (by decide +kernel) (by decide +kernel) (by decide +kernel) (by decide +kernel) (by decide) hi hL rfl ?_
  refine Z_callVi (M2 := mX11_climbOf) (idx := 117) (d2 := d) (ci := 11) (As := [.int _, .int _]) (q := 951) (by decide +kernel) kX11_climbOf lL_117 rfl rfl (by decide) rfl rfl (by decide +kernel) (Nat.le_of_ble_eq_true rfl) (Nat.le_refl _) hm2 rfl (fun w a2 b2 c2 hq2 => ?_)
  obtain ⟨e, h⟩ := h w a2 b2 c2 hq2
  exact Z_icmp_eq (t := 1401) (off := 450) (q := 954) (by decide +kernel) (by decide) rfl (fun _ => h) (fun z => absurd e z)
theorem lc24 {d x b L i : Nat} {xs : Nat → Int32} {iv : zI} {rv : zR} {lv : zJ} {Q : zQ} (hi : i + 6 ≤ L) (hL : L ≤ 3072) (h : ∃ Q1 : Int32 → zI → zR → zJ → Prop, Ci mX10_ways d [.ref 0, .int (xs (i + 1))] iv rv lv Q1 ∧ ∀ v a1 b1 c1, Q1 v a1 b1 c1 → ∃ Q2 : Int32 → zI → zR → zJ → Prop, Ci mX11_ways d [.ref 174, .int (xs (i + 1))] a1 b1 c1 Q2 ∧ ∀ w a2 b2 c2, Q2 w a2 b2 c2 → v = w ∧ Z mLw (d + 1, 0, 200, x, zKl b L xs) 1401 [some (.ref 2000000), some (.ref 0), some (.ref 174), some (.ref 199), some (.int (nI i)), none, none] [] 200 a2 b2 c2 Q) : Z mLw (d + 1, 0, 200, x, zKl b L xs) 956 [some (.ref 2000000), some (.ref 0), some (.ref 174), some (.ref 199), some (.int (nI i)), none, none] [] 200 iv rv lv Q := by
  obtain ⟨Q1, hm, h⟩ := h
  refine Z_aload_n (a := 1) (q := 957) (by decide +kernel) rfl rfl ?_
  refine Z_arg (k := 1) (q := 963) (by decide +kernel) (by decide +kernel) (by decide +kernel) (by decide +kernel) (by decide +kernel) (by decide) hi hL rfl ?_
  refine Z_callVi (M2 := mX10_ways) (idx := 118) (d2 := d) (ci := 10) (As := [.int _]) (q := 966) (by decide +kernel) kX10_ways lL_118 rfl rfl (by decide) rfl rfl (by decide +kernel) (Nat.le_of_ble_eq_true rfl) (Nat.le_refl _) hm rfl (fun v a1 b1 c1 hq => ?_)
  obtain ⟨Q2, hm2, h⟩ := h v a1 b1 c1 hq
  refine Z_aload_n (a := 2) (q := 967) (by decide +kernel) rfl rfl ?_
  refine Z_arg (k := 1) (q := 973) (by decide +kernel) (by decide +kernel) (by decide +kernel) (by decide +kernel) (by decide +kernel) (by decide) hi hL rfl ?_
  refine Z_callVi (M2 := mX11_ways) (idx := 121) (d2 := d) (ci := 11) (As := [.int _]) (q := 976) (by decide +kernel) kX11_ways lL_121 rfl rfl (by decide) rfl rfl (by decide +kernel) (Nat.le_of_ble_eq_true rfl) (Nat.le_refl _) hm2 rfl (fun w a2 b2 c2 hq2 => ?_)
  obtain ⟨e, h⟩ := h w a2 b2 c2 hq2
  exact Z_icmp_eq (t := 1401) (off := 425) (q := 979) (by decide +kernel) (by decide) rfl (fun _ => h) (fun z => absurd e z)
theorem lc25 {d x b L i : Nat} {xs : Nat → Int32} {iv : zI} {rv : zR} {lv : zJ} {Q : zQ} (hi : i + 6 ≤ L) (hL : L ≤ 3072) (h : ∃ Q1 : Int32 → zI → zR → zJ → Prop, Ci mX10_chosen d [.ref 0, .int (xs (i + 1))] iv rv lv Q1 ∧ ∀ v a1 b1 c1, Q1 v a1 b1 c1 → ∃ Q2 : Int32 → zI → zR → zJ → Prop, Ci mX11_chosen d [.ref 174, .int (xs (i + 1))] a1 b1 c1 Q2 ∧ ∀ w a2 b2 c2, Q2 w a2 b2 c2 → v = w ∧ Z mLw (d + 1, 0, 200, x, zKl b L xs) 1401 [some (.ref 2000000), some (.ref 0), some (.ref 174), some (.ref 199), some (.int (nI i)), none, none] [] 200 a2 b2 c2 Q) : Z mLw (d + 1, 0, 200, x, zKl b L xs) 981 [some (.ref 2000000), some (.ref 0), some (.ref 174), some (.ref 199), some (.int (nI i)), none, none] [] 200 iv rv lv Q := by
  obtain ⟨Q1, hm, h⟩ := h
  refine Z_aload_n (a := 1) (q := 982) (by decide +kernel) rfl rfl ?_
  refine Z_arg (k := 1) (q := 988) (by decide +kernel) (by decide +kernel) (by decide +kernel) (by decide +kernel) (by decide +kernel) (by decide) hi hL rfl ?_
  refine Z_callVi (M2 := mX10_chosen) (idx := 122) (d2 := d) (ci := 10) (As := [.int _]) (q := 991) (by decide +kernel) kX10_chosen lL_122 rfl rfl (by decide) rfl rfl (by decide +kernel) (Nat.le_of_ble_eq_true rfl) (Nat.le_refl _) hm rfl (fun v a1 b1 c1 hq => ?_)
  obtain ⟨Q2, hm2, h⟩ := h v a1 b1 c1 hq
  refine Z_aload_n (a := 2) (q := 992) (by decide +kernel) rfl rfl ?_
  refine Z_arg (k := 1) (q := 998) (by decide +kernel) (by decide +kernel) (by decide +kernel) (by decide +kernel) (by decide +kernel) (by decide) hi hL rfl ?_
  refine Z_callVi (M2 := mX11_chosen) (idx := 125) (d2 := d) (ci := 11) (As := [.int _]) (q := 1001) (by decide +kernel) kX11_chosen lL_125 rfl rfl (by decide) rfl rfl (by decide +kernel) (Nat.le_of_ble_eq_true rfl) (Nat.le_refl _) hm2 rfl (fun w a2 b2 c2 hq2 => ?_)
  obtain ⟨e, h⟩ := h w a2 b2 c2 hq2
  exact Z_icmp_eq (t := 1401) (off := 400) (q := 1004) (by decide +kernel) (by decide) rfl (fun _ => h) (fun z => absurd e z)
theorem lc26 {d x b L i : Nat} {xs : Nat → Int32} {iv : zI} {rv : zR} {lv : zJ} {Q : zQ} (hi : i + 6 ≤ L) (hL : L ≤ 3072) (h : ∃ Q1 : Int32 → zI → zR → zJ → Prop, Ci mX10_sums d [.ref 0] iv rv lv Q1 ∧ ∀ v a1 b1 c1, Q1 v a1 b1 c1 → ∃ Q2 : Int32 → zI → zR → zJ → Prop, Ci mX11_sums d [.ref 174] a1 b1 c1 Q2 ∧ ∀ w a2 b2 c2, Q2 w a2 b2 c2 → v = w ∧ Z mLw (d + 1, 0, 200, x, zKl b L xs) 1401 [some (.ref 2000000), some (.ref 0), some (.ref 174), some (.ref 199), some (.int (nI i)), none, none] [] 200 a2 b2 c2 Q) : Z mLw (d + 1, 0, 200, x, zKl b L xs) 1006 [some (.ref 2000000), some (.ref 0), some (.ref 174), some (.ref 199), some (.int (nI i)), none, none] [] 200 iv rv lv Q := by
  obtain ⟨Q1, hm, h⟩ := h
  refine Z_aload_n (a := 1) (q := 1007) (by decide +kernel) rfl rfl ?_
  refine Z_callVi (M2 := mX10_sums) (idx := 126) (d2 := d) (ci := 10) (As := []) (q := 1010) (by decide +kernel) kX10_sums lL_126 rfl rfl (by decide) rfl rfl (by decide +kernel) (Nat.le_of_ble_eq_true rfl) (Nat.le_refl _) hm rfl (fun v a1 b1 c1 hq => ?_)
  obtain ⟨Q2, hm2, h⟩ := h v a1 b1 c1 hq
  refine Z_aload_n (a := 2) (q := 1011) (by decide +kernel) rfl rfl ?_
  refine Z_callVi (M2 := mX11_sums) (idx := 129) (d2 := d) (ci := 11) (As := []) (q := 1014) (by decide +kernel) kX11_sums lL_129 rfl rfl (by decide) rfl rfl (by decide +kernel) (Nat.le_of_ble_eq_true rfl) (Nat.le_refl _) hm2 rfl (fun w a2 b2 c2 hq2 => ?_)
  obtain ⟨e, h⟩ := h w a2 b2 c2 hq2
  exact Z_icmp_eq (t := 1401) (off := 387) (q := 1017) (by decide +kernel) (by decide) rfl (fun _ => h) (fun z => absurd e z)
theorem lc27 {d x b L i : Nat} {xs : Nat → Int32} {iv : zI} {rv : zR} {lv : zJ} {Q : zQ} (hi : i + 6 ≤ L) (hL : L ≤ 3072) (h : ∃ Q1 : Int32 → zI → zR → zJ → Prop, Ci mX10_nearest d [.ref 0, .int (xs (i + 1))] iv rv lv Q1 ∧ ∀ v a1 b1 c1, Q1 v a1 b1 c1 → ∃ Q2 : Int32 → zI → zR → zJ → Prop, Ci mX11_nearest d [.ref 174, .int (xs (i + 1))] a1 b1 c1 Q2 ∧ ∀ w a2 b2 c2, Q2 w a2 b2 c2 → v = w ∧ Z mLw (d + 1, 0, 200, x, zKl b L xs) 1401 [some (.ref 2000000), some (.ref 0), some (.ref 174), some (.ref 199), some (.int (nI i)), none, none] [] 200 a2 b2 c2 Q) : Z mLw (d + 1, 0, 200, x, zKl b L xs) 1019 [some (.ref 2000000), some (.ref 0), some (.ref 174), some (.ref 199), some (.int (nI i)), none, none] [] 200 iv rv lv Q := by
  obtain ⟨Q1, hm, h⟩ := h
  refine Z_aload_n (a := 1) (q := 1020) (by decide +kernel) rfl rfl ?_
  refine Z_arg (k := 1) (q := 1026) (by decide +kernel) (by decide +kernel) (by decide +kernel) (by decide +kernel) (by decide +kernel) (by decide) hi hL rfl ?_
  refine Z_callVi (M2 := mX10_nearest) (idx := 130) (d2 := d) (ci := 10) (As := [.int _]) (q := 1029) (by decide +kernel) kX10_nearest lL_130 rfl rfl (by decide) rfl rfl (by decide +kernel) (Nat.le_of_ble_eq_true rfl) (Nat.le_refl _) hm rfl (fun v a1 b1 c1 hq => ?_)
  obtain ⟨Q2, hm2, h⟩ := h v a1 b1 c1 hq
  refine Z_aload_n (a := 2) (q := 1030) (by decide +kernel) rfl rfl ?_
  refine Z_arg (k := 1) (q := 1036) (by decide +kernel) (by decide +kernel) (by decide +kernel) (by decide +kernel) (by decide +kernel) (by decide) hi hL rfl ?_
  refine Z_callVi (M2 := mX11_nearest) (idx := 133) (d2 := d) (ci := 11) (As := [.int _]) (q := 1039) (by decide +kernel) kX11_nearest lL_133 rfl rfl (by decide) rfl rfl (by decide +kernel) (Nat.le_of_ble_eq_true rfl) (Nat.le_refl _) hm2 rfl (fun w a2 b2 c2 hq2 => ?_)
  obtain ⟨e, h⟩ := h w a2 b2 c2 hq2
  exact Z_icmp_eq (t := 1401) (off := 362) (q := 1042) (by decide +kernel) (by decide) rfl (fun _ => h) (fun z => absurd e z)
theorem lc28 {d x b L i : Nat} {xs : Nat → Int32} {iv : zI} {rv : zR} {lv : zJ} {Q : zQ} (hi : i + 6 ≤ L) (hL : L ≤ 3072) (h : ∃ Q1 : Int32 → zI → zR → zJ → Prop, Ci mX10_add d [.ref 0, .int (xs (i + 1))] iv rv lv Q1 ∧ ∀ v a1 b1 c1, Q1 v a1 b1 c1 → ∃ Q2 : Int32 → zI → zR → zJ → Prop, Ci mX11_add d [.ref 174, .int (xs (i + 1))] a1 b1 c1 Q2 ∧ ∀ w a2 b2 c2, Q2 w a2 b2 c2 → v = w ∧ Z mLw (d + 1, 0, 200, x, zKl b L xs) 1401 [some (.ref 2000000), some (.ref 0), some (.ref 174), some (.ref 199), some (.int (nI i)), none, none] [] 200 a2 b2 c2 Q) : Z mLw (d + 1, 0, 200, x, zKl b L xs) 1044 [some (.ref 2000000), some (.ref 0), some (.ref 174), some (.ref 199), some (.int (nI i)), none, none] [] 200 iv rv lv Q := by
  obtain ⟨Q1, hm, h⟩ := h
  refine Z_aload_n (a := 1) (q := 1045) (by decide +kernel) rfl rfl ?_
  refine Z_arg (k := 1) (q := 1051) (by decide +kernel) (by decide +kernel) (by decide +kernel) (by decide +kernel) (by decide +kernel) (by decide) hi hL rfl ?_
  refine Z_callVi (M2 := mX10_add) (idx := 134) (d2 := d) (ci := 10) (As := [.int _]) (q := 1054) (by decide +kernel) kX10_add lL_134 rfl rfl (by decide) rfl rfl (by decide +kernel) (Nat.le_of_ble_eq_true rfl) (Nat.le_refl _) hm rfl (fun v a1 b1 c1 hq => ?_)
  obtain ⟨Q2, hm2, h⟩ := h v a1 b1 c1 hq
  refine Z_aload_n (a := 2) (q := 1055) (by decide +kernel) rfl rfl ?_
  refine Z_arg (k := 1) (q := 1061) (by decide +kernel) (by decide +kernel) (by decide +kernel) (by decide +kernel) (by decide +kernel) (by decide) hi hL rfl ?_
  refine Z_callVi (M2 := mX11_add) (idx := 137) (d2 := d) (ci := 11) (As := [.int _]) (q := 1064) (by decide +kernel) kX11_add lL_137 rfl rfl (by decide) rfl rfl (by decide +kernel) (Nat.le_of_ble_eq_true rfl) (Nat.le_refl _) hm2 rfl (fun w a2 b2 c2 hq2 => ?_)
  obtain ⟨e, h⟩ := h w a2 b2 c2 hq2
  exact Z_icmp_eq (t := 1401) (off := 337) (q := 1067) (by decide +kernel) (by decide) rfl (fun _ => h) (fun z => absurd e z)
theorem lc29 {d x b L i : Nat} {xs : Nat → Int32} {iv : zI} {rv : zR} {lv : zJ} {Q : zQ} (hi : i + 6 ≤ L) (hL : L ≤ 3072) (h : ∃ Q1 : Int32 → zI → zR → zJ → Prop, Ci mX10_drop d [.ref 0, .int (xs (i + 1))] iv rv lv Q1 ∧ ∀ v a1 b1 c1, Q1 v a1 b1 c1 → ∃ Q2 : Int32 → zI → zR → zJ → Prop, Ci mX11_drop d [.ref 174, .int (xs (i + 1))] a1 b1 c1 Q2 ∧ ∀ w a2 b2 c2, Q2 w a2 b2 c2 → v = w ∧ Z mLw (d + 1, 0, 200, x, zKl b L xs) 1401 [some (.ref 2000000), some (.ref 0), some (.ref 174), some (.ref 199), some (.int (nI i)), none, none] [] 200 a2 b2 c2 Q) : Z mLw (d + 1, 0, 200, x, zKl b L xs) 1069 [some (.ref 2000000), some (.ref 0), some (.ref 174), some (.ref 199), some (.int (nI i)), none, none] [] 200 iv rv lv Q := by
  obtain ⟨Q1, hm, h⟩ := h
  refine Z_aload_n (a := 1) (q := 1070) (by decide +kernel) rfl rfl ?_
  refine Z_arg (k := 1) (q := 1076) (by decide +kernel) (by decide +kernel) (by decide +kernel) (by decide +kernel) (by decide +kernel) (by decide) hi hL rfl ?_
  refine Z_callVi (M2 := mX10_drop) (idx := 138) (d2 := d) (ci := 10) (As := [.int _]) (q := 1079) (by decide +kernel) kX10_drop lL_138 rfl rfl (by decide) rfl rfl (by decide +kernel) (Nat.le_of_ble_eq_true rfl) (Nat.le_refl _) hm rfl (fun v a1 b1 c1 hq => ?_)
  obtain ⟨Q2, hm2, h⟩ := h v a1 b1 c1 hq
  refine Z_aload_n (a := 2) (q := 1080) (by decide +kernel) rfl rfl ?_
  refine Z_arg (k := 1) (q := 1086) (by decide +kernel) (by decide +kernel) (by decide +kernel) (by decide +kernel) (by decide +kernel) (by decide) hi hL rfl ?_
  refine Z_callVi (M2 := mX11_drop) (idx := 141) (d2 := d) (ci := 11) (As := [.int _]) (q := 1089) (by decide +kernel) kX11_drop lL_141 rfl rfl (by decide) rfl rfl (by decide +kernel) (Nat.le_of_ble_eq_true rfl) (Nat.le_refl _) hm2 rfl (fun w a2 b2 c2 hq2 => ?_)
  obtain ⟨e, h⟩ := h w a2 b2 c2 hq2
  exact Z_icmp_eq (t := 1401) (off := 312) (q := 1092) (by decide +kernel) (by decide) rfl (fun _ => h) (fun z => absurd e z)
theorem lc30 {d x b L i : Nat} {xs : Nat → Int32} {iv : zI} {rv : zR} {lv : zJ} {Q : zQ} (hi : i + 6 ≤ L) (hL : L ≤ 3072) (h : ∃ Q1 : Int32 → zI → zR → zJ → Prop, Ci mX10_become d [.ref 0, .int (xs (i + 1)), .int (xs (i + 2))] iv rv lv Q1 ∧ ∀ v a1 b1 c1, Q1 v a1 b1 c1 → ∃ Q2 : Int32 → zI → zR → zJ → Prop, Ci mX11_become d [.ref 174, .int (xs (i + 1)), .int (xs (i + 2))] a1 b1 c1 Q2 ∧ ∀ w a2 b2 c2, Q2 w a2 b2 c2 → v = w ∧ Z mLw (d + 1, 0, 200, x, zKl b L xs) 1401 [some (.ref 2000000), some (.ref 0), some (.ref 174), some (.ref 199), some (.int (nI i)), none, none] [] 200 a2 b2 c2 Q) : Z mLw (d + 1, 0, 200, x, zKl b L xs) 1094 [some (.ref 2000000), some (.ref 0), some (.ref 174), some (.ref 199), some (.int (nI i)), none, none] [] 200 iv rv lv Q := by
  obtain ⟨Q1, hm, h⟩ := h
  refine Z_aload_n (a := 1) (q := 1095) (by decide +kernel) rfl rfl ?_
  refine Z_arg (k := 1) (q := 1101) (by decide +kernel) (by decide +kernel) (by decide +kernel) (by decide +kernel) (by decide +kernel) (by decide) hi hL rfl ?_
  refine Z_arg (k := 2) (q := 1107) (by decide +kernel) (by decide +kernel) (by decide +kernel) (by decide +kernel) (by decide +kernel) (by decide) hi hL rfl ?_
  refine Z_callVi (M2 := mX10_become) (idx := 142) (d2 := d) (ci := 10) (As := [.int _, .int _]) (q := 1110) (by decide +kernel) kX10_become lL_142 rfl rfl (by decide) rfl rfl (by decide +kernel) (Nat.le_of_ble_eq_true rfl) (Nat.le_refl _) hm rfl (fun v a1 b1 c1 hq => ?_)
  obtain ⟨Q2, hm2, h⟩ := h v a1 b1 c1 hq
  refine Z_aload_n (a := 2) (q := 1111) (by decide +kernel) rfl rfl ?_
  refine Z_arg (k := 1) (q := 1117) (by decide +kernel) (by decide +kernel) (by decide +kernel) (by decide +kernel) (by decide +kernel) (by decide) hi hL rfl ?_
  refine Z_arg (k := 2) (q := 1123) (by decide +kernel) (by decide +kernel) (by decide +kernel) (by decide +kernel) (by decide +kernel) (by decide) hi hL rfl ?_
  refine Z_callVi (M2 := mX11_become) (idx := 145) (d2 := d) (ci := 11) (As := [.int _, .int _]) (q := 1126) (by decide +kernel) kX11_become lL_145 rfl rfl (by decide) rfl rfl (by decide +kernel) (Nat.le_of_ble_eq_true rfl) (Nat.le_refl _) hm2 rfl (fun w a2 b2 c2 hq2 => ?_)
  obtain ⟨e, h⟩ := h w a2 b2 c2 hq2
  exact Z_icmp_eq (t := 1401) (off := 275) (q := 1129) (by decide +kernel) (by decide) rfl (fun _ => h) (fun z => absurd e z)
theorem lc31 {d x b L i : Nat} {xs : Nat → Int32} {iv : zI} {rv : zR} {lv : zJ} {Q : zQ} (hi : i + 6 ≤ L) (hL : L ≤ 3072) (h : ∃ Q1 : Int32 → zI → zR → zJ → Prop, Ci mX10_keepIn d [.ref 0, .int (xs (i + 1)), .int (xs (i + 2))] iv rv lv Q1 ∧ ∀ v a1 b1 c1, Q1 v a1 b1 c1 → ∃ Q2 : Int32 → zI → zR → zJ → Prop, Ci mX11_keepIn d [.ref 174, .int (xs (i + 1)), .int (xs (i + 2))] a1 b1 c1 Q2 ∧ ∀ w a2 b2 c2, Q2 w a2 b2 c2 → v = w ∧ Z mLw (d + 1, 0, 200, x, zKl b L xs) 1401 [some (.ref 2000000), some (.ref 0), some (.ref 174), some (.ref 199), some (.int (nI i)), none, none] [] 200 a2 b2 c2 Q) : Z mLw (d + 1, 0, 200, x, zKl b L xs) 1131 [some (.ref 2000000), some (.ref 0), some (.ref 174), some (.ref 199), some (.int (nI i)), none, none] [] 200 iv rv lv Q := by
  obtain ⟨Q1, hm, h⟩ := h
  refine Z_aload_n (a := 1) (q := 1132) (by decide +kernel) rfl rfl ?_
  refine Z_arg (k := 1) (q := 1138) (by decide +kernel) (by decide +kernel) (by decide +kernel) (by decide +kernel) (by decide +kernel) (by decide) hi hL rfl ?_
  refine Z_arg (k := 2) (q := 1144) (by decide +kernel) (by decide +kernel) (by decide +kernel) (by decide +kernel) (by decide +kernel) (by decide) hi hL rfl ?_
  refine Z_callVi (M2 := mX10_keepIn) (idx := 146) (d2 := d) (ci := 10) (As := [.int _, .int _]) (q := 1147) (by decide +kernel) kX10_keepIn lL_146 rfl rfl (by decide) rfl rfl (by decide +kernel) (Nat.le_of_ble_eq_true rfl) (Nat.le_refl _) hm rfl (fun v a1 b1 c1 hq => ?_)
  obtain ⟨Q2, hm2, h⟩ := h v a1 b1 c1 hq
  refine Z_aload_n (a := 2) (q := 1148) (by decide +kernel) rfl rfl ?_
  refine Z_arg (k := 1) (q := 1154) (by decide +kernel) (by decide +kernel) (by decide +kernel) (by decide +kernel) (by decide +kernel) (by decide) hi hL rfl ?_
  refine Z_arg (k := 2) (q := 1160) (by decide +kernel) (by decide +kernel) (by decide +kernel) (by decide +kernel) (by decide +kernel) (by decide) hi hL rfl ?_
  refine Z_callVi (M2 := mX11_keepIn) (idx := 149) (d2 := d) (ci := 11) (As := [.int _, .int _]) (q := 1163) (by decide +kernel) kX11_keepIn lL_149 rfl rfl (by decide) rfl rfl (by decide +kernel) (Nat.le_of_ble_eq_true rfl) (Nat.le_refl _) hm2 rfl (fun w a2 b2 c2 hq2 => ?_)
  obtain ⟨e, h⟩ := h w a2 b2 c2 hq2
  exact Z_icmp_eq (t := 1401) (off := 238) (q := 1166) (by decide +kernel) (by decide) rfl (fun _ => h) (fun z => absurd e z)
theorem lc32 {d x b L i : Nat} {xs : Nat → Int32} {iv : zI} {rv : zR} {lv : zJ} {Q : zQ} (hi : i + 6 ≤ L) (hL : L ≤ 3072) (h : ∃ Q1 : Int32 → zI → zR → zJ → Prop, Ci mX10_apart d [.ref 0, .int (xs (i + 1)), .int (xs (i + 2))] iv rv lv Q1 ∧ ∀ v a1 b1 c1, Q1 v a1 b1 c1 → ∃ Q2 : Int32 → zI → zR → zJ → Prop, Ci mX11_apart d [.ref 174, .int (xs (i + 1)), .int (xs (i + 2))] a1 b1 c1 Q2 ∧ ∀ w a2 b2 c2, Q2 w a2 b2 c2 → v = w ∧ Z mLw (d + 1, 0, 200, x, zKl b L xs) 1401 [some (.ref 2000000), some (.ref 0), some (.ref 174), some (.ref 199), some (.int (nI i)), none, none] [] 200 a2 b2 c2 Q) : Z mLw (d + 1, 0, 200, x, zKl b L xs) 1168 [some (.ref 2000000), some (.ref 0), some (.ref 174), some (.ref 199), some (.int (nI i)), none, none] [] 200 iv rv lv Q := by
  obtain ⟨Q1, hm, h⟩ := h
  refine Z_aload_n (a := 1) (q := 1169) (by decide +kernel) rfl rfl ?_
  refine Z_arg (k := 1) (q := 1175) (by decide +kernel) (by decide +kernel) (by decide +kernel) (by decide +kernel) (by decide +kernel) (by decide) hi hL rfl ?_
  refine Z_arg (k := 2) (q := 1181) (by decide +kernel) (by decide +kernel) (by decide +kernel) (by decide +kernel) (by decide +kernel) (by decide) hi hL rfl ?_
  refine Z_callVi (M2 := mX10_apart) (idx := 150) (d2 := d) (ci := 10) (As := [.int _, .int _]) (q := 1184) (by decide +kernel) kX10_apart lL_150 rfl rfl (by decide) rfl rfl (by decide +kernel) (Nat.le_of_ble_eq_true rfl) (Nat.le_refl _) hm rfl (fun v a1 b1 c1 hq => ?_)
  obtain ⟨Q2, hm2, h⟩ := h v a1 b1 c1 hq
  refine Z_aload_n (a := 2) (q := 1185) (by decide +kernel) rfl rfl ?_
  refine Z_arg (k := 1) (q := 1191) (by decide +kernel) (by decide +kernel) (by decide +kernel) (by decide +kernel) (by decide +kernel) (by decide) hi hL rfl ?_
  refine Z_arg (k := 2) (q := 1197) (by decide +kernel) (by decide +kernel) (by decide +kernel) (by decide +kernel) (by decide +kernel) (by decide) hi hL rfl ?_
  refine Z_callVi (M2 := mX11_apart) (idx := 153) (d2 := d) (ci := 11) (As := [.int _, .int _]) (q := 1200) (by decide +kernel) kX11_apart lL_153 rfl rfl (by decide) rfl rfl (by decide +kernel) (Nat.le_of_ble_eq_true rfl) (Nat.le_refl _) hm2 rfl (fun w a2 b2 c2 hq2 => ?_)
  obtain ⟨e, h⟩ := h w a2 b2 c2 hq2
  exact Z_icmp_eq (t := 1401) (off := 201) (q := 1203) (by decide +kernel) (by decide) rfl (fun _ => h) (fun z => absurd e z)
theorem lc33 {d x b L i : Nat} {xs : Nat → Int32} {iv : zI} {rv : zR} {lv : zJ} {Q : zQ} (hi : i + 6 ≤ L) (hL : L ≤ 3072) (h : ∃ Q1 : Int32 → zI → zR → zJ → Prop, Ci mX10_sort d [.ref 0] iv rv lv Q1 ∧ ∀ v a1 b1 c1, Q1 v a1 b1 c1 → ∃ Q2 : Int32 → zI → zR → zJ → Prop, Ci mX11_sort d [.ref 174] a1 b1 c1 Q2 ∧ ∀ w a2 b2 c2, Q2 w a2 b2 c2 → v = w ∧ Z mLw (d + 1, 0, 200, x, zKl b L xs) 1401 [some (.ref 2000000), some (.ref 0), some (.ref 174), some (.ref 199), some (.int (nI i)), none, none] [] 200 a2 b2 c2 Q) : Z mLw (d + 1, 0, 200, x, zKl b L xs) 1205 [some (.ref 2000000), some (.ref 0), some (.ref 174), some (.ref 199), some (.int (nI i)), none, none] [] 200 iv rv lv Q := by
  obtain ⟨Q1, hm, h⟩ := h
  refine Z_aload_n (a := 1) (q := 1206) (by decide +kernel) rfl rfl ?_
  refine Z_callVi (M2 := mX10_sort) (idx := 154) (d2 := d) (ci := 10) (As := []) (q := 1209) (by decide +kernel) kX10_sort lL_154 rfl rfl (by decide) rfl rfl (by decide +kernel) (Nat.le_of_ble_eq_true rfl) (Nat.le_refl _) hm rfl (fun v a1 b1 c1 hq => ?_)
  obtain ⟨Q2, hm2, h⟩ := h v a1 b1 c1 hq
  refine Z_aload_n (a := 2) (q := 1210) (by decide +kernel) rfl rfl ?_
  refine Z_callVi (M2 := mX11_sort) (idx := 157) (d2 := d) (ci := 11) (As := []) (q := 1213) (by decide +kernel) kX11_sort lL_157 rfl rfl (by decide) rfl rfl (by decide +kernel) (Nat.le_of_ble_eq_true rfl) (Nat.le_refl _) hm2 rfl (fun w a2 b2 c2 hq2 => ?_)
  obtain ⟨e, h⟩ := h w a2 b2 c2 hq2
  exact Z_icmp_eq (t := 1401) (off := 188) (q := 1216) (by decide +kernel) (by decide) rfl (fun _ => h) (fun z => absurd e z)
theorem lc34 {d x b L i : Nat} {xs : Nat → Int32} {iv : zI} {rv : zR} {lv : zJ} {Q : zQ} (hi : i + 6 ≤ L) (hL : L ≤ 3072) (h : ∃ Q1 : Int32 → zI → zR → zJ → Prop, Ci mX10_heaps d [.ref 0, .int (xs (i + 1))] iv rv lv Q1 ∧ ∀ v a1 b1 c1, Q1 v a1 b1 c1 → ∃ Q2 : Int32 → zI → zR → zJ → Prop, Ci mX11_heaps d [.ref 174, .int (xs (i + 1))] a1 b1 c1 Q2 ∧ ∀ w a2 b2 c2, Q2 w a2 b2 c2 → v = w ∧ Z mLw (d + 1, 0, 200, x, zKl b L xs) 1401 [some (.ref 2000000), some (.ref 0), some (.ref 174), some (.ref 199), some (.int (nI i)), none, none] [] 200 a2 b2 c2 Q) : Z mLw (d + 1, 0, 200, x, zKl b L xs) 1218 [some (.ref 2000000), some (.ref 0), some (.ref 174), some (.ref 199), some (.int (nI i)), none, none] [] 200 iv rv lv Q := by
  obtain ⟨Q1, hm, h⟩ := h
  refine Z_aload_n (a := 1) (q := 1219) (by decide +kernel) rfl rfl ?_
  refine Z_arg (k := 1) (q := 1225) (by decide +kernel) (by decide +kernel) (by decide +kernel) (by decide +kernel) (by decide +kernel) (by decide) hi hL rfl ?_
  refine Z_callVi (M2 := mX10_heaps) (idx := 158) (d2 := d) (ci := 10) (As := [.int _]) (q := 1228) (by decide +kernel) kX10_heaps lL_158 rfl rfl (by decide) rfl rfl (by decide +kernel) (Nat.le_of_ble_eq_true rfl) (Nat.le_refl _) hm rfl (fun v a1 b1 c1 hq => ?_)
  obtain ⟨Q2, hm2, h⟩ := h v a1 b1 c1 hq
  refine Z_aload_n (a := 2) (q := 1229) (by decide +kernel) rfl rfl ?_
  refine Z_arg (k := 1) (q := 1235) (by decide +kernel) (by decide +kernel) (by decide +kernel) (by decide +kernel) (by decide +kernel) (by decide) hi hL rfl ?_
  refine Z_callVi (M2 := mX11_heaps) (idx := 161) (d2 := d) (ci := 11) (As := [.int _]) (q := 1238) (by decide +kernel) kX11_heaps lL_161 rfl rfl (by decide) rfl rfl (by decide +kernel) (Nat.le_of_ble_eq_true rfl) (Nat.le_refl _) hm2 rfl (fun w a2 b2 c2 hq2 => ?_)
  obtain ⟨e, h⟩ := h w a2 b2 c2 hq2
  exact Z_icmp_eq (t := 1401) (off := 163) (q := 1241) (by decide +kernel) (by decide) rfl (fun _ => h) (fun z => absurd e z)
theorem lc35 {d x b L i : Nat} {xs : Nat → Int32} {iv : zI} {rv : zR} {lv : zJ} {Q : zQ} (hi : i + 6 ≤ L) (hL : L ≤ 3072) (h : ∃ Q1 : Int32 → zI → zR → zJ → Prop, Ci mX10_undo d [.ref 0] iv rv lv Q1 ∧ ∀ v a1 b1 c1, Q1 v a1 b1 c1 → ∃ Q2 : Int32 → zI → zR → zJ → Prop, Ci mX11_undo d [.ref 174] a1 b1 c1 Q2 ∧ ∀ w a2 b2 c2, Q2 w a2 b2 c2 → v = w ∧ Z mLw (d + 1, 0, 200, x, zKl b L xs) 1401 [some (.ref 2000000), some (.ref 0), some (.ref 174), some (.ref 199), some (.int (nI i)), none, none] [] 200 a2 b2 c2 Q) : Z mLw (d + 1, 0, 200, x, zKl b L xs) 1243 [some (.ref 2000000), some (.ref 0), some (.ref 174), some (.ref 199), some (.int (nI i)), none, none] [] 200 iv rv lv Q := by
  obtain ⟨Q1, hm, h⟩ := h
  refine Z_aload_n (a := 1) (q := 1244) (by decide +kernel) rfl rfl ?_
  refine Z_callVi (M2 := mX10_undo) (idx := 162) (d2 := d) (ci := 10) (As := []) (q := 1247) (by decide +kernel) kX10_undo lL_162 rfl rfl (by decide) rfl rfl (by decide +kernel) (Nat.le_of_ble_eq_true rfl) (Nat.le_refl _) hm rfl (fun v a1 b1 c1 hq => ?_)
  obtain ⟨Q2, hm2, h⟩ := h v a1 b1 c1 hq
  refine Z_aload_n (a := 2) (q := 1248) (by decide +kernel) rfl rfl ?_
  refine Z_callVi (M2 := mX11_undo) (idx := 165) (d2 := d) (ci := 11) (As := []) (q := 1251) (by decide +kernel) kX11_undo lL_165 rfl rfl (by decide) rfl rfl (by decide +kernel) (Nat.le_of_ble_eq_true rfl) (Nat.le_refl _) hm2 rfl (fun w a2 b2 c2 hq2 => ?_)
  obtain ⟨e, h⟩ := h w a2 b2 c2 hq2
  exact Z_icmp_eq (t := 1401) (off := 150) (q := 1254) (by decide +kernel) (by decide) rfl (fun _ => h) (fun z => absurd e z)
theorem lc36 {d x b L i : Nat} {xs : Nat → Int32} {iv : zI} {rv : zR} {lv : zJ} {Q : zQ} (hi : i + 6 ≤ L) (hL : L ≤ 3072) (h : ∃ Q1 : Int32 → zI → zR → zJ → Prop, Ci mX10_image d [.ref 0, .int (xs (i + 1))] iv rv lv Q1 ∧ ∀ v a1 b1 c1, Q1 v a1 b1 c1 → ∃ Q2 : Int32 → zI → zR → zJ → Prop, Ci mX11_image d [.ref 174, .int (xs (i + 1))] a1 b1 c1 Q2 ∧ ∀ w a2 b2 c2, Q2 w a2 b2 c2 → v = w ∧ Z mLw (d + 1, 0, 200, x, zKl b L xs) 1401 [some (.ref 2000000), some (.ref 0), some (.ref 174), some (.ref 199), some (.int (nI i)), none, none] [] 200 a2 b2 c2 Q) : Z mLw (d + 1, 0, 200, x, zKl b L xs) 1256 [some (.ref 2000000), some (.ref 0), some (.ref 174), some (.ref 199), some (.int (nI i)), none, none] [] 200 iv rv lv Q := by
  obtain ⟨Q1, hm, h⟩ := h
  refine Z_aload_n (a := 1) (q := 1257) (by decide +kernel) rfl rfl ?_
  refine Z_arg (k := 1) (q := 1263) (by decide +kernel) (by decide +kernel) (by decide +kernel) (by decide +kernel) (by decide +kernel) (by decide) hi hL rfl ?_
  refine Z_callVi (M2 := mX10_image) (idx := 166) (d2 := d) (ci := 10) (As := [.int _]) (q := 1266) (by decide +kernel) kX10_image lL_166 rfl rfl (by decide) rfl rfl (by decide +kernel) (Nat.le_of_ble_eq_true rfl) (Nat.le_refl _) hm rfl (fun v a1 b1 c1 hq => ?_)
  obtain ⟨Q2, hm2, h⟩ := h v a1 b1 c1 hq
  refine Z_aload_n (a := 2) (q := 1267) (by decide +kernel) rfl rfl ?_
  refine Z_arg (k := 1) (q := 1273) (by decide +kernel) (by decide +kernel) (by decide +kernel) (by decide +kernel) (by decide +kernel) (by decide) hi hL rfl ?_
  refine Z_callVi (M2 := mX11_image) (idx := 170) (d2 := d) (ci := 11) (As := [.int _]) (q := 1276) (by decide +kernel) kX11_image lL_170 rfl rfl (by decide) rfl rfl (by decide +kernel) (Nat.le_of_ble_eq_true rfl) (Nat.le_refl _) hm2 rfl (fun w a2 b2 c2 hq2 => ?_)
  obtain ⟨e, h⟩ := h w a2 b2 c2 hq2
  exact Z_icmp_eq (t := 1401) (off := 125) (q := 1279) (by decide +kernel) (by decide) rfl (fun _ => h) (fun z => absurd e z)
theorem lc37 {d x b L i : Nat} {xs : Nat → Int32} {iv : zI} {rv : zR} {lv : zJ} {Q : zQ} (hi : i + 6 ≤ L) (hL : L ≤ 3072) (h : ∃ Q1 : Int32 → zI → zR → zJ → Prop, Ci mX10_back d [.ref 0, .int (xs (i + 1))] iv rv lv Q1 ∧ ∀ v a1 b1 c1, Q1 v a1 b1 c1 → ∃ Q2 : Int32 → zI → zR → zJ → Prop, Ci mX11_back d [.ref 174, .int (xs (i + 1))] a1 b1 c1 Q2 ∧ ∀ w a2 b2 c2, Q2 w a2 b2 c2 → v = w ∧ Z mLw (d + 1, 0, 200, x, zKl b L xs) 1401 [some (.ref 2000000), some (.ref 0), some (.ref 174), some (.ref 199), some (.int (nI i)), none, none] [] 200 a2 b2 c2 Q) : Z mLw (d + 1, 0, 200, x, zKl b L xs) 1281 [some (.ref 2000000), some (.ref 0), some (.ref 174), some (.ref 199), some (.int (nI i)), none, none] [] 200 iv rv lv Q := by
  obtain ⟨Q1, hm, h⟩ := h
  refine Z_aload_n (a := 1) (q := 1282) (by decide +kernel) rfl rfl ?_
  refine Z_arg (k := 1) (q := 1288) (by decide +kernel) (by decide +kernel) (by decide +kernel) (by decide +kernel) (by decide +kernel) (by decide) hi hL rfl ?_
  refine Z_callVi (M2 := mX10_back) (idx := 171) (d2 := d) (ci := 10) (As := [.int _]) (q := 1291) (by decide +kernel) kX10_back lL_171 rfl rfl (by decide) rfl rfl (by decide +kernel) (Nat.le_of_ble_eq_true rfl) (Nat.le_refl _) hm rfl (fun v a1 b1 c1 hq => ?_)
  obtain ⟨Q2, hm2, h⟩ := h v a1 b1 c1 hq
  refine Z_aload_n (a := 2) (q := 1292) (by decide +kernel) rfl rfl ?_
  refine Z_arg (k := 1) (q := 1298) (by decide +kernel) (by decide +kernel) (by decide +kernel) (by decide +kernel) (by decide +kernel) (by decide) hi hL rfl ?_
  refine Z_callVi (M2 := mX11_back) (idx := 174) (d2 := d) (ci := 11) (As := [.int _]) (q := 1301) (by decide +kernel) kX11_back lL_174 rfl rfl (by decide) rfl rfl (by decide +kernel) (Nat.le_of_ble_eq_true rfl) (Nat.le_refl _) hm2 rfl (fun w a2 b2 c2 hq2 => ?_)
  obtain ⟨e, h⟩ := h w a2 b2 c2 hq2
  exact Z_icmp_eq (t := 1401) (off := 100) (q := 1304) (by decide +kernel) (by decide) rfl (fun _ => h) (fun z => absurd e z)
theorem lc38 {d x b L i : Nat} {xs : Nat → Int32} {iv : zI} {rv : zR} {lv : zJ} {Q : zQ} (hi : i + 6 ≤ L) (hL : L ≤ 3072) (h : ∃ Q1 : Int32 → zI → zR → zJ → Prop, Ci mX10_write d [.ref 0] iv rv lv Q1 ∧ ∀ v a1 b1 c1, Q1 v a1 b1 c1 → ∃ Q2 : Int32 → zI → zR → zJ → Prop, Ci mX11_write d [.ref 174] a1 b1 c1 Q2 ∧ ∀ w a2 b2 c2, Q2 w a2 b2 c2 → v = w ∧ Z mLw (d + 1, 0, 200, x, zKl b L xs) 1401 [some (.ref 2000000), some (.ref 0), some (.ref 174), some (.ref 199), some (.int (nI i)), none, none] [] 200 a2 b2 c2 Q) : Z mLw (d + 1, 0, 200, x, zKl b L xs) 1306 [some (.ref 2000000), some (.ref 0), some (.ref 174), some (.ref 199), some (.int (nI i)), none, none] [] 200 iv rv lv Q := by
  obtain ⟨Q1, hm, h⟩ := h
  refine Z_aload_n (a := 1) (q := 1307) (by decide +kernel) rfl rfl ?_
  refine Z_callVi (M2 := mX10_write) (idx := 175) (d2 := d) (ci := 10) (As := []) (q := 1310) (by decide +kernel) kX10_write lL_175 rfl rfl (by decide) rfl rfl (by decide +kernel) (Nat.le_of_ble_eq_true rfl) (Nat.le_refl _) hm rfl (fun v a1 b1 c1 hq => ?_)
  obtain ⟨Q2, hm2, h⟩ := h v a1 b1 c1 hq
  refine Z_aload_n (a := 2) (q := 1311) (by decide +kernel) rfl rfl ?_
  refine Z_callVi (M2 := mX11_write) (idx := 178) (d2 := d) (ci := 11) (As := []) (q := 1314) (by decide +kernel) kX11_write lL_178 rfl rfl (by decide) rfl rfl (by decide +kernel) (Nat.le_of_ble_eq_true rfl) (Nat.le_refl _) hm2 rfl (fun w a2 b2 c2 hq2 => ?_)
  obtain ⟨e, h⟩ := h w a2 b2 c2 hq2
  exact Z_icmp_eq (t := 1401) (off := 87) (q := 1317) (by decide +kernel) (by decide) rfl (fun _ => h) (fun z => absurd e z)
theorem lc40 {d x b L i : Nat} {xs : Nat → Int32} {iv : zI} {rv : zR} {lv : zJ} {Q : zQ} (hi : i + 6 ≤ L) (hL : L ≤ 3072) (h : ∃ Q1 : Int32 → zI → zR → zJ → Prop, Ci mX10_bytes d [.ref 0] iv rv lv Q1 ∧ ∀ v a1 b1 c1, Q1 v a1 b1 c1 → ∃ Q2 : Int32 → zI → zR → zJ → Prop, Ci mX11_bytes d [.ref 174] a1 b1 c1 Q2 ∧ ∀ w a2 b2 c2, Q2 w a2 b2 c2 → v = w ∧ Z mLw (d + 1, 0, 200, x, zKl b L xs) 1401 [some (.ref 2000000), some (.ref 0), some (.ref 174), some (.ref 199), some (.int (nI i)), none, none] [] 200 a2 b2 c2 Q) : Z mLw (d + 1, 0, 200, x, zKl b L xs) 1375 [some (.ref 2000000), some (.ref 0), some (.ref 174), some (.ref 199), some (.int (nI i)), none, none] [] 200 iv rv lv Q := by
  obtain ⟨Q1, hm, h⟩ := h
  refine Z_aload_n (a := 1) (q := 1376) (by decide +kernel) rfl rfl ?_
  refine Z_callVi (M2 := mX10_bytes) (idx := 188) (d2 := d) (ci := 10) (As := []) (q := 1379) (by decide +kernel) kX10_bytes lL_188 rfl rfl (by decide) rfl rfl (by decide +kernel) (Nat.le_of_ble_eq_true rfl) (Nat.le_refl _) hm rfl (fun v a1 b1 c1 hq => ?_)
  obtain ⟨Q2, hm2, h⟩ := h v a1 b1 c1 hq
  refine Z_aload_n (a := 2) (q := 1380) (by decide +kernel) rfl rfl ?_
  refine Z_callVi (M2 := mX11_bytes) (idx := 191) (d2 := d) (ci := 11) (As := []) (q := 1383) (by decide +kernel) kX11_bytes lL_191 rfl rfl (by decide) rfl rfl (by decide +kernel) (Nat.le_of_ble_eq_true rfl) (Nat.le_refl _) hm2 rfl (fun w a2 b2 c2 hq2 => ?_)
  obtain ⟨e, h⟩ := h w a2 b2 c2 hq2
  exact Z_icmp_eq (t := 1401) (off := 18) (q := 1386) (by decide +kernel) (by decide) rfl (fun _ => h) (fun z => absurd e z)
theorem lc41 {d x b L i : Nat} {xs : Nat → Int32} {iv : zI} {rv : zR} {lv : zJ} {Q : zQ} (hi : i + 6 ≤ L) (hL : L ≤ 3072) (h : ∃ Q1 : Int32 → zI → zR → zJ → Prop, Ci mX10_trouble d [.ref 0] iv rv lv Q1 ∧ ∀ v a1 b1 c1, Q1 v a1 b1 c1 → ∃ Q2 : Int32 → zI → zR → zJ → Prop, Ci mX11_trouble d [.ref 174] a1 b1 c1 Q2 ∧ ∀ w a2 b2 c2, Q2 w a2 b2 c2 → v = w ∧ Z mLw (d + 1, 0, 200, x, zKl b L xs) 1401 [some (.ref 2000000), some (.ref 0), some (.ref 174), some (.ref 199), some (.int (nI i)), none, none] [] 200 a2 b2 c2 Q) : Z mLw (d + 1, 0, 200, x, zKl b L xs) 1388 [some (.ref 2000000), some (.ref 0), some (.ref 174), some (.ref 199), some (.int (nI i)), none, none] [] 200 iv rv lv Q := by
  obtain ⟨Q1, hm, h⟩ := h
  refine Z_aload_n (a := 1) (q := 1389) (by decide +kernel) rfl rfl ?_
  refine Z_callVi (M2 := mX10_trouble) (idx := 192) (d2 := d) (ci := 10) (As := []) (q := 1392) (by decide +kernel) kX10_trouble lL_192 rfl rfl (by decide) rfl rfl (by decide +kernel) (Nat.le_of_ble_eq_true rfl) (Nat.le_refl _) hm rfl (fun v a1 b1 c1 hq => ?_)
  obtain ⟨Q2, hm2, h⟩ := h v a1 b1 c1 hq
  refine Z_aload_n (a := 2) (q := 1393) (by decide +kernel) rfl rfl ?_
  refine Z_callVi (M2 := mX11_trouble) (idx := 195) (d2 := d) (ci := 11) (As := []) (q := 1396) (by decide +kernel) kX11_trouble lL_195 rfl rfl (by decide) rfl rfl (by decide +kernel) (Nat.le_of_ble_eq_true rfl) (Nat.le_refl _) hm2 rfl (fun w a2 b2 c2 hq2 => ?_)
  obtain ⟨e, h⟩ := h w a2 b2 c2 hq2
  exact Z_icmp_eq (t := 1401) (off := 5) (q := 1399) (by decide +kernel) (by decide) rfl (fun _ => h) (fun z => absurd e z)
theorem lc39 {d x b L i : Nat} {xs : Nat → Int32} {iv : zI} {rv : zR} {lv : zJ} {Q : zQ} (hi : i + 6 ≤ L) (hL : L ≤ 3072) (h : ∃ Q1 : zQ, (∀ l, Mo l d (xs (i + 1)) iv rv lv Q1) ∧ ∀ r a1 b1 c1, Q1 r a1 b1 c1 → ∃ kx : Int32, r = some (.int kx) ∧ ∃ Q2 : Int32 → zI → zR → zJ → Prop, Ci mX11_octet d [.ref 174, .int (xs (i + 1))] a1 b1 c1 Q2 ∧ ∀ w a2 b2 c2, Q2 w a2 b2 c2 → ∃ Q3 : Int32 → zI → zR → zJ → Prop, Ci mX11_thrown d [.ref 174] a2 b2 c2 Q3 ∧ ∀ u a3 b3 c3, Q3 u a3 b3 c3 → u = kx ∧ (kx = 0 → c3 199 0 = w.toInt64) ∧ Z mLw (d + 1, 0, 200, x, zKl b L xs) 1401 [some (.ref 2000000), some (.ref 0), some (.ref 174), some (.ref 199), some (.int (nI i)), none, none] [] 200 a3 b3 c3 Q) : Z mLw (d + 1, 0, 200, x + 1, zKl b L xs) 1319 [some (.ref 2000000), some (.ref 0), some (.ref 174), some (.ref 199), some (.int (nI i)), none, none] [] 200 iv rv lv Q := by
  obtain ⟨Q1, hm, h⟩ := h
  refine Z_aload_n (a := 1) (q := 1320) (by decide +kernel) rfl rfl ?_
  refine Z_arg (k := 1) (q := 1326) (by decide +kernel) (by decide +kernel) (by decide +kernel) (by decide +kernel) (by decide +kernel) (by decide) hi hL rfl ?_
  refine Z_aload_n (a := 3) (q := 1327) (by decide +kernel) rfl rfl ?_
  refine Z_octet (d2 := d) (q := 1330) (by decide +kernel) (fun _ _ _ _ h => h.1) (Nat.le_of_ble_eq_true rfl) (Nat.le_refl _) hm rfl (fun r a1 b1 c1 hq => ?_)
  obtain ⟨kx, rfl, Q2, hm2, h⟩ := h r a1 b1 c1 hq
  refine Z_istore (a := 5) (loc2 := [_, _, _, _, _, some (.int kx), _]) (q := 1332) (by decide +kernel) (by decide +kernel) rfl rfl rfl ?_
  refine Z_aload_n (a := 2) (q := 1333) (by decide +kernel) rfl rfl ?_
  refine Z_arg (k := 1) (q := 1339) (by decide +kernel) (by decide +kernel) (by decide +kernel) (by decide +kernel) (by decide +kernel) (by decide) hi hL rfl ?_
  refine Z_callVi (M2 := mX11_octet) (idx := 184) (d2 := d) (ci := 11) (As := [.int _]) (q := 1342) (by decide +kernel) kX11_octet lL_184 rfl rfl (by decide) rfl rfl (by decide +kernel) (Nat.le_of_ble_eq_true rfl) (Nat.le_refl _) hm2 rfl (fun w a2 b2 c2 hq2 => ?_)
  obtain ⟨Q3, hm3, h⟩ := h w a2 b2 c2 hq2
  refine Z_istore (a := 6) (loc2 := [_, _, _, _, _, _, some (.int w)]) (q := 1344) (by decide +kernel) (by decide +kernel) rfl rfl rfl ?_
  refine Z_aload_n (a := 2) (q := 1345) (by decide +kernel) rfl rfl ?_
  refine Z_callVi (M2 := mX11_thrown) (idx := 185) (d2 := d) (ci := 11) (As := []) (q := 1348) (by decide +kernel) kX11_thrown lL_185 rfl rfl (by decide) rfl rfl (by decide +kernel) (Nat.le_of_ble_eq_true rfl) (Nat.le_refl _) hm3 rfl (fun u a3 b3 c3 hq3 => ?_)
  obtain ⟨e, e0, h⟩ := h u a3 b3 c3 hq3
  have hz : Z mLw (d + 1, 0, 200, x, zKl b L xs) 1401 [some (.ref 2000000), some (.ref 0), some (.ref 174), some (.ref 199), some (.int (nI i)), some (.int kx), some (.int w)] [] 200 a3 b3 c3 Q := Z.forget (fun j v hj => by
    rcases j with _ | _ | _ | _ | _ | _ | _ | j
    · exact hj
    · exact hj
    · exact hj
    · exact hj
    · exact hj
    · cases hj
    · cases hj
    · cases hj) h
  refine Z_iload (a := 5) (x := kx) (q := 1350) (by decide +kernel) rfl rfl ?_
  refine Z_icmp_eq (t := 1355) (off := 5) (q := 1353) (by decide +kernel) (by decide) rfl (fun _ => ?_) (fun z => absurd e z)
  refine Z_iload (a := 5) (x := kx) (q := 1357) (by decide +kernel) rfl rfl ?_
  refine Z_if_ne (t := 1372) (off := 15) (q := 1360) (by decide +kernel) (by decide) rfl (fun _ => Z_goto (q := 1401) (off := 29) (by decide +kernel) (by decide) hz) (fun z => ?_)
  refine Z_aload_n (a := 3) (q := 1361) (by decide +kernel) rfl rfl ?_
  refine Z_iconst (a := 0) (v := 0) (q := 1362) (by decide +kernel) (by decide +kernel) rfl ?_
  refine Z_lald (q := 1363) (len := 1) (by decide +kernel) rfl (by decide) (show vp_in (nI 0) 1 from vp_in_nI (by decide) (by decide)) rfl ?_
  refine Z_iload (a := 6) (x := w) (q := 1365) (by decide +kernel) rfl rfl ?_
  refine Z_i2l (q := 1366) (by decide +kernel) rfl ?_
  refine Z_lcmp (q := 1367) (by decide +kernel) rfl ?_
  refine Z_if_eq (t := 1372) (off := 5) (q := 1370) (by decide +kernel) (by decide) rfl (fun _ => Z_goto (q := 1401) (off := 29) (by decide +kernel) (by decide) hz) (fun z2 => absurd ((lg0 _ _).mpr (e0 z)) z2)
def lpc : List Nat := [224, 297, 322, 335, 348, 373, 410, 435, 472, 509, 522, 547, 584, 609, 646, 671, 708, 733, 758, 795, 832, 857, 882, 919, 956, 981, 1006, 1019, 1044, 1069, 1094, 1131, 1168, 1205, 1218, 1243, 1256, 1281, 1306, 1319, 1375, 1388]
theorem lpc_ok : ∀ c, c < 42 → (#[184, 257, 282, 295, 308, 333, 370, 395, 432, 469, 482, 507, 544, 569, 606, 631, 668, 693, 718, 755, 792, 817, 842, 879, 916, 941, 966, 979, 1004, 1029, 1054, 1091, 1128, 1165, 1178, 1203, 1216, 1241, 1266, 1279, 1335, 1348] : Array Int)[c]? = some ((lpc.getD c 0 : Int) - 40) := by decide +kernel
/-- the loop's head -/
theorem lhead {d x b L i : Nat} {xs : Nat → Int32} {iv : zI} {rv : zR} {lv : zJ} {Q : zQ} (hL : L ≤ 3072) (h1 : ¬ i + 6 ≤ L → Q (some (.int 1)) iv rv lv) (h2 : i + 6 ≤ L → ∀ c, c < 42 → Z mLw (d + 1, 0, 200, x, zKl b L xs) (lpc.getD c 0) [some (.ref 2000000), some (.ref 0), some (.ref 174), some (.ref 199), some (.int (nI i)), none, none] [] 200 iv rv lv Q) (h3 : i + 6 ≤ L → Z mLw (d + 1, 0, 200, x, zKl b L xs) 1401 [some (.ref 2000000), some (.ref 0), some (.ref 174), some (.ref 199), some (.int (nI i)), none, none] [] 200 iv rv lv Q) (hi : i ≤ 3072) : Z mLw (d + 1, 0, 200, x, zKl b L xs) 23 [some (.ref 2000000), some (.ref 0), some (.ref 174), some (.ref 199), some (.int (nI i)), none, none] [] 200 iv rv lv Q := by
  refine Z_iload (a := 4) (x := nI i) (q := 25) (by decide +kernel) rfl rfl ?_
  refine Z_aload_n (a := 0) (x := 2000000) (q := 26) (by decide +kernel) rfl rfl ?_
  refine Z_scrLen (q := 27) (by decide +kernel) rfl ?_
  refine Z_bipush (a := 6) (v := 6) (q := 29) (by decide +kernel) (by decide +kernel) rfl ?_
  refine Z_isub (q := 30) (by decide +kernel) rfl ?_
  have hgt : nI L - 6 < nI i ↔ ¬ i + 6 ≤ L := by
    by_cases h6 : 6 ≤ L
    · rw [show (6 : Int32) = nI 6 from rfl, pk_sub h6, nI_ltI (by omega) (by omega)]
      omega
    · have : ∀ L, L < 6 → nI L - 6 < 0 := by decide +kernel
      exact ⟨fun _ => by omega, fun _ => Int32.lt_of_lt_of_le (this L (by omega)) (nI_pos' (by omega))⟩
  refine Z_icmp_gt (t := 1407) (off := 1377) (q := 33) (by decide +kernel) (by decide) rfl (fun z => ?_) (fun z => ?_)
  · refine Z_iconst (a := 1) (v := 1) (q := 1408) (by decide +kernel) (by decide +kernel) rfl ?_
    exact Z_iret (ty := .boolean) (by decide +kernel) rfl rfl rfl (h1 (hgt.mp z))
  · have h6 : i + 6 ≤ L := by
      by_cases q : i + 6 ≤ L
      · exact q
      · exact absurd (hgt.mpr q) z
    refine Z_aload_n (a := 0) (x := 2000000) (q := 34) (by decide +kernel) rfl rfl ?_
    refine Z_iload (a := 4) (x := nI i) (q := 36) (by decide +kernel) rfl rfl ?_
    refine Z_scrAt (q := 37) (by decide +kernel) (vp_in_nI (by omega) (by omega)) rfl ?_
    refine Z_bipush (a := 63) (v := 63) (q := 39) (by decide +kernel) (by decide +kernel) rfl ?_
    refine Z_iand (q := 40) (by decide +kernel) rfl ?_
    obtain ⟨c, hc, e⟩ := pk_andE (xs (nI i).toNatClampNeg) (m := 63) 6 (by decide)
    rw [e]
    have ec : (nI c).toInt = (c : Int) := nI_toInt (by omega)
    by_cases h42 : c < 42
    · refine Z_tableIn (dflt := 1361) (lo := 0) (hi := 41) (offs := #[184, 257, 282, 295, 308, 333, 370, 395, 432, 469, 482, 507, 544, 569, 606, 631, 668, 693, 718, 755, 792, 817, 842, 879, 916, 941, 966, 979, 1004, 1029, 1054, 1091, 1128, 1165, 1178, 1203, 1216, 1241, 1266, 1279, 1335, 1348]) (len := 184) (off := (lpc.getD c 0 : Int) - 40) (by decide +kernel) (by rw [ec]; omega) (by rw [ec]; omega) ?_ (by omega) (h2 h6 c h42)
      rw [ec]
      exact lpc_ok c h42
    · exact Z_tableOut (dflt := 1361) (lo := 0) (hi := 41) (offs := #[184, 257, 282, 295, 308, 333, 370, 395, 432, 469, 482, 507, 544, 569, 606, 631, 668, 693, 718, 755, 792, 817, 842, 879, 916, 941, 966, 979, 1004, 1029, 1054, 1091, 1128, 1165, 1178, 1203, 1216, 1241, 1266, 1279, 1335, 1348]) (len := 184) (by decide +kernel) (by rw [ec]; omega) (by decide) (h3 h6)
/-- the loop's end -/
theorem ltail {d x b L i : Nat} {xs : Nat → Int32} {iv : zI} {rv : zR} {lv : zJ} {Q : zQ} (h : Z mLw (d + 1, 0, 200, x, zKl b L xs) 23 [some (.ref 2000000), some (.ref 0), some (.ref 174), some (.ref 199), some (.int (nI (i + 6))), none, none] [] 200 iv rv lv Q) : Z mLw (d + 1, 0, 200, x, zKl b L xs) 1401 [some (.ref 2000000), some (.ref 0), some (.ref 174), some (.ref 199), some (.int (nI i)), none, none] [] 200 iv rv lv Q := by
  refine Z_iinc (a := 4) (b := 6) (x := nI i) (v := nI (i + 6)) (loc2 := [some (.ref 2000000), some (.ref 0), some (.ref 174), some (.ref 199), some (.int (nI (i + 6))), none, none]) (q := 1404) (by decide +kernel) rfl ?_ (by decide +kernel) rfl rfl rfl ?_
  · rw [show Int32.ofInt 6 = nI 6 from by decide +kernel, nI_add]
  · exact Z_goto (q := 23) (off := -1381) (by decide +kernel) (by decide) h
