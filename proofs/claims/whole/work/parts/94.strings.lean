/-! STRING CONSTANTS: length() and charAt(int) over the places 1000000 + i. -/
def mJ0_length : zM := (yJ0_length_8abf5, cJ0_length_8abf5, 1, (some .int))
theorem kJ0_length : zMi mJ0_length 0 := ⟨zwd 589 (by decide +kernel) (by decide +kernel), zwd 118 (by decide +kernel) (by decide +kernel), zwd 587 (by decide +kernel) (by decide +kernel), zwd 588 (by decide +kernel) (by decide +kernel), by decide +kernel, by decide +kernel, by decide +kernel, by decide +kernel⟩
def mJ0_charAt : zM := (yJ0_charAt_5068e, cJ0_charAt_5068e, 2, (some .char))
theorem kJ0_charAt : zMi mJ0_charAt 1 := ⟨zwd 599 (by decide +kernel) (by decide +kernel), zwd 118 (by decide +kernel) (by decide +kernel), zwd 597 (by decide +kernel) (by decide +kernel), zwd 598 (by decide +kernel) (by decide +kernel), by decide +kernel, by decide +kernel, by decide +kernel, by decide +kernel⟩
def mJ0_coder : zM := (yJ0_coder_7d493, cJ0_coder_7d493, 1, (some .byte))
theorem kJ0_coder : zMi mJ0_coder 0 := ⟨zwd 593 (by decide +kernel) (by decide +kernel), zwd 118 (by decide +kernel) (by decide +kernel), zwd 591 (by decide +kernel) (by decide +kernel), zwd 592 (by decide +kernel) (by decide +kernel), by decide +kernel, by decide +kernel, by decide +kernel, by decide +kernel⟩
def mJ0_isLatin1 : zM := (yJ0_isLatin1_aae02, cJ0_isLatin1_aae02, 1, (some .boolean))
theorem kJ0_isLatin1 : zMi mJ0_isLatin1 0 := ⟨zwd 603 (by decide +kernel) (by decide +kernel), zwd 118 (by decide +kernel) (by decide +kernel), zwd 601 (by decide +kernel) (by decide +kernel), zwd 602 (by decide +kernel) (by decide +kernel), by decide +kernel, by decide +kernel, by decide +kernel, by decide +kernel⟩
def mJ0_checkIndex : zM := (yJ0_checkIndex_df160, cJ0_checkIndex_df160, 2, none)
theorem kJ0_checkIndex : zMs mJ0_checkIndex 2 := ⟨zwd 609 (by decide +kernel) (by decide +kernel), zwd 118 (by decide +kernel) (by decide +kernel), zwd 608 (by decide +kernel) (by decide +kernel), by decide +kernel, by decide +kernel, by decide +kernel, by decide +kernel⟩
def mJ1_charAt : zM := (yJ1_charAt_3b067, cJ1_charAt_3b067, 2, (some .char))
theorem kJ1_charAt : zMs mJ1_charAt 2 := ⟨zwd 606 (by decide +kernel) (by decide +kernel), zwd 119 (by decide +kernel) (by decide +kernel), zwd 605 (by decide +kernel) (by decide +kernel), by decide +kernel, by decide +kernel, by decide +kernel, by decide +kernel⟩
def mJ3_checkIndex : zM := (yJ3_checkIndex_8e157, cJ3_checkIndex_8e157, 3, (some .int))
theorem kJ3_checkIndex : zMs mJ3_checkIndex 3 := ⟨zwd 614 (by decide +kernel) (by decide +kernel), zwd 120 (by decide +kernel) (by decide +kernel), zwd 613 (by decide +kernel) (by decide +kernel), by decide +kernel, by decide +kernel, by decide +kernel, by decide +kernel⟩
theorem lJ0_335 : Cond.methodLink RJ0 335 ⟨"java/lang/String", "coder", "()B"⟩ ∈ Wd := zwd 590 (by decide +kernel) (by decide +kernel)
theorem fJ0_38 : Cond.fieldLink RJ0 38 "java/lang/String" "COMPACT_STRINGS" "Z" ∈ Wd := zwd 594 (by decide +kernel) (by decide +kernel)
theorem lJ0_492 : Cond.methodLink RJ0 492 ⟨"java/lang/String", "isLatin1", "()Z"⟩ ∈ Wd := zwd 600 (by decide +kernel) (by decide +kernel)
theorem lJ0_495 : Cond.methodLink RJ0 495 ⟨"java/lang/StringLatin1", "charAt", "([BI)C"⟩ ∈ Wd := zwd 604 (by decide +kernel) (by decide +kernel)
theorem lJ1_9 : Cond.methodLink RJ1 9 ⟨"java/lang/String", "checkIndex", "(II)V"⟩ ∈ Wd := zwd 607 (by decide +kernel) (by decide +kernel)
theorem fJ0_1053 : Cond.fieldLink RJ0 1053 "jdk/internal/util/Preconditions" "SIOOBE_FORMATTER" "Ljava/util/function/BiFunction;" ∈ Wd := zwd 610 (by decide +kernel) (by decide +kernel)
theorem lJ0_1059 : Cond.methodLink RJ0 1059 ⟨"jdk/internal/util/Preconditions", "checkIndex", "(IILjava/util/function/BiFunction;)I"⟩ ∈ Wd := zwd 612 (by decide +kernel) (by decide +kernel)
theorem lJ0_498 : Cond.methodLink RJ0 498 ⟨"java/lang/StringUTF16", "charAt", "([BI)C"⟩ ∈ Wd := zwd 615 (by decide +kernel) (by decide +kernel)
theorem fJ0_9 : Cond.fieldLink RJ0 9 "java/lang/String" "value" "[B" ∈ Wd := zwd 1839 (by decide +kernel) (by decide +kernel)
theorem fJ0_15 : Cond.fieldLink RJ0 15 "java/lang/String" "coder" "B" ∈ Wd := zwd 1840 (by decide +kernel) (by decide +kernel)
theorem Z_sval {M : zM} {B : zB} {pc q : Nat} {loc : List (Option Value)} {rest : List Value} {n : Nat} {iv : zI} {rv : zR} {lv : zJ} {Q : zQ} {idx i : Nat} (hd : decode M.2.1 pc = .ok (.getfield idx, 3)) (hl : Cond.fieldLink M.1.cls idx "java/lang/String" "value" "[B" ∈ Wd) (hi : i < 5) (hq : pc + 3 = q) (k : Z M B q loc (.ref (1500000 + i) :: rest) n iv rv lv Q) : Z M B pc loc (.ref (1000000 + i) :: rest) n iv rv lv Q := by
  subst hq
  intro l p e R s m args below meth c D dA ad0 adV xc xs Qm hC hR ad H locs ls h1 h2 h3 h4 h5 h6 h7
  have hw := k l p e R s m args below meth c D dA ad0 adV xc xs Qm hC hR ad H locs ls h1 h2 h3 h4 h5 h6 h7
  obtain ⟨hx, hb, hmlc, hown, hts, hK, hnm, hfr, hroom, hX, hB⟩ := hC
  have hX2 := hX.ad (ad' := ad) (fun i hi => h1 i (Or.inr (Nat.le_trans (Nat.le_trans h7 hB.1) hi)))
  exact vk_getf hx hb (hX2.1.1 i hi).2.2.1 h5 hown (hts _ hl) (fun _ h => h) hd hw
theorem Z_scod {M : zM} {B : zB} {pc q : Nat} {loc : List (Option Value)} {rest : List Value} {n : Nat} {iv : zI} {rv : zR} {lv : zJ} {Q : zQ} {idx i : Nat} (hd : decode M.2.1 pc = .ok (.getfield idx, 3)) (hl : Cond.fieldLink M.1.cls idx "java/lang/String" "coder" "B" ∈ Wd) (hi : i < 5) (hq : pc + 3 = q) (k : Z M B q loc (.int 0 :: rest) n iv rv lv Q) : Z M B pc loc (.ref (1000000 + i) :: rest) n iv rv lv Q := by
  subst hq
  intro l p e R s m args below meth c D dA ad0 adV xc xs Qm hC hR ad H locs ls h1 h2 h3 h4 h5 h6 h7
  have hw := k l p e R s m args below meth c D dA ad0 adV xc xs Qm hC hR ad H locs ls h1 h2 h3 h4 h5 h6 h7
  obtain ⟨hx, hb, hmlc, hown, hts, hK, hnm, hfr, hroom, hX, hB⟩ := hC
  have hX2 := hX.ad (ad' := ad) (fun i hi => h1 i (Or.inr (Nat.le_trans (Nat.le_trans h7 hB.1) hi)))
  exact vk_getf hx hb (hX2.1.1 i hi).2.1 h5 hown (hts _ hl) (fun _ h => h) hd hw
theorem Z_scmp {M : zM} {B : zB} {pc q : Nat} {loc : List (Option Value)} {rest : List Value} {n : Nat} {iv : zI} {rv : zR} {lv : zJ} {Q : zQ} {idx : Nat} (hd : decode M.2.1 pc = .ok (.getstatic idx, 3)) (hl : Cond.fieldLink M.1.cls idx "java/lang/String" "COMPACT_STRINGS" "Z" ∈ Wd) (hq : pc + 3 = q) (k : Z M B q loc (.int 1 :: rest) n iv rv lv Q) : Z M B pc loc rest n iv rv lv Q := by
  subst hq
  intro l p e R s m args below meth c D dA ad0 adV xc xs Qm hC hR ad H locs ls h1 h2 h3 h4 h5 h6 h7
  have hw := k l p e R s m args below meth c D dA ad0 adV xc xs Qm hC hR ad H locs ls h1 h2 h3 h4 h5 h6 h7
  obtain ⟨hx, hb, hmlc, hown, hts, hK, hnm, hfr, hroom, hX, hB⟩ := hC
  have hX2 := hX.ad (ad' := ad) (fun i hi => h1 i (Or.inr (Nat.le_trans (Nat.le_trans h7 hB.1) hi)))
  exact va_gets hx hb hX2.2.2.2.1 h5 hown (hts _ hl) (fun _ h => h) hd hw
theorem Z_ssio {M : zM} {B : zB} {pc q : Nat} {loc : List (Option Value)} {rest : List Value} {n : Nat} {iv : zI} {rv : zR} {lv : zJ} {Q : zQ} {idx : Nat} (hd : decode M.2.1 pc = .ok (.getstatic idx, 3)) (hl : Cond.fieldLink M.1.cls idx "jdk/internal/util/Preconditions" "SIOOBE_FORMATTER" "Ljava/util/function/BiFunction;" ∈ Wd) (hq : pc + 3 = q) (k0 : Z M B q loc (.null :: rest) n iv rv lv Q) (k : Z M B q loc (.ref 1600000 :: rest) n iv rv lv Q) : Z M B pc loc rest n iv rv lv Q := by
  subst hq
  intro l p e R s m args below meth c D dA ad0 adV xc xs Qm hC hR ad H locs ls h1 h2 h3 h4 h5 h6 h7
  have hw := k l p e R s m args below meth c D dA ad0 adV xc xs Qm hC hR ad H locs ls h1 h2 h3 h4 h5 h6 h7
  have hw0 := k0 l p e R s m args below meth c D dA ad0 adV xc xs Qm hC hR ad H locs ls h1 h2 h3 h4 h5 h6 h7
  obtain ⟨hx, hb, hmlc, hown, hts, hK, hnm, hfr, hroom, hX, hB⟩ := hC
  have hX2 := hX.ad (ad' := ad) (fun i hi => h1 i (Or.inr (Nat.le_trans (Nat.le_trans h7 hB.1) hi)))
  rcases hX2.2.2.2.2.1 with hz | hz
  · exact va_gets hx hb hz h5 hown (hts _ hl) (fun _ h => h) hd hw0
  · exact va_gets hx hb hz h5 hown (hts _ hl) (fun _ h => h) hd hw
theorem Z_slen {M : zM} {B : zB} {pc q : Nat} {loc : List (Option Value)} {rest : List Value} {n : Nat} {iv : zI} {rv : zR} {lv : zJ} {Q : zQ} {i : Nat} (hd : decode M.2.1 pc = .ok (.arraylength, 1)) (hi : i < 5) (hq : pc + 1 = q) (k : Z M B q loc (.int (nI (zSl.getD i 0)) :: rest) n iv rv lv Q) : Z M B pc loc (.ref (1500000 + i) :: rest) n iv rv lv Q := by
  subst hq
  intro l p e R s m args below meth c D dA ad0 adV xc xs Qm hC hR ad H locs ls h1 h2 h3 h4 h5 h6 h7
  have hw := k l p e R s m args below meth c D dA ad0 adV xc xs Qm hC hR ad H locs ls h1 h2 h3 h4 h5 h6 h7
  obtain ⟨hx, hb, hmlc, hown, hts, hK, hnm, hfr, hroom, hX, hB⟩ := hC
  have hX2 := hX.ad (ad' := ad) (fun i hi => h1 i (Or.inr (Nat.le_trans (Nat.le_trans h7 hB.1) hi)))
  exact va_tlen hx hb (hX2.1.1 i hi).2.2.2 h5 rfl hd hw
theorem Z_sald {M : zM} {B : zB} {pc q : Nat} {loc : List (Option Value)} {rest : List Value} {n : Nat} {iv : zI} {rv : zR} {lv : zJ} {Q : zQ} {i : Nat} {j : Int32} (hd : decode M.2.1 pc = .ok (.baload, 1)) (hi : i < 5) (hin : vp_in j (zSl.getD i 0)) (hq : pc + 1 = q) (k : Z M B q loc (.int ((zSb.getD i []).getD j.toNatClampNeg 0) :: rest) n iv rv lv Q) : Z M B pc loc (.int j :: .ref (1500000 + i) :: rest) n iv rv lv Q := by
  subst hq
  intro l p e R s m args below meth c D dA ad0 adV xc xs Qm hC hR ad H locs ls h1 h2 h3 h4 h5 h6 h7
  have hw := k l p e R s m args below meth c D dA ad0 adV xc xs Qm hC hR ad H locs ls h1 h2 h3 h4 h5 h6 h7
  obtain ⟨hx, hb, hmlc, hown, hts, hK, hnm, hfr, hroom, hX, hB⟩ := hC
  have hX2 := hX.ad (ad' := ad) (fun i hi => h1 i (Or.inr (Nat.le_trans (Nat.le_trans h7 hB.1) hi)))
  exact va_tb hx hb (hX2.1.1 i hi).2.2.2 h5 hin rfl hd hw
theorem Z_i2c {M : zM} {B : zB} {pc q : Nat} {loc : List (Option Value)} {rest : List Value} {n : Nat} {iv : zI} {rv : zR} {lv : zJ} {Q : zQ} {x : Int32} (hd : decode M.2.1 pc = .ok (.i2c, 1)) (hq : pc + 1 = q) (k : Z M B q loc (.int (x.toUInt32 % 65536).toInt32 :: rest) n iv rv lv Q) : Z M B pc loc (.int x :: rest) n iv rv lv Q := by
  subst hq
  exact Z.pure (fun hx hb _ k => lv_i2c hx hb hd rfl k) k
theorem Z_callVst {M : zM} {B : zB} {pc q : Nat} {loc : List (Option Value)} {rest st : List Value} {n : Nat} {iv : zI} {rv : zR} {lv : zJ} {Q : zQ} {M2 : zM} {idx d2 na o : Nat} {As : List Value} {Q2 : zQ} (hd : decode M.2.1 pc = .ok (.invokevirtual idx, 3)) (hk : zMi M2 na) (hl : Cond.methodLink M.1.cls idx M2.1 ∈ Wd) (hcl : M2.1.cls = "java/lang/String") (ho : ∃ i, i < 5 ∧ o = 1000000 + i) (hst : As.reverse ++ .ref o :: rest = st) (hna : As.length = na) (hml : M2.2.2.1 ≤ 40) (hcat : (rest.map fun v => v.category).sum ≤ 8) (hd2 : d2 + 1 ≤ B.1) (hm : Mw M2 d2 n (.ref o :: As) n iv rv lv Q2) (hq : pc + 3 = q) (k : ∀ r iv' rv' lv', Q2 r iv' rv' lv' → Z M B q loc (r.toList ++ rest) n iv' rv' lv' Q) : Z M B pc loc st n iv rv lv Q := by
  subst hq
  subst hst
  intro l p e R s m args below meth c D dA ad0 adV xc xs Qm hC hR ad H locs ls h1 h2 h3 h4 h5 h6 h7
  have hcat2 : ((rest.map (zcv ad)).map fun v => v.category).sum ≤ 8 := by
    rw [List.map_map, show ((fun v : Value => v.category) ∘ zcv ad) = fun v => v.category from funext fun v => zcv_cat ad v]
    exact hcat
  obtain ⟨hx, hb, hmlc, hown, hts, hK, hnm, hfr, hroom, hX, hB⟩ := hC
  have hpre := z_pre (Nat.le_trans h7 hB.1) h1 h3 h4 h5 hK hX ((.ref o :: As).map (zcv ad))
  obtain ⟨k1, k2, k3, k4, k5, k6, k7, k8⟩ := hk
  have hroom2 : n - B.2.1 + xc + (n - n) ≤ R.cells ∧ zSL n - zSL B.2.1 + xs + (zSL n - zSL n) ≤ R.slots := by
    have a1 := zSL_le h6
    have a2 := zSL_le h7
    exact ⟨by omega, by omega⟩
  have cb : CallB R s args M.1.cls idx M2.1 M2.2.1 M2.2.2.1 M2.2.2.2 (zws M2) (zrm d2 n n) (n - n) (zSL n - zSL n) na := callB_of na hts (zws_good k1) rfl rfl rfl (hts _ k2) (hts _ hl) ⟨k6, k7, k8⟩ (z_fr hfr.1 hfr.2 hd2 hml)
  obtain ⟨i5, hi5, rfl⟩ := ho
  have hX2 := hX.ad (ad' := ad) (fun i hi => h1 i (Or.inr (Nat.le_trans (Nat.le_trans h7 hB.1) hi)))
  have hrecv : ∃ cell : Cell, H[ad (1000000 + i5)]? = some cell ∧ cell.vm.isStatics = false ∧ s.vm.findClass M2.1.cls = some cell.cls := by rw [hcl]; exact vk_recv (adK := fun i => ad (1000000 + i)) (i := i5) hX2.1 hi5 h5
  have hrun := va_runV (e := e) (below := below) (meth := meth) (locs := locs) (C := M2.1.cls) (b := ad (1000000 + i5)) (As := As.map (zcv ad)) (rest := rest.map (zcv ad)) (g := F0 m pc ls ((As.reverse ++ .ref (1000000 + i5) :: rest).map (zcv ad))) ⟨hx, hb, hmlc, hown, hts⟩ (hm l D dA ad adV H.size) ⟨cb, hts _ k3, hts _ k4⟩ ⟨hpre.1, hrecv, hpre.2⟩ rfl (by simpa using hna) h2.1 (by simp [List.map_append, List.map_reverse, zcv]) (lv_room hcat2) hd hroom2
  refine z_run hrun h5 (z_sub h4 h5) (fun r iv' rv' lv' ad' H1 locs1 hq hag hP hD hS => ?_)
  cases hag.same
  have hw := k r iv' rv' lv' hq l p e R s m args below meth c D dA ad0 adV xc xs Qm ⟨hx, hb, hmlc, hown, hts, hK, hnm, hfr, hroom, hX, hB⟩ hR ad H1 locs1 ls h1 h2 hP hD hS h6 h7
  have e1 : n - B.2.1 + xc + (n - n) = n - B.2.1 + xc := by omega
  have e2 : zSL n - zSL B.2.1 + xs + (zSL n - zSL n) = zSL n - zSL B.2.1 + xs := by omega
  rw [e1, e2]
  have e3 : (r.map (zcv ad)).toList ++ rest.map (zcv ad) = (r.toList ++ rest).map (zcv ad) := by cases r <;> simp
  rw [e3]
  exact hw
theorem Z_callVsi {M : zM} {B : zB} {pc q : Nat} {loc : List (Option Value)} {rest st : List Value} {iv : zI} {rv : zR} {lv : zJ} {Q : zQ} {M2 : zM} {idx d2 na o : Nat} {As : List Value} {Q2 : Int32 → zI → zR → zJ → Prop} (hd : decode M.2.1 pc = .ok (.invokevirtual idx, 3)) (hk : zMi M2 na) (hl : Cond.methodLink M.1.cls idx M2.1 ∈ Wd) (ho : ∃ i, i < 5 ∧ o = 1000000 + i) (hst : As.reverse ++ .ref o :: rest = st) (hna : As.length = na) (hml : M2.2.2.1 ≤ 40) (hcat : (rest.map fun v => v.category).sum ≤ 8) (hd2 : d2 + 1 ≤ B.1) (hm : Ci M2 d2 (.ref o :: As) iv rv lv Q2) (hq : pc + 3 = q) (k : ∀ (x : Int32) (iv' : zI) (rv' : zR) (lv' : zJ), Q2 x iv' rv' lv' → Z M B q loc (.int x :: rest) 200 iv' rv' lv' Q) (hcl : M2.1.cls = "java/lang/String" := by rfl) : Z M B pc loc st 200 iv rv lv Q := Z_callVst hd hk hl hcl ho hst hna hml hcat hd2 hm hq (fun r iv' rv' lv' h => by obtain ⟨x, rfl, h⟩ := h; exact k x iv' rv' lv' h)
def sch (i k : Nat) : Int32 := (zSb.getD i []).getD k 0
theorem zs_ok : ∀ i, i < 5 → zSl.getD i 0 < 10 ∧ zSl.getD i 0 = (zSb.getD i []).length ∧ ∀ k, k < 10 → sch i k &&& 255 = sch i k := by decide +kernel
theorem x_coder {d i : Nat} {iv : zI} {rv : zR} {lv : zJ} (hi : i < 5) : Ci mJ0_coder d [.ref (1000000 + i)] iv rv lv (zP 0 iv rv lv) := by
  refine Ci.of (loc := [some (.ref (1000000 + i))]) (by decide +kernel) (by simp [Value.category]) (Nat.le_of_ble_eq_true rfl) rfl ?_
  unfold Zi
  refine Z_scmp (idx := 38) (q := 3) (by decide +kernel) fJ0_38 rfl ?_
  refine Z_if_eq (t := 13) (off := 10) (q := 6) (by decide +kernel) (by decide) rfl (fun hc => absurd hc (by decide)) (fun hc => ?_)
  refine Z_aload_n (a := 0) (q := 7) (by decide +kernel) rfl rfl ?_
  refine Z_scod (idx := 15) (q := 10) (by decide +kernel) fJ0_15 hi rfl ?_
  refine Z_goto (q := 14) (off := 4) (by decide +kernel) (by decide) ?_
  exact Z_iret (ty := .byte) (by decide +kernel) rfl rfl rfl ⟨_, rfl, zP.mk rfl⟩
theorem x_latin {d i : Nat} {iv : zI} {rv : zR} {lv : zJ} (hi : i < 5) : Ci mJ0_isLatin1 d [.ref (1000000 + i)] iv rv lv (zP 1 iv rv lv) := by
  refine Ci.of (loc := [some (.ref (1000000 + i))]) (by decide +kernel) (by simp [Value.category]) (Nat.le_of_ble_eq_true rfl) rfl ?_
  unfold Zi
  refine Z_scmp (idx := 38) (q := 3) (by decide +kernel) fJ0_38 rfl ?_
  refine Z_if_eq (t := 17) (off := 14) (q := 6) (by decide +kernel) (by decide) rfl (fun hc => absurd hc (by decide)) (fun hc => ?_)
  refine Z_aload_n (a := 0) (q := 7) (by decide +kernel) rfl rfl ?_
  refine Z_scod (idx := 15) (q := 10) (by decide +kernel) fJ0_15 hi rfl ?_
  refine Z_if_ne (t := 17) (off := 7) (q := 13) (by decide +kernel) (by decide) rfl (fun hc => absurd rfl hc) (fun hc => ?_)
  refine Z_iconst (a := 1) (v := 1) (q := 14) (by decide +kernel) (by decide +kernel) rfl ?_
  refine Z_goto (q := 18) (off := 4) (by decide +kernel) (by decide) ?_
  exact Z_iret (ty := .boolean) (by decide +kernel) rfl rfl rfl ⟨_, rfl, zP.mk rfl⟩
theorem x_strlen {d i : Nat} {iv : zI} {rv : zR} {lv : zJ} (hi : i < 5) : Ci mJ0_length (d + 1) [.ref (1000000 + i)] iv rv lv (zP (nI (zSl.getD i 0)) iv rv lv) := by
  refine Ci.of (loc := [some (.ref (1000000 + i))]) (by decide +kernel) (by simp [Value.category]) (Nat.le_of_ble_eq_true rfl) rfl ?_
  unfold Zi
  refine Z_aload_n (a := 0) (q := 1) (by decide +kernel) rfl rfl ?_
  refine Z_sval (idx := 9) (q := 4) (by decide +kernel) fJ0_9 hi rfl ?_
  refine Z_slen (q := 5) (by decide +kernel) hi rfl ?_
  refine Z_aload_n (a := 0) (q := 6) (by decide +kernel) rfl rfl ?_
  refine Z_callVsi (M2 := mJ0_coder) (idx := 335) (d2 := d) (As := []) (q := 9) (by decide +kernel) kJ0_coder lJ0_335 ⟨i, hi, rfl⟩ rfl rfl (by decide +kernel) (Nat.le_of_ble_eq_true rfl) (Nat.le_refl _) (x_coder hi) rfl (fun x a b c hq => ?_)
  obtain ⟨q1, q2, q3, q4⟩ := hq
  subst q1 q2 q3 q4
  refine Z_ishr (q := 10) (by decide +kernel) rfl ?_
  refine Z_iret (ty := .int) (by decide +kernel) rfl rfl rfl ⟨_, rfl, zP.mk ?_⟩
  exact sc_shr0 (by have := (zs_ok i hi).1; omega)
theorem x_chk3 {d a b : Nat} {v : Value} {iv : zI} {rv : zR} {lv : zJ} (hv : v = .null ∨ v = .ref 1600000) (hab : a < b) (hb : b < 2 ^ 31) : Ci mJ3_checkIndex d [.int (nI a), .int (nI b), v] iv rv lv (zP (nI a) iv rv lv) := by
  refine Ci.of (loc := [some (.int (nI a)), some (.int (nI b)), some v]) (by decide +kernel) (by rcases hv with rfl | rfl <;> simp [Value.category]) (Nat.le_of_ble_eq_true rfl) rfl ?_
  unfold Zi
  refine Z_iload_n (a := 0) (q := 1) (by decide +kernel) rfl rfl ?_
  refine Z_if_lt (t := 9) (off := 8) (q := 4) (by decide +kernel) (by decide) rfl (fun hc => absurd hc (nI_pos (by omega))) (fun hc => ?_)
  refine Z_iload_n (a := 0) (q := 5) (by decide +kernel) rfl rfl ?_
  refine Z_iload_n (a := 1) (q := 6) (by decide +kernel) rfl rfl ?_
  refine Z_icmp_lt (t := 16) (off := 10) (q := 9) (by decide +kernel) (by decide) rfl (fun hc => ?_) (fun hc => absurd (nI_lt hab hb) hc)
  refine Z_iload_n (a := 0) (q := 17) (by decide +kernel) rfl rfl ?_
  exact Z_iret (ty := .int) (by decide +kernel) rfl rfl rfl ⟨_, rfl, zP.mk rfl⟩
theorem x_chk0 {d a b : Nat} {iv : zI} {rv : zR} {lv : zJ} (hab : a < b) (hb : b < 2 ^ 31) : Cv mJ0_checkIndex (d + 1) [.int (nI a), .int (nI b)] iv rv lv (fun a b c => a = iv ∧ b = rv ∧ c = lv) := by
  refine Cv.of (loc := [some (.int (nI a)), some (.int (nI b))]) (by decide +kernel) (by simp [Value.category]) (Nat.le_of_ble_eq_true rfl) rfl ?_
  unfold Zv
  refine Z_iload_n (a := 0) (q := 1) (by decide +kernel) rfl rfl ?_
  refine Z_iload_n (a := 1) (q := 2) (by decide +kernel) rfl rfl ?_
  refine Z_ssio (idx := 1053) (q := 5) (by decide +kernel) fJ0_1053 rfl ?_ ?_
  · refine Z_callSi (M2 := mJ3_checkIndex) (idx := 1059) (d2 := d) (As := [.int (nI a), .int (nI b), .null]) (q := 8) (by decide +kernel) kJ3_checkIndex lJ0_1059 rfl rfl (by decide +kernel) (Nat.le_of_ble_eq_true rfl) (Nat.le_refl _) (x_chk3 (Or.inl rfl) hab hb) rfl (fun x a b c hq => ?_)
    obtain ⟨q1, q2, q3, q4⟩ := hq
    subst q1 q2 q3 q4
    refine Z_pop (q := 9) (by decide +kernel) rfl rfl ?_
    exact Z_vret (by decide +kernel) rfl rfl ⟨rfl, rfl, rfl, rfl⟩
  · refine Z_callSi (M2 := mJ3_checkIndex) (idx := 1059) (d2 := d) (As := [.int (nI a), .int (nI b), .ref 1600000]) (q := 8) (by decide +kernel) kJ3_checkIndex lJ0_1059 rfl rfl (by decide +kernel) (Nat.le_of_ble_eq_true rfl) (Nat.le_refl _) (x_chk3 (Or.inr rfl) hab hb) rfl (fun x a b c hq => ?_)
    obtain ⟨q1, q2, q3, q4⟩ := hq
    subst q1 q2 q3 q4
    refine Z_pop (q := 9) (by decide +kernel) rfl rfl ?_
    exact Z_vret (by decide +kernel) rfl rfl ⟨rfl, rfl, rfl, rfl⟩
theorem x_char1 {d i k : Nat} {iv : zI} {rv : zR} {lv : zJ} (hi : i < 5) (hk : k < zSl.getD i 0) : Ci mJ1_charAt (d + 2) [.ref (1500000 + i), .int (nI k)] iv rv lv (zP (sch i k) iv rv lv) := by
  have h10 := (zs_ok i hi).1
  refine Ci.of (loc := [some (.ref (1500000 + i)), some (.int (nI k))]) (by decide +kernel) (by simp [Value.category]) (Nat.le_of_ble_eq_true rfl) rfl ?_
  unfold Zi
  refine Z_iload_n (a := 1) (q := 1) (by decide +kernel) rfl rfl ?_
  refine Z_aload_n (a := 0) (q := 2) (by decide +kernel) rfl rfl ?_
  refine Z_slen (q := 3) (by decide +kernel) hi rfl ?_
  refine Z_callSv (M2 := mJ0_checkIndex) (idx := 9) (d2 := d + 1) (As := [.int (nI k), .int (nI (zSl.getD i 0))]) (q := 6) (by decide +kernel) kJ0_checkIndex lJ1_9 rfl rfl (by decide +kernel) (Nat.le_of_ble_eq_true rfl) (Nat.le_refl _) (x_chk0 hk (by omega)) rfl (fun a b c hq => ?_)
  obtain ⟨q2, q3, q4⟩ := hq
  subst q2 q3 q4
  refine Z_aload_n (a := 0) (q := 7) (by decide +kernel) rfl rfl ?_
  refine Z_iload_n (a := 1) (q := 8) (by decide +kernel) rfl rfl ?_
  refine Z_sald (q := 9) (by decide +kernel) hi (vp_in_nI hk (by omega)) rfl ?_
  refine Z_sipush (a := 255) (v := 255) (q := 12) (by decide +kernel) (by decide +kernel) rfl ?_
  refine Z_iand (q := 13) (by decide +kernel) rfl ?_
  refine Z_i2c (q := 14) (by decide +kernel) rfl ?_
  rw [nI_clamp (by omega), sc_c2]
  exact Z_iret (ty := .char) (by decide +kernel) rfl (sc_nar _) rfl ⟨_, rfl, zP.mk ((zs_ok i hi).2.2 k (by omega))⟩
theorem x_char {d i k : Nat} {iv : zI} {rv : zR} {lv : zJ} (hi : i < 5) (hk : k < zSl.getD i 0) : Ci mJ0_charAt (d + 3) [.ref (1000000 + i), .int (nI k)] iv rv lv (zP (sch i k) iv rv lv) := by
  have h10 := (zs_ok i hi).1
  refine Ci.of (loc := [some (.ref (1000000 + i)), some (.int (nI k))]) (by decide +kernel) (by simp [Value.category]) (Nat.le_of_ble_eq_true rfl) rfl ?_
  unfold Zi
  refine Z_aload_n (a := 0) (q := 1) (by decide +kernel) rfl rfl ?_
  refine Z_callVsi (M2 := mJ0_isLatin1) (idx := 492) (d2 := d + 2) (As := []) (q := 4) (by decide +kernel) kJ0_isLatin1 lJ0_492 ⟨i, hi, rfl⟩ rfl rfl (by decide +kernel) (Nat.le_of_ble_eq_true rfl) (Nat.le_refl _) (x_latin hi) rfl (fun x a b c hq => ?_)
  obtain ⟨q1, q2, q3, q4⟩ := hq
  subst q1 q2 q3 q4
  refine Z_if_eq (t := 16) (off := 12) (q := 7) (by decide +kernel) (by decide) rfl (fun hc => absurd hc (by decide)) (fun hc => ?_)
  refine Z_aload_n (a := 0) (q := 8) (by decide +kernel) rfl rfl ?_
  refine Z_sval (idx := 9) (q := 11) (by decide +kernel) fJ0_9 hi rfl ?_
  refine Z_iload_n (a := 1) (q := 12) (by decide +kernel) rfl rfl ?_
  refine Z_callSi (M2 := mJ1_charAt) (idx := 495) (d2 := d + 2) (As := [.ref (1500000 + i), .int (nI k)]) (q := 15) (by decide +kernel) kJ1_charAt lJ0_495 rfl rfl (by decide +kernel) (Nat.le_of_ble_eq_true rfl) (Nat.le_refl _) (x_char1 hi hk) rfl (fun x a b c hq => ?_)
  obtain ⟨q1, q2, q3, q4⟩ := hq
  subst q1 q2 q3 q4
  refine Z_iret (ty := .char) (by decide +kernel) rfl ?_ rfl ⟨_, rfl, zP.mk rfl⟩
  rw [← (zs_ok i hi).2.2 k (by omega)]
  exact sc_nar _
theorem eX6_isWord {d : Nat} (x1 : Nat) {iv : zI} {rv : zR} {lv : zJ} {Q : Int32 → zI → zR → zJ → Prop} (h : Zi mX6_isWord (d + 1) 0 [some (.ref 1), some (.ref x1), none] [] iv rv lv Q) : Ci mX6_isWord (d + 1) [.ref 1, .ref x1] iv rv lv Q := Ci.of (by decide +kernel) (by simp [Value.category]) (Nat.le_of_ble_eq_true rfl) rfl h
set_option maxRecDepth 4000 in
theorem bX6_isWord_0 {d : Nat} (x1 : Nat) {iv : zI} {rv : zR} {lv : zJ} {Q : Int32 → zI → zR → zJ → Prop} (hT : zTop rv) 
    (h : (¬ (iv 1 7) = (1 : Int32) → Q (0 : Int32) iv rv lv) ∧ ((iv 1 7) = (1 : Int32) → (∃ i, i < 5 ∧ x1 = 1000000 + i) ∧ ∃ Q1 : Int32 → zI → zR → zJ → Prop, Ci mJ0_length d [.ref x1] iv rv lv Q1 ∧ ∀ (v6 : Int32) (iv2 : zI) (rv3 : zR) (lv4 : zJ), Q1 v6 iv2 rv3 lv4 → zTop rv3 ∧ ((((iv 1 6) - (iv 1 3)) = v6 → Zi mX6_isWord (d + 1) 28 [some (.ref 1), some (.ref x1), some (.int (0 : Int32))] [] iv2 rv3 lv4 Q) ∧ (¬ ((iv 1 6) - (iv 1 3)) = v6 → Q (0 : Int32) iv2 rv3 lv4)))) :
    Zi mX6_isWord (d + 1) 0 [some (.ref 1), some (.ref x1), none] [] iv rv lv Q := by
  unfold Zi
  refine Z_aload_n (a := 0) (q := 1) (by decide +kernel) rfl rfl ?_
  refine g6_7 (idx := 38) (q := 4) (by decide +kernel) fX6_38 rfl (by decide) rfl ?_
  refine Z_iconst (a := 1) (v := 1) (q := 5) (by decide +kernel) (by decide +kernel) rfl ?_
  refine Z_icmp_ne (t := 24) (off := 19) (q := 8) (by decide +kernel) (by decide) rfl (fun hc => ?_) (fun hc => ?_)
  · replace h := h.1 hc
    refine Z_iconst (a := 0) (v := 0) (q := 25) (by decide +kernel) (by decide +kernel) rfl ?_
    exact Z_iret (ty := .boolean) (by decide +kernel) rfl rfl rfl ⟨_, rfl, h⟩
  · replace h := h.2 hc
    refine Z_aload_n (a := 0) (q := 9) (by decide +kernel) rfl rfl ?_
    refine g6_6 (idx := 35) (q := 12) (by decide +kernel) fX6_35 rfl (by decide) rfl ?_
    refine Z_aload_n (a := 0) (q := 13) (by decide +kernel) rfl rfl ?_
    refine g6_3 (idx := 25) (q := 16) (by decide +kernel) fX6_25 rfl (by decide) rfl ?_
    refine Z_isub (q := 17) (by decide +kernel) rfl ?_
    refine Z_aload_n (a := 1) (q := 18) (by decide +kernel) rfl rfl ?_
    obtain ⟨hs9, h⟩ := h
    obtain ⟨Q1, hm, h⟩ := h
    refine Z_callVsi (M2 := mJ0_length) (idx := 126) (d2 := d) (As := []) (q := 21) (by decide +kernel) kJ0_length lX6_126 hs9 rfl rfl (by decide +kernel) (Nat.le_of_ble_eq_true rfl) (Nat.le_refl _) hm rfl (fun v6 iv2 rv3 lv4 hq => ?_)
    obtain ⟨hT5, h⟩ := h v6 iv2 rv3 lv4 hq
    refine Z_icmp_eq (t := 26) (off := 5) (q := 24) (by decide +kernel) (by decide) rfl (fun hc => ?_) (fun hc => ?_)
    · replace h := h.1 hc
      refine Z_iconst (a := 0) (v := 0) (q := 27) (by decide +kernel) (by decide +kernel) rfl ?_
      refine Z_istore_n (a := 2) (loc2 := [_, _, _]) (q := 28) (by decide +kernel) (by decide +kernel) rfl rfl rfl ?_
      exact h
    · replace h := h.2 hc
      refine Z_iconst (a := 0) (v := 0) (q := 25) (by decide +kernel) (by decide +kernel) rfl ?_
      exact Z_iret (ty := .boolean) (by decide +kernel) rfl rfl rfl ⟨_, rfl, h⟩
set_option maxRecDepth 4000 in
theorem bX6_isWord_28 {d : Nat} (x1 : Nat) (x2 : Int32) {iv : zI} {rv : zR} {lv : zJ} {Q : Int32 → zI → zR → zJ → Prop} (hT : zTop rv) 
    (h : (∃ i, i < 5 ∧ x1 = 1000000 + i) ∧ ∃ Q1 : Int32 → zI → zR → zJ → Prop, Ci mJ0_length d [.ref x1] iv rv lv Q1 ∧ ∀ (v6 : Int32) (iv2 : zI) (rv3 : zR) (lv4 : zJ), Q1 v6 iv2 rv3 lv4 → zTop rv3 ∧ ((v6 ≤ x2 → Q (1 : Int32) iv2 rv3 lv4) ∧ (¬ v6 ≤ x2 → vp_in ((iv2 1 3) + x2) 300 ∧ ((∃ i, i < 5 ∧ x1 = 1000000 + i) ∧ ∃ Q8 : Int32 → zI → zR → zJ → Prop, Ci mJ0_charAt d [.ref x1, .int x2] iv2 rv3 lv4 Q8 ∧ ∀ (v13 : Int32) (iv9 : zI) (rv10 : zR) (lv11 : zJ), Q8 v13 iv9 rv10 lv11 → zTop rv10 ∧ (((iv2 7 ((iv2 1 3) + x2).toNatClampNeg) = v13 → Zi mX6_isWord (d + 1) 28 [some (.ref 1), some (.ref x1), some (.int (x2 + 1))] [] iv9 rv10 lv11 Q) ∧ (¬ (iv2 7 ((iv2 1 3) + x2).toNatClampNeg) = v13 → Q (0 : Int32) iv9 rv10 lv11)))))) :
    Zi mX6_isWord (d + 1) 28 [some (.ref 1), some (.ref x1), some (.int x2)] [] iv rv lv Q := by
  unfold Zi
  refine Z_iload_n (a := 2) (q := 29) (by decide +kernel) rfl rfl ?_
  refine Z_aload_n (a := 1) (q := 30) (by decide +kernel) rfl rfl ?_
  obtain ⟨hs9, h⟩ := h
  obtain ⟨Q1, hm, h⟩ := h
  refine Z_callVsi (M2 := mJ0_length) (idx := 126) (d2 := d) (As := []) (q := 33) (by decide +kernel) kJ0_length lX6_126 hs9 rfl rfl (by decide +kernel) (Nat.le_of_ble_eq_true rfl) (Nat.le_refl _) hm rfl (fun v6 iv2 rv3 lv4 hq => ?_)
  obtain ⟨hT5, h⟩ := h v6 iv2 rv3 lv4 hq
  refine Z_icmp_ge (t := 63) (off := 30) (q := 36) (by decide +kernel) (by decide) rfl (fun hc => ?_) (fun hc => ?_)
  · replace h := h.1 hc
    refine Z_iconst (a := 1) (v := 1) (q := 64) (by decide +kernel) (by decide +kernel) rfl ?_
    exact Z_iret (ty := .boolean) (by decide +kernel) rfl rfl rfl ⟨_, rfl, h⟩
  · replace h := h.2 hc
    refine Z_aload_n (a := 0) (q := 37) (by decide +kernel) rfl rfl ?_
    refine g6_4 (idx := 28) (q := 40) (by decide +kernel) fX6_28 rfl (by decide) (t6_4 hT5) rfl ?_
    refine Z_aload_n (a := 0) (q := 41) (by decide +kernel) rfl rfl ?_
    refine g6_3 (idx := 25) (q := 44) (by decide +kernel) fX6_25 rfl (by decide) rfl ?_
    refine Z_iload_n (a := 2) (q := 45) (by decide +kernel) rfl rfl ?_
    refine Z_iadd (q := 46) (by decide +kernel) rfl ?_
    obtain ⟨hin7, h⟩ := h
    refine Z_bald (len := 300) (q := 47) (by decide +kernel) rfl (by decide) hin7 rfl ?_
    refine Z_aload_n (a := 1) (q := 48) (by decide +kernel) rfl rfl ?_
    refine Z_iload_n (a := 2) (q := 49) (by decide +kernel) rfl rfl ?_
    obtain ⟨hs9, h⟩ := h
    obtain ⟨Q8, hm, h⟩ := h
    refine Z_callVsi (M2 := mJ0_charAt) (idx := 130) (d2 := d) (As := [.int _]) (q := 52) (by decide +kernel) kJ0_charAt lX6_130 hs9 rfl rfl (by decide +kernel) (Nat.le_of_ble_eq_true rfl) (Nat.le_refl _) hm rfl (fun v13 iv9 rv10 lv11 hq => ?_)
    obtain ⟨hT12, h⟩ := h v13 iv9 rv10 lv11 hq
    refine Z_icmp_eq (t := 57) (off := 5) (q := 55) (by decide +kernel) (by decide) rfl (fun hc => ?_) (fun hc => ?_)
    · replace h := h.1 hc
      refine Z_iinc (a := 2) (b := 1) (v := _ + 1) (loc2 := [_, _, _]) (q := 60) (by decide +kernel) rfl (zinc _) (by decide +kernel) rfl rfl rfl ?_
      refine Z_goto (q := 28) (off := -32) (by decide +kernel) (by decide) ?_
      exact h
    · replace h := h.2 hc
      refine Z_iconst (a := 0) (v := 0) (q := 56) (by decide +kernel) (by decide +kernel) rfl ?_
      exact Z_iret (ty := .boolean) (by decide +kernel) rfl rfl rfl ⟨_, rfl, h⟩
theorem eX11_wordOf {d : Nat} (x0 : Nat) {iv : zI} {rv : zR} {lv : zJ} {Q : Int64 → zI → zR → zJ → Prop} (h : Zl mX11_wordOf (d + 1) 0 [some (.ref x0), none, none, none] [] iv rv lv Q) : Cl mX11_wordOf (d + 1) [.ref x0] iv rv lv Q := Cl.of (by decide +kernel) (by simp [Value.category]) (Nat.le_of_ble_eq_true rfl) rfl h
set_option maxRecDepth 4000 in
theorem bX11_wordOf_0 {d : Nat} (x0 : Nat) {iv : zI} {rv : zR} {lv : zJ} {Q : Int64 → zI → zR → zJ → Prop} (hT : zTop rv) 
    (h : Zl mX11_wordOf (d + 1) 4 [some (.ref x0), some (.long (0 : Int64)), none, some (.int (0 : Int32))] [] iv rv lv Q) :
    Zl mX11_wordOf (d + 1) 0 [some (.ref x0), none, none, none] [] iv rv lv Q := by
  unfold Zl
  refine Z_lconst (a := 0) (v := 0) (q := 1) (by decide +kernel) (by decide +kernel) rfl ?_
  refine Z_lstore_n (a := 1) (loc2 := [_, _, _, _]) (q := 2) (by decide +kernel) (by decide +kernel) rfl rfl rfl ?_
  refine Z_iconst (a := 0) (v := 0) (q := 3) (by decide +kernel) (by decide +kernel) rfl ?_
  refine Z_istore_n (a := 3) (loc2 := [_, _, _, _]) (q := 4) (by decide +kernel) (by decide +kernel) rfl rfl rfl ?_
  exact h
set_option maxRecDepth 4000 in
theorem bX11_wordOf_4 {d : Nat} (x0 : Nat) (x1 : Int64) (x3 : Int32) {iv : zI} {rv : zR} {lv : zJ} {Q : Int64 → zI → zR → zJ → Prop} (hT : zTop rv) 
    (h : (∃ i, i < 5 ∧ x0 = 1000000 + i) ∧ ∃ Q1 : Int32 → zI → zR → zJ → Prop, Ci mJ0_length d [.ref x0] iv rv lv Q1 ∧ ∀ (v6 : Int32) (iv2 : zI) (rv3 : zR) (lv4 : zJ), Q1 v6 iv2 rv3 lv4 → zTop rv3 ∧ ((v6 ≤ x3 → Q x1 iv2 rv3 lv4) ∧ (¬ v6 ≤ x3 → (∃ i, i < 5 ∧ x0 = 1000000 + i) ∧ ∃ Q7 : Int32 → zI → zR → zJ → Prop, Ci mJ0_charAt d [.ref x0, .int x3] iv2 rv3 lv4 Q7 ∧ ∀ (v12 : Int32) (iv8 : zI) (rv9 : zR) (lv10 : zJ), Q7 v12 iv8 rv9 lv10 → zTop rv9 ∧ (Zl mX11_wordOf (d + 1) 4 [some (.ref x0), some (.long ((((x1 * (32 : Int64)) + v12.toInt64) - (97 : Int64)) + (1 : Int64))), none, some (.int (x3 + 1))] [] iv8 rv9 lv10 Q)))) :
    Zl mX11_wordOf (d + 1) 4 [some (.ref x0), some (.long x1), none, some (.int x3)] [] iv rv lv Q := by
  unfold Zl
  refine Z_iload_n (a := 3) (q := 5) (by decide +kernel) rfl rfl ?_
  refine Z_aload_n (a := 0) (q := 6) (by decide +kernel) rfl rfl ?_
  obtain ⟨hs9, h⟩ := h
  obtain ⟨Q1, hm, h⟩ := h
  refine Z_callVsi (M2 := mJ0_length) (idx := 143) (d2 := d) (As := []) (q := 9) (by decide +kernel) kJ0_length lX11_143 hs9 rfl rfl (by decide +kernel) (Nat.le_of_ble_eq_true rfl) (Nat.le_refl _) hm rfl (fun v6 iv2 rv3 lv4 hq => ?_)
  obtain ⟨hT5, h⟩ := h v6 iv2 rv3 lv4 hq
  refine Z_icmp_ge (t := 37) (off := 28) (q := 12) (by decide +kernel) (by decide) rfl (fun hc => ?_) (fun hc => ?_)
  · replace h := h.1 hc
    refine Z_lload_n (a := 1) (q := 38) (by decide +kernel) rfl rfl ?_
    exact Z_lret (by decide +kernel) rfl rfl ⟨_, rfl, h⟩
  · replace h := h.2 hc
    refine Z_lload_n (a := 1) (q := 13) (by decide +kernel) rfl rfl ?_
    refine Z_ldc2 (a := 130) (v := 32) (q := 16) (by decide +kernel) cX11_130 rfl ?_
    refine Z_lmul (q := 17) (by decide +kernel) rfl ?_
    refine Z_aload_n (a := 0) (q := 18) (by decide +kernel) rfl rfl ?_
    refine Z_iload_n (a := 3) (q := 19) (by decide +kernel) rfl rfl ?_
    obtain ⟨hs9, h⟩ := h
    obtain ⟨Q7, hm, h⟩ := h
    refine Z_callVsi (M2 := mJ0_charAt) (idx := 149) (d2 := d) (As := [.int _]) (q := 22) (by decide +kernel) kJ0_charAt lX11_149 hs9 rfl rfl (by decide +kernel) (Nat.le_of_ble_eq_true rfl) (Nat.le_refl _) hm rfl (fun v12 iv8 rv9 lv10 hq => ?_)
    obtain ⟨hT11, h⟩ := h v12 iv8 rv9 lv10 hq
    refine Z_i2l (q := 23) (by decide +kernel) rfl ?_
    refine Z_ladd (q := 24) (by decide +kernel) rfl ?_
    refine Z_ldc2 (a := 132) (v := 97) (q := 27) (by decide +kernel) cX11_132 rfl ?_
    refine Z_lsub (q := 28) (by decide +kernel) rfl ?_
    refine Z_lconst (a := 1) (v := 1) (q := 29) (by decide +kernel) (by decide +kernel) rfl ?_
    refine Z_ladd (q := 30) (by decide +kernel) rfl ?_
    refine Z_lstore_n (a := 1) (loc2 := [_, _, _, _]) (q := 31) (by decide +kernel) (by decide +kernel) rfl rfl rfl ?_
    refine Z_iinc (a := 3) (b := 1) (v := _ + 1) (loc2 := [_, _, _, _]) (q := 34) (by decide +kernel) rfl (zinc _) (by decide +kernel) rfl rfl rfl ?_
    refine Z_goto (q := 4) (off := -30) (by decide +kernel) (by decide) ?_
    exact h
