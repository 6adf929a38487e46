/-! THE ROWS OF Z: what is made. -/
def zFresh (n : Nat) (iv : zI) (rv : zR) (lv : zJ) : Prop := (∀ a, n ≤ a → ∀ k, iv a k = 0 ∧ rv a k = none ∧ lv a k = 0) ∧ ∀ a k r, rv a k = some r → r < n
theorem zFresh.up {n m : Nat} {iv : zI} {rv : zR} {lv : zJ} (h : zFresh n iv rv lv) (hm : n ≤ m) : zFresh m iv rv lv := ⟨fun a ha => h.1 a (Nat.le_trans hm ha), fun a k r hr => Nat.lt_of_lt_of_le (h.2 a k r hr) hm⟩
theorem zFresh.putI {n o k : Nat} {x : Int32} {iv : zI} {rv : zR} {lv : zJ} (h : zFresh n iv rv lv) (ho : o < n) : zFresh n (zu iv o k x) rv lv := ⟨fun a ha b => by rw [zu_o (by omega)]; exact h.1 a ha b, h.2⟩
theorem zFresh.putR {n o k r : Nat} {iv : zI} {rv : zR} {lv : zJ} (h : zFresh n iv rv lv) (ho : o < n) (hr : r < n) : zFresh n iv (zu rv o k (some r)) lv := ⟨fun a ha b => by rw [zu_o (by omega)]; exact h.1 a ha b, fun a b c hc => by
  by_cases e : a = o ∧ b = k
  · rw [e.1, e.2, zu_eq] at hc
    cases hc
    exact hr
  · refine h.2 a b c ?_
    simp only [zu] at hc
    rwa [if_neg e] at hc⟩
theorem zFresh.putJ {n o k : Nat} {x : Int64} {iv : zI} {rv : zR} {lv : zJ} (h : zFresh n iv rv lv) (ho : o < n) : zFresh n iv rv (zu lv o k x) := ⟨fun a ha b => by rw [zu_o (by omega)]; exact h.1 a ha b, h.2⟩
theorem zmap_ad {ad ad' : Nat → Nat} {x : Option Nat} (h : ∀ r, x = some r → ad' r = ad r) : x.map ad' = x.map ad := by
  cases x with
  | none => rfl
  | some r => simp [h r rfl]
theorem zE_ad {dA : Nat → ClassId} {ad ad' : Nat → Nat} {iv : zI} {rv : zR} {lv : zJ} {i : Nat} (h : ∀ k r, rv i k = some r → ad' r = ad r) : zE dA ad' iv rv lv i = zE dA ad iv rv lv i := by
  have h1 : (fun j => (rv i j).map ad') = fun j => (rv i j).map ad := funext fun j => zmap_ad (h j)
  have h2 : ∀ k t, zFv ad' iv rv lv i k t = zFv ad iv rv lv i k t := fun k t => by
    unfold zFv
    split
    · rfl
    · rfl
    · rw [zmap_ad (h k)]
  simp only [zE, zEk, h1, h2]
theorem zW_push {dA : Nat → ClassId} {ad : Nat → Nat} {n q : Nat} {iv : zI} {rv : zR} {lv : zJ} {ent : va_E} (hf : ∀ a k r, rv a k = some r → r < n) (he : zE dA (fun i => if i = n then q else ad i) iv rv lv n = ent) : zW dA (fun i => if i = n then q else ad i) (n + 1) iv rv lv = zW dA ad n iv rv lv ++ [(q, ent)] := by
  subst he
  unfold zW
  rw [List.range_succ, List.map_append]
  congr 1
  · apply List.map_congr_left
    intro i hi
    have hi : i < n := List.mem_range.mp hi
    have e : i ≠ n := by omega
    simp only [e, if_false]
    rw [zE_ad (ad := ad) (fun k r hr => by
      have := hf i k r hr
      have e : r ≠ n := by omega
      simp [e])]
  · simp
theorem zAg_push {n0 n q : Nat} {ad0 ad : Nat → Nat} (h : zAg n0 n ad0 ad) (hn : n0 ≤ n) : zAg n0 (n + 1) ad0 (fun i => if i = n then q else ad i) := fun i hi => by
  have e : i ≠ n := by omega
  simp only [e, if_false]
  exact h i (by omega)
theorem zAg_one {n q : Nat} {ad : Nat → Nat} : zAg n (n + 1) ad (fun i => if i = n then q else ad i) := fun i hi => by
  have e : i ≠ n := by omega
  simp [e]
theorem zSL_succ {n : Nat} {t N : Nat} (h : zSH n = (t, N)) (hn : n < 200) : zSL (n + 1) = zSL n + N := by
  have hl : n < zSHl.length := hn
  unfold zSL
  rw [List.take_succ, List.map_append, List.sum_append]
  have e : zSHl[n]? = some (t, N) := by
    unfold zSH at h
    rw [List.getD_eq_getElem?_getD] at h
    rw [List.getElem?_eq_getElem hl] at h ⊢
    simpa using h
  rw [e]
  simp
def zdv (t : Nat) : Value := match t with
  | 0 => .int 0
  | 1 => .long 0
  | _ => .null
theorem zFv_0 {ad : Nat → Nat} {iv : zI} {rv : zR} {lv : zJ} {i k t : Nat} (h1 : iv i k = 0) (h2 : rv i k = none) (h3 : lv i k = 0) : zFv ad iv rv lv i k t = zdv t := by
  match t with
  | 0 => exact congrArg Value.int h1
  | 1 => exact congrArg Value.long h3
  | t + 2 =>
    show va_rf ((rv i k).map ad) = .null
    rw [h2]
    rfl
theorem Z_new {M : zM} {B : zB} {pc q : Nat} {loc : List (Option Value)} {rest : List Value} {n : Nat} {iv : zI} {rv : zR} {lv : zJ} {Q : zQ} {idx ci N : Nat} {C : String} {T : u_T} (hd : decode M.2.1 pc = .ok (.new idx, 3)) (hc : vwCl[ci]? = some (C, T, N)) (hin : ∀ w ∈ u_ws C T N, w ∈ Wd) (hcl : Cond.classLink M.1.cls idx C ∈ Wd) (hinst : Cond.instantiable C N ∈ Wd) (hini : Cond.initialized C ∈ Wd) (hty : ∀ k, k < N → parseFieldDescriptor (T k).2.2.1 = some (zty ci k)) (hdef : ∀ j, j < N → defaultValue (zty ci j) = zdv (zkf (zty ci j))) (hsh : zSH n = (ci + 20, N)) (hn : n < 200) (hf : zFresh n iv rv lv) (hn1 : n + 1 ≤ B.2.2.1) (hokS : rest.all (zok n (n + 1)) = true) (hokL : loc.all (fun v => match v with | some v => zok n (n + 1) v | none => true) = true) (hq : pc + 3 = q) (k : Z M B q loc (.ref n :: rest) (n + 1) iv rv lv Q) : Z M B pc loc rest n iv rv lv Q := by
  subst hq
  intro l p e R s m args below meth c D dA ad0 adV xc xs Qm hC hR ad H locs ls h1 h2 h3 h4 h5 h6 h7
  have hC' := hC
  obtain ⟨hx, hb, hmlc, hown, hts, hK, hnm, hfr, hroom, hX, hB⟩ := hC'
  have hsl := zSL_succ hsh hn
  have a1 := zSL_le h6
  have a2 := zSL_le hn1
  refine va_new (ci := ci) (fs := (List.range N).map (fun k => zFv ad iv rv lv n k (zkf (zty ci k)))) (C := C) (T := T) (N := N) hx hb hts hin (zty ci) hty hown (hts _ hcl) (hts _ hinst) (hts _ hini) hK h3 h4 h5 (fun q hq => Or.inr hq) hc (fun j hj => ?_) (by omega) (by omega) hd (fun q1 H1 hP hD hS => ?_)
  · have hv := zFv_0 (ad := ad) (t := zkf (zty ci j)) (hf.1 n (Nat.le_refl _) j).1 (hf.1 n (Nat.le_refl _) j).2.1 (hf.1 n (Nat.le_refl _) j).2.2
    simp only [vp_V, List.getD_eq_getElem?_getD, List.getElem?_map, List.getElem?_range hj, Option.map_some, Option.getD_some]
    rw [hv]
    exact hdef j hj
  · have ew := zW_push (dA := dA) (ad := ad) (n := n) (q := q1) (iv := iv) (rv := rv) (lv := lv) (ent := .inr (ci, (List.range N).map (fun k => zFv ad iv rv lv n k (zkf (zty ci k))))) hf.2 (by
      rw [zE_ad (ad := ad) (fun k r hr => by rw [(hf.1 n (Nat.le_refl _) k).2.1] at hr; cases hr), zE_o hsh])
    have hag2 := zAg_push (q := q1) h1 h6
    have hag1 : zAg n (n + 1) ad (fun i => if i = n then q1 else ad i) := zAg_one
    have hL2 : zL ls M.2.2.1 (fun i => if i = n then q1 else ad i) loc := zL_ad h2 (fun v hv => zok_cv hag1 (by simpa using List.all_eq_true.mp hokL _ hv))
    have hst2 : rest.map (zcv ad) = rest.map (zcv (fun i => if i = n then q1 else ad i)) := List.map_congr_left (fun v hv => (zok_cv hag1 (List.all_eq_true.mp hokS _ hv)).symm)
    have hw := k l p e R s m args below meth c D dA ad0 adV xc xs Qm hC hR _ H1 locs ls hag2 hL2 (by rw [ew]; exact hP) (by rw [ew]; exact hD) hS (Nat.le_succ_of_le h6) hn1
    have e1 : n - B.2.1 + xc + 1 = n + 1 - B.2.1 + xc := by omega
    have e2 : zSL n - zSL B.2.1 + xs + N = zSL (n + 1) - zSL B.2.1 + xs := by
      have a1 := zSL_le h6
      omega
    rw [e1, e2, hst2]
    have e3 : Value.ref q1 :: rest.map (zcv (fun i => if i = n then q1 else ad i)) = (Value.ref n :: rest).map (zcv (fun i => if i = n then q1 else ad i)) := by simp [zcv]
    rw [e3]
    exact hw
theorem Z_newaI {M : zM} {B : zB} {pc q : Nat} {loc : List (Option Value)} {rest : List Value} {n : Nat} {iv : zI} {rv : zR} {lv : zJ} {Q : zQ} {len : Int32} {N : Nat} (hd : decode M.2.1 pc = .ok (.newarray .int, 2)) (hlen : ¬ len < 0) (hN : len.toNatClampNeg = N) (hby : N * componentBytes .int ≤ 536870912) (hsh : zSH n = (0, N)) (hn : n < 200) (hf : zFresh n iv rv lv) (hn1 : n + 1 ≤ B.2.2.1) (hokS : rest.all (zok n (n + 1)) = true) (hokL : loc.all (fun v => match v with | some v => zok n (n + 1) v | none => true) = true) (hq : pc + 2 = q) (k : Z M B q loc (.ref n :: rest) (n + 1) iv rv lv Q) : Z M B pc loc (.int len :: rest) n iv rv lv Q := by
  subst hq
  intro l p e R s m args below meth c D dA ad0 adV xc xs Qm hC hR ad H locs ls h1 h2 h3 h4 h5 h6 h7
  have hC' := hC
  obtain ⟨hx, hb, hmlc, hown, hts, hK, hnm, hfr, hroom, hX, hB⟩ := hC'
  have hsl := zSL_succ hsh hn
  have a1 := zSL_le h6
  have a2 := zSL_le hn1
  have hz : iv n = fun _ => 0 := funext fun j => (hf.1 n (Nat.le_refl _) j).1
  refine va_newa (atype := .int) (ty := .int) (a0 := (N, .inl (fun _ => 0))) hx hb (hts _ a_arrayClass_int) rfl hK h3 h4 h5 (fun q hq => Or.inr hq) (fun cA => rfl) hlen hN hby (by omega) (by omega) hd (fun q1 cA H1 hK2 hP hD hS => ?_)
  · have r1 : s.vm.findClass ("[" ++ (FieldType.int).toString) = some cA := (hK2.2 8 (cA, .int) rfl).2
    have r2 : s.vm.findClass ("[" ++ (FieldType.int).toString) = some (dA 0) := (hK.2 0 (dA 0, .int) rfl).2
    have ec : cA = dA 0 := Option.some.inj (r1.symm.trans r2)
    subst ec
    have ew := zW_push (dA := dA) (ad := ad) (n := n) (q := q1) (iv := iv) (rv := rv) (lv := lv) (ent := .inl (dA 0, N, .inl (fun _ => 0))) hf.2 (by
      rw [zE_0 hsh, hz])
    have hag2 := zAg_push (q := q1) h1 h6
    have hag1 : zAg n (n + 1) ad (fun i => if i = n then q1 else ad i) := zAg_one
    have hL2 : zL ls M.2.2.1 (fun i => if i = n then q1 else ad i) loc := zL_ad h2 (fun v hv => zok_cv hag1 (by simpa using List.all_eq_true.mp hokL _ hv))
    have hst2 : rest.map (zcv ad) = rest.map (zcv (fun i => if i = n then q1 else ad i)) := List.map_congr_left (fun v hv => (zok_cv hag1 (List.all_eq_true.mp hokS _ hv)).symm)
    have hw := k l p e R s m args below meth c D dA ad0 adV xc xs Qm hC hR _ H1 locs ls hag2 hL2 (by rw [ew]; exact hP) (by rw [ew]; exact hD) hS (Nat.le_succ_of_le h6) hn1
    have e1 : n - B.2.1 + xc + 1 = n + 1 - B.2.1 + xc := by omega
    have e2 : zSL n - zSL B.2.1 + xs + N = zSL (n + 1) - zSL B.2.1 + xs := by
      have a1 := zSL_le h6
      omega
    rw [e1, e2, hst2]
    have e3 : Value.ref q1 :: rest.map (zcv (fun i => if i = n then q1 else ad i)) = (Value.ref n :: rest).map (zcv (fun i => if i = n then q1 else ad i)) := by simp [zcv]
    rw [e3]
    exact hw
theorem Z_newaB {M : zM} {B : zB} {pc q : Nat} {loc : List (Option Value)} {rest : List Value} {n : Nat} {iv : zI} {rv : zR} {lv : zJ} {Q : zQ} {len : Int32} {N : Nat} (hd : decode M.2.1 pc = .ok (.newarray .byte, 2)) (hlen : ¬ len < 0) (hN : len.toNatClampNeg = N) (hby : N * componentBytes .byte ≤ 536870912) (hsh : zSH n = (1, N)) (hn : n < 200) (hf : zFresh n iv rv lv) (hn1 : n + 1 ≤ B.2.2.1) (hokS : rest.all (zok n (n + 1)) = true) (hokL : loc.all (fun v => match v with | some v => zok n (n + 1) v | none => true) = true) (hq : pc + 2 = q) (k : Z M B q loc (.ref n :: rest) (n + 1) iv rv lv Q) : Z M B pc loc (.int len :: rest) n iv rv lv Q := by
  subst hq
  intro l p e R s m args below meth c D dA ad0 adV xc xs Qm hC hR ad H locs ls h1 h2 h3 h4 h5 h6 h7
  have hC' := hC
  obtain ⟨hx, hb, hmlc, hown, hts, hK, hnm, hfr, hroom, hX, hB⟩ := hC'
  have hsl := zSL_succ hsh hn
  have a1 := zSL_le h6
  have a2 := zSL_le hn1
  have hz : iv n = fun _ => 0 := funext fun j => (hf.1 n (Nat.le_refl _) j).1
  refine va_newa (atype := .byte) (ty := .byte) (a0 := (N, .inl (fun _ => 0))) hx hb (hts _ a_arrayClass_byte) rfl hK h3 h4 h5 (fun q hq => Or.inr hq) (fun cA => rfl) hlen hN hby (by omega) (by omega) hd (fun q1 cA H1 hK2 hP hD hS => ?_)
  · have r1 : s.vm.findClass ("[" ++ (FieldType.byte).toString) = some cA := (hK2.2 8 (cA, .byte) rfl).2
    have r2 : s.vm.findClass ("[" ++ (FieldType.byte).toString) = some (dA 1) := (hK.2 1 (dA 1, .byte) rfl).2
    have ec : cA = dA 1 := Option.some.inj (r1.symm.trans r2)
    subst ec
    have ew := zW_push (dA := dA) (ad := ad) (n := n) (q := q1) (iv := iv) (rv := rv) (lv := lv) (ent := .inl (dA 1, N, .inl (fun _ => 0))) hf.2 (by
      rw [zE_1 hsh, hz])
    have hag2 := zAg_push (q := q1) h1 h6
    have hag1 : zAg n (n + 1) ad (fun i => if i = n then q1 else ad i) := zAg_one
    have hL2 : zL ls M.2.2.1 (fun i => if i = n then q1 else ad i) loc := zL_ad h2 (fun v hv => zok_cv hag1 (by simpa using List.all_eq_true.mp hokL _ hv))
    have hst2 : rest.map (zcv ad) = rest.map (zcv (fun i => if i = n then q1 else ad i)) := List.map_congr_left (fun v hv => (zok_cv hag1 (List.all_eq_true.mp hokS _ hv)).symm)
    have hw := k l p e R s m args below meth c D dA ad0 adV xc xs Qm hC hR _ H1 locs ls hag2 hL2 (by rw [ew]; exact hP) (by rw [ew]; exact hD) hS (Nat.le_succ_of_le h6) hn1
    have e1 : n - B.2.1 + xc + 1 = n + 1 - B.2.1 + xc := by omega
    have e2 : zSL n - zSL B.2.1 + xs + N = zSL (n + 1) - zSL B.2.1 + xs := by
      have a1 := zSL_le h6
      omega
    rw [e1, e2, hst2]
    have e3 : Value.ref q1 :: rest.map (zcv (fun i => if i = n then q1 else ad i)) = (Value.ref n :: rest).map (zcv (fun i => if i = n then q1 else ad i)) := by simp [zcv]
    rw [e3]
    exact hw
theorem Z_newaZ {M : zM} {B : zB} {pc q : Nat} {loc : List (Option Value)} {rest : List Value} {n : Nat} {iv : zI} {rv : zR} {lv : zJ} {Q : zQ} {len : Int32} {N : Nat} (hd : decode M.2.1 pc = .ok (.newarray .boolean, 2)) (hlen : ¬ len < 0) (hN : len.toNatClampNeg = N) (hby : N * componentBytes .boolean ≤ 536870912) (hsh : zSH n = (2, N)) (hn : n < 200) (hf : zFresh n iv rv lv) (hn1 : n + 1 ≤ B.2.2.1) (hokS : rest.all (zok n (n + 1)) = true) (hokL : loc.all (fun v => match v with | some v => zok n (n + 1) v | none => true) = true) (hq : pc + 2 = q) (k : Z M B q loc (.ref n :: rest) (n + 1) iv rv lv Q) : Z M B pc loc (.int len :: rest) n iv rv lv Q := by
  subst hq
  intro l p e R s m args below meth c D dA ad0 adV xc xs Qm hC hR ad H locs ls h1 h2 h3 h4 h5 h6 h7
  have hC' := hC
  obtain ⟨hx, hb, hmlc, hown, hts, hK, hnm, hfr, hroom, hX, hB⟩ := hC'
  have hsl := zSL_succ hsh hn
  have a1 := zSL_le h6
  have a2 := zSL_le hn1
  have hz : iv n = fun _ => 0 := funext fun j => (hf.1 n (Nat.le_refl _) j).1
  refine va_newa (atype := .boolean) (ty := .boolean) (a0 := (N, .inl (fun _ => 0))) hx hb (hts _ a_arrayClass_boolean) rfl hK h3 h4 h5 (fun q hq => Or.inr hq) (fun cA => rfl) hlen hN hby (by omega) (by omega) hd (fun q1 cA H1 hK2 hP hD hS => ?_)
  · have r1 : s.vm.findClass ("[" ++ (FieldType.boolean).toString) = some cA := (hK2.2 8 (cA, .boolean) rfl).2
    have r2 : s.vm.findClass ("[" ++ (FieldType.boolean).toString) = some (dA 2) := (hK.2 2 (dA 2, .boolean) rfl).2
    have ec : cA = dA 2 := Option.some.inj (r1.symm.trans r2)
    subst ec
    have ew := zW_push (dA := dA) (ad := ad) (n := n) (q := q1) (iv := iv) (rv := rv) (lv := lv) (ent := .inl (dA 2, N, .inl (fun _ => 0))) hf.2 (by
      rw [zE_2 hsh, hz])
    have hag2 := zAg_push (q := q1) h1 h6
    have hag1 : zAg n (n + 1) ad (fun i => if i = n then q1 else ad i) := zAg_one
    have hL2 : zL ls M.2.2.1 (fun i => if i = n then q1 else ad i) loc := zL_ad h2 (fun v hv => zok_cv hag1 (by simpa using List.all_eq_true.mp hokL _ hv))
    have hst2 : rest.map (zcv ad) = rest.map (zcv (fun i => if i = n then q1 else ad i)) := List.map_congr_left (fun v hv => (zok_cv hag1 (List.all_eq_true.mp hokS _ hv)).symm)
    have hw := k l p e R s m args below meth c D dA ad0 adV xc xs Qm hC hR _ H1 locs ls hag2 hL2 (by rw [ew]; exact hP) (by rw [ew]; exact hD) hS (Nat.le_succ_of_le h6) hn1
    have e1 : n - B.2.1 + xc + 1 = n + 1 - B.2.1 + xc := by omega
    have e2 : zSL n - zSL B.2.1 + xs + N = zSL (n + 1) - zSL B.2.1 + xs := by
      have a1 := zSL_le h6
      omega
    rw [e1, e2, hst2]
    have e3 : Value.ref q1 :: rest.map (zcv (fun i => if i = n then q1 else ad i)) = (Value.ref n :: rest).map (zcv (fun i => if i = n then q1 else ad i)) := by simp [zcv]
    rw [e3]
    exact hw
theorem Z_newaJ {M : zM} {B : zB} {pc q : Nat} {loc : List (Option Value)} {rest : List Value} {n : Nat} {iv : zI} {rv : zR} {lv : zJ} {Q : zQ} {len : Int32} {N : Nat} (hd : decode M.2.1 pc = .ok (.newarray .long, 2)) (hlen : ¬ len < 0) (hN : len.toNatClampNeg = N) (hby : N * componentBytes .long ≤ 536870912) (hsh : zSH n = (3, N)) (hn : n < 200) (hf : zFresh n iv rv lv) (hn1 : n + 1 ≤ B.2.2.1) (hokS : rest.all (zok n (n + 1)) = true) (hokL : loc.all (fun v => match v with | some v => zok n (n + 1) v | none => true) = true) (hq : pc + 2 = q) (k : Z M B q loc (.ref n :: rest) (n + 1) iv rv lv Q) : Z M B pc loc (.int len :: rest) n iv rv lv Q := by
  subst hq
  intro l p e R s m args below meth c D dA ad0 adV xc xs Qm hC hR ad H locs ls h1 h2 h3 h4 h5 h6 h7
  have hC' := hC
  obtain ⟨hx, hb, hmlc, hown, hts, hK, hnm, hfr, hroom, hX, hB⟩ := hC'
  have hsl := zSL_succ hsh hn
  have a1 := zSL_le h6
  have a2 := zSL_le hn1
  have hz : lv n = fun _ => 0 := funext fun j => (hf.1 n (Nat.le_refl _) j).2.2
  refine va_newa (atype := .long) (ty := .long) (a0 := (N, .inr (.inl (fun _ => 0)))) hx hb (hts _ a_arrayClass_long) rfl hK h3 h4 h5 (fun q hq => Or.inr hq) (fun cA => rfl) hlen hN hby (by omega) (by omega) hd (fun q1 cA H1 hK2 hP hD hS => ?_)
  · have r1 : s.vm.findClass ("[" ++ (FieldType.long).toString) = some cA := (hK2.2 8 (cA, .long) rfl).2
    have r2 : s.vm.findClass ("[" ++ (FieldType.long).toString) = some (dA 3) := (hK.2 3 (dA 3, .long) rfl).2
    have ec : cA = dA 3 := Option.some.inj (r1.symm.trans r2)
    subst ec
    have ew := zW_push (dA := dA) (ad := ad) (n := n) (q := q1) (iv := iv) (rv := rv) (lv := lv) (ent := .inl (dA 3, N, .inr (.inl (fun _ => 0)))) hf.2 (by
      rw [zE_3 hsh, hz])
    have hag2 := zAg_push (q := q1) h1 h6
    have hag1 : zAg n (n + 1) ad (fun i => if i = n then q1 else ad i) := zAg_one
    have hL2 : zL ls M.2.2.1 (fun i => if i = n then q1 else ad i) loc := zL_ad h2 (fun v hv => zok_cv hag1 (by simpa using List.all_eq_true.mp hokL _ hv))
    have hst2 : rest.map (zcv ad) = rest.map (zcv (fun i => if i = n then q1 else ad i)) := List.map_congr_left (fun v hv => (zok_cv hag1 (List.all_eq_true.mp hokS _ hv)).symm)
    have hw := k l p e R s m args below meth c D dA ad0 adV xc xs Qm hC hR _ H1 locs ls hag2 hL2 (by rw [ew]; exact hP) (by rw [ew]; exact hD) hS (Nat.le_succ_of_le h6) hn1
    have e1 : n - B.2.1 + xc + 1 = n + 1 - B.2.1 + xc := by omega
    have e2 : zSL n - zSL B.2.1 + xs + N = zSL (n + 1) - zSL B.2.1 + xs := by
      have a1 := zSL_le h6
      omega
    rw [e1, e2, hst2]
    have e3 : Value.ref q1 :: rest.map (zcv (fun i => if i = n then q1 else ad i)) = (Value.ref n :: rest).map (zcv (fun i => if i = n then q1 else ad i)) := by simp [zcv]
    rw [e3]
    exact hw
theorem Z_newqS {M : zM} {B : zB} {pc q : Nat} {loc : List (Option Value)} {rest : List Value} {n : Nat} {iv : zI} {rv : zR} {lv : zJ} {Q : zQ} {idx : Nat} {len : Int32} {N : Nat} (hd : decode M.2.1 pc = .ok (.anewarray idx, 3)) (hcl : Cond.classLink M.1.cls idx RX9 ∈ Wd) (hlen : ¬ len < 0) (hN : len.toNatClampNeg = N) (hby : N * 4 ≤ 536870912) (hsh : zSH n = (4, N)) (hn : n < 200) (hf : zFresh n iv rv lv) (hn1 : n + 1 ≤ B.2.2.1) (hokS : rest.all (zok n (n + 1)) = true) (hokL : loc.all (fun v => match v with | some v => zok n (n + 1) v | none => true) = true) (hq : pc + 3 = q) (k : Z M B q loc (.ref n :: rest) (n + 1) iv rv lv Q) : Z M B pc loc (.int len :: rest) n iv rv lv Q := by
  subst hq
  intro l p e R s m args below meth c D dA ad0 adV xc xs Qm hC hR ad H locs ls h1 h2 h3 h4 h5 h6 h7
  have hC' := hC
  obtain ⟨hx, hb, hmlc, hown, hts, hK, hnm, hfr, hroom, hX, hB⟩ := hC'
  have hsl := zSL_succ hsh hn
  have a1 := zSL_le h6
  have a2 := zSL_le hn1
  have hz : (fun j => (rv n j).map (fun i => (0 : Nat))) = fun _ => none := funext fun j => by rw [(hf.1 n (Nat.le_refl _) j).2.1]; rfl
  refine va_newq (C := RX9) hx hb hown (hts _ hcl) hX.2.2.2.2.2.2.1 hK h3 h4 h5 (fun q hq => Or.inr hq) hlen hN hby (by omega) (by omega) hd (fun q1 cA H1 hK2 hP hD hS => ?_)
  · obtain ⟨kA, comp, -, -, -, r1⟩ := (hK2.2 8 (cA, .object RX9) rfl).2
    obtain ⟨kA2, comp2, -, -, -, r2⟩ := (hK.2 4 (dA 4, .object RX9) rfl).2
    have ec : cA = dA 4 := Option.some.inj (r1.symm.trans r2)
    subst ec
    have ew := zW_push (dA := dA) (ad := ad) (n := n) (q := q1) (iv := iv) (rv := rv) (lv := lv) (ent := .inl (dA 4, N, .inr (.inr (.inr (.inr (fun _ => none)))))) hf.2 (by
      rw [zE_q hsh (by decide) (by decide)]
      refine congrArg (fun f : Nat → Option Nat => (.inl (dA 4, N, .inr (.inr (.inr (.inr f)))) : va_E)) (funext fun j => ?_)
      rw [(hf.1 n (Nat.le_refl _) j).2.1]
      rfl)
    have hag2 := zAg_push (q := q1) h1 h6
    have hag1 : zAg n (n + 1) ad (fun i => if i = n then q1 else ad i) := zAg_one
    have hL2 : zL ls M.2.2.1 (fun i => if i = n then q1 else ad i) loc := zL_ad h2 (fun v hv => zok_cv hag1 (by simpa using List.all_eq_true.mp hokL _ hv))
    have hst2 : rest.map (zcv ad) = rest.map (zcv (fun i => if i = n then q1 else ad i)) := List.map_congr_left (fun v hv => (zok_cv hag1 (List.all_eq_true.mp hokS _ hv)).symm)
    have hw := k l p e R s m args below meth c D dA ad0 adV xc xs Qm hC hR _ H1 locs ls hag2 hL2 (by rw [ew]; exact hP) (by rw [ew]; exact hD) hS (Nat.le_succ_of_le h6) hn1
    have e1 : n - B.2.1 + xc + 1 = n + 1 - B.2.1 + xc := by omega
    have e2 : zSL n - zSL B.2.1 + xs + N = zSL (n + 1) - zSL B.2.1 + xs := by
      have a1 := zSL_le h6
      omega
    rw [e1, e2, hst2]
    have e3 : Value.ref q1 :: rest.map (zcv (fun i => if i = n then q1 else ad i)) = (Value.ref n :: rest).map (zcv (fun i => if i = n then q1 else ad i)) := by simp [zcv]
    rw [e3]
    exact hw
theorem Z_aastS {M : zM} {B : zB} {pc q : Nat} {loc : List (Option Value)} {rest : List Value} {n : Nat} {iv : zI} {rv : zR} {lv : zJ} {Q : zQ} {a len r N : Nat} {T : u_T} {i : Int32} (hd : decode M.2.1 pc = .ok (.aastore, 1)) (hs : zSH a = (4, len)) (ha : a < n) (hc : vwCl[9]? = some (RX9, T, N)) (hs2 : zSH r = (29, N)) (hr : r < n) (hin : vp_in i len) (hq : pc + 1 = q) (k : Z M B q loc rest n iv (zu rv a i.toNatClampNeg (some r)) lv Q) : Z M B pc loc (.ref r :: .int i :: .ref a :: rest) n iv rv lv Q := by
  subst hq
  intro l p e R s m args below meth c D dA ad0 adV xc xs Qm hC hR ad H locs ls h1 h2 h3 h4 h5 h6 h7
  have ew : (zW dA ad n iv rv lv).set a (ad a, .inl (dA 4, len, .inr (.inr (.inr (.inr (va_up (fun j => (rv a j).map ad) i.toNatClampNeg (some (ad r)))))))) = zW dA ad n iv (zu rv a i.toNatClampNeg (some r)) lv := zW_set (by
    rw [zE_q hs (by decide) (by decide)]
    refine congrArg (fun f : Nat → Option Nat => (.inl (dA 4, len, .inr (.inr (.inr (.inr f)))) : va_E)) (funext fun j => ?_)
    simp only [zu, va_up, true_and]
    split <;> rfl) (fun j hj => zE_r (zu_row hj))
  exact va_astq hC.1 hC.2.1 hC.2.2.2.2.2.1 h3 h4 h5 a 4 r 9 (r := (RX9, T, N)) ((zW_at ha).trans (by rw [zE_q hs (by decide) (by decide)])) rfl ((zW_at hr).trans (by rw [zE_o (ci := 9) hs2])) hc hin hd (fun H1 locs1 hP hD hS => k l p e R s m args below meth c D dA ad0 adV xc xs Qm hC hR ad H1 locs1 ls h1 h2 (ew ▸ hP) (ew ▸ hD) hS h6 h7)
theorem Z_newqR {M : zM} {B : zB} {pc q : Nat} {loc : List (Option Value)} {rest : List Value} {n : Nat} {iv : zI} {rv : zR} {lv : zJ} {Q : zQ} {idx : Nat} {len : Int32} {N : Nat} (hd : decode M.2.1 pc = .ok (.anewarray idx, 3)) (hcl : Cond.classLink M.1.cls idx RX3 ∈ Wd) (hlen : ¬ len < 0) (hN : len.toNatClampNeg = N) (hby : N * 4 ≤ 536870912) (hsh : zSH n = (5, N)) (hn : n < 200) (hf : zFresh n iv rv lv) (hn1 : n + 1 ≤ B.2.2.1) (hokS : rest.all (zok n (n + 1)) = true) (hokL : loc.all (fun v => match v with | some v => zok n (n + 1) v | none => true) = true) (hq : pc + 3 = q) (k : Z M B q loc (.ref n :: rest) (n + 1) iv rv lv Q) : Z M B pc loc (.int len :: rest) n iv rv lv Q := by
  subst hq
  intro l p e R s m args below meth c D dA ad0 adV xc xs Qm hC hR ad H locs ls h1 h2 h3 h4 h5 h6 h7
  have hC' := hC
  obtain ⟨hx, hb, hmlc, hown, hts, hK, hnm, hfr, hroom, hX, hB⟩ := hC'
  have hsl := zSL_succ hsh hn
  have a1 := zSL_le h6
  have a2 := zSL_le hn1
  have hz : (fun j => (rv n j).map (fun i => (0 : Nat))) = fun _ => none := funext fun j => by rw [(hf.1 n (Nat.le_refl _) j).2.1]; rfl
  refine va_newq (C := RX3) hx hb hown (hts _ hcl) hX.2.2.2.2.2.2.2.1 hK h3 h4 h5 (fun q hq => Or.inr hq) hlen hN hby (by omega) (by omega) hd (fun q1 cA H1 hK2 hP hD hS => ?_)
  · obtain ⟨kA, comp, -, -, -, r1⟩ := (hK2.2 8 (cA, .object RX3) rfl).2
    obtain ⟨kA2, comp2, -, -, -, r2⟩ := (hK.2 5 (dA 5, .object RX3) rfl).2
    have ec : cA = dA 5 := Option.some.inj (r1.symm.trans r2)
    subst ec
    have ew := zW_push (dA := dA) (ad := ad) (n := n) (q := q1) (iv := iv) (rv := rv) (lv := lv) (ent := .inl (dA 5, N, .inr (.inr (.inr (.inr (fun _ => none)))))) hf.2 (by
      rw [zE_q hsh (by decide) (by decide)]
      refine congrArg (fun f : Nat → Option Nat => (.inl (dA 5, N, .inr (.inr (.inr (.inr f)))) : va_E)) (funext fun j => ?_)
      rw [(hf.1 n (Nat.le_refl _) j).2.1]
      rfl)
    have hag2 := zAg_push (q := q1) h1 h6
    have hag1 : zAg n (n + 1) ad (fun i => if i = n then q1 else ad i) := zAg_one
    have hL2 : zL ls M.2.2.1 (fun i => if i = n then q1 else ad i) loc := zL_ad h2 (fun v hv => zok_cv hag1 (by simpa using List.all_eq_true.mp hokL _ hv))
    have hst2 : rest.map (zcv ad) = rest.map (zcv (fun i => if i = n then q1 else ad i)) := List.map_congr_left (fun v hv => (zok_cv hag1 (List.all_eq_true.mp hokS _ hv)).symm)
    have hw := k l p e R s m args below meth c D dA ad0 adV xc xs Qm hC hR _ H1 locs ls hag2 hL2 (by rw [ew]; exact hP) (by rw [ew]; exact hD) hS (Nat.le_succ_of_le h6) hn1
    have e1 : n - B.2.1 + xc + 1 = n + 1 - B.2.1 + xc := by omega
    have e2 : zSL n - zSL B.2.1 + xs + N = zSL (n + 1) - zSL B.2.1 + xs := by
      have a1 := zSL_le h6
      omega
    rw [e1, e2, hst2]
    have e3 : Value.ref q1 :: rest.map (zcv (fun i => if i = n then q1 else ad i)) = (Value.ref n :: rest).map (zcv (fun i => if i = n then q1 else ad i)) := by simp [zcv]
    rw [e3]
    exact hw
theorem Z_aastR {M : zM} {B : zB} {pc q : Nat} {loc : List (Option Value)} {rest : List Value} {n : Nat} {iv : zI} {rv : zR} {lv : zJ} {Q : zQ} {a len r N : Nat} {T : u_T} {i : Int32} (hd : decode M.2.1 pc = .ok (.aastore, 1)) (hs : zSH a = (5, len)) (ha : a < n) (hc : vwCl[3]? = some (RX3, T, N)) (hs2 : zSH r = (23, N)) (hr : r < n) (hin : vp_in i len) (hq : pc + 1 = q) (k : Z M B q loc rest n iv (zu rv a i.toNatClampNeg (some r)) lv Q) : Z M B pc loc (.ref r :: .int i :: .ref a :: rest) n iv rv lv Q := by
  subst hq
  intro l p e R s m args below meth c D dA ad0 adV xc xs Qm hC hR ad H locs ls h1 h2 h3 h4 h5 h6 h7
  have ew : (zW dA ad n iv rv lv).set a (ad a, .inl (dA 5, len, .inr (.inr (.inr (.inr (va_up (fun j => (rv a j).map ad) i.toNatClampNeg (some (ad r)))))))) = zW dA ad n iv (zu rv a i.toNatClampNeg (some r)) lv := zW_set (by
    rw [zE_q hs (by decide) (by decide)]
    refine congrArg (fun f : Nat → Option Nat => (.inl (dA 5, len, .inr (.inr (.inr (.inr f)))) : va_E)) (funext fun j => ?_)
    simp only [zu, va_up, true_and]
    split <;> rfl) (fun j hj => zE_r (zu_row hj))
  exact va_astq hC.1 hC.2.1 hC.2.2.2.2.2.1 h3 h4 h5 a 5 r 3 (r := (RX3, T, N)) ((zW_at ha).trans (by rw [zE_q hs (by decide) (by decide)])) rfl ((zW_at hr).trans (by rw [zE_o (ci := 3) hs2])) hc hin hd (fun H1 locs1 hP hD hS => k l p e R s m args below meth c D dA ad0 adV xc xs Qm hC hR ad H1 locs1 ls h1 h2 (ew ▸ hP) (ew ▸ hD) hS h6 h7)
theorem Z_newqP {M : zM} {B : zB} {pc q : Nat} {loc : List (Option Value)} {rest : List Value} {n : Nat} {iv : zI} {rv : zR} {lv : zJ} {Q : zQ} {idx : Nat} {len : Int32} {N : Nat} (hd : decode M.2.1 pc = .ok (.anewarray idx, 3)) (hcl : Cond.classLink M.1.cls idx RX5 ∈ Wd) (hlen : ¬ len < 0) (hN : len.toNatClampNeg = N) (hby : N * 4 ≤ 536870912) (hsh : zSH n = (6, N)) (hn : n < 200) (hf : zFresh n iv rv lv) (hn1 : n + 1 ≤ B.2.2.1) (hokS : rest.all (zok n (n + 1)) = true) (hokL : loc.all (fun v => match v with | some v => zok n (n + 1) v | none => true) = true) (hq : pc + 3 = q) (k : Z M B q loc (.ref n :: rest) (n + 1) iv rv lv Q) : Z M B pc loc (.int len :: rest) n iv rv lv Q := by
  subst hq
  intro l p e R s m args below meth c D dA ad0 adV xc xs Qm hC hR ad H locs ls h1 h2 h3 h4 h5 h6 h7
  have hC' := hC
  obtain ⟨hx, hb, hmlc, hown, hts, hK, hnm, hfr, hroom, hX, hB⟩ := hC'
  have hsl := zSL_succ hsh hn
  have a1 := zSL_le h6
  have a2 := zSL_le hn1
  have hz : (fun j => (rv n j).map (fun i => (0 : Nat))) = fun _ => none := funext fun j => by rw [(hf.1 n (Nat.le_refl _) j).2.1]; rfl
  refine va_newq (C := RX5) hx hb hown (hts _ hcl) hX.2.2.2.2.2.2.2.2.1 hK h3 h4 h5 (fun q hq => Or.inr hq) hlen hN hby (by omega) (by omega) hd (fun q1 cA H1 hK2 hP hD hS => ?_)
  · obtain ⟨kA, comp, -, -, -, r1⟩ := (hK2.2 8 (cA, .object RX5) rfl).2
    obtain ⟨kA2, comp2, -, -, -, r2⟩ := (hK.2 6 (dA 6, .object RX5) rfl).2
    have ec : cA = dA 6 := Option.some.inj (r1.symm.trans r2)
    subst ec
    have ew := zW_push (dA := dA) (ad := ad) (n := n) (q := q1) (iv := iv) (rv := rv) (lv := lv) (ent := .inl (dA 6, N, .inr (.inr (.inr (.inr (fun _ => none)))))) hf.2 (by
      rw [zE_q hsh (by decide) (by decide)]
      refine congrArg (fun f : Nat → Option Nat => (.inl (dA 6, N, .inr (.inr (.inr (.inr f)))) : va_E)) (funext fun j => ?_)
      rw [(hf.1 n (Nat.le_refl _) j).2.1]
      rfl)
    have hag2 := zAg_push (q := q1) h1 h6
    have hag1 : zAg n (n + 1) ad (fun i => if i = n then q1 else ad i) := zAg_one
    have hL2 : zL ls M.2.2.1 (fun i => if i = n then q1 else ad i) loc := zL_ad h2 (fun v hv => zok_cv hag1 (by simpa using List.all_eq_true.mp hokL _ hv))
    have hst2 : rest.map (zcv ad) = rest.map (zcv (fun i => if i = n then q1 else ad i)) := List.map_congr_left (fun v hv => (zok_cv hag1 (List.all_eq_true.mp hokS _ hv)).symm)
    have hw := k l p e R s m args below meth c D dA ad0 adV xc xs Qm hC hR _ H1 locs ls hag2 hL2 (by rw [ew]; exact hP) (by rw [ew]; exact hD) hS (Nat.le_succ_of_le h6) hn1
    have e1 : n - B.2.1 + xc + 1 = n + 1 - B.2.1 + xc := by omega
    have e2 : zSL n - zSL B.2.1 + xs + N = zSL (n + 1) - zSL B.2.1 + xs := by
      have a1 := zSL_le h6
      omega
    rw [e1, e2, hst2]
    have e3 : Value.ref q1 :: rest.map (zcv (fun i => if i = n then q1 else ad i)) = (Value.ref n :: rest).map (zcv (fun i => if i = n then q1 else ad i)) := by simp [zcv]
    rw [e3]
    exact hw
theorem Z_aastP {M : zM} {B : zB} {pc q : Nat} {loc : List (Option Value)} {rest : List Value} {n : Nat} {iv : zI} {rv : zR} {lv : zJ} {Q : zQ} {a len r N : Nat} {T : u_T} {i : Int32} (hd : decode M.2.1 pc = .ok (.aastore, 1)) (hs : zSH a = (6, len)) (ha : a < n) (hc : vwCl[5]? = some (RX5, T, N)) (hs2 : zSH r = (25, N)) (hr : r < n) (hin : vp_in i len) (hq : pc + 1 = q) (k : Z M B q loc rest n iv (zu rv a i.toNatClampNeg (some r)) lv Q) : Z M B pc loc (.ref r :: .int i :: .ref a :: rest) n iv rv lv Q := by
  subst hq
  intro l p e R s m args below meth c D dA ad0 adV xc xs Qm hC hR ad H locs ls h1 h2 h3 h4 h5 h6 h7
  have ew : (zW dA ad n iv rv lv).set a (ad a, .inl (dA 6, len, .inr (.inr (.inr (.inr (va_up (fun j => (rv a j).map ad) i.toNatClampNeg (some (ad r)))))))) = zW dA ad n iv (zu rv a i.toNatClampNeg (some r)) lv := zW_set (by
    rw [zE_q hs (by decide) (by decide)]
    refine congrArg (fun f : Nat → Option Nat => (.inl (dA 6, len, .inr (.inr (.inr (.inr f)))) : va_E)) (funext fun j => ?_)
    simp only [zu, va_up, true_and]
    split <;> rfl) (fun j hj => zE_r (zu_row hj))
  exact va_astq hC.1 hC.2.1 hC.2.2.2.2.2.1 h3 h4 h5 a 6 r 5 (r := (RX5, T, N)) ((zW_at ha).trans (by rw [zE_q hs (by decide) (by decide)])) rfl ((zW_at hr).trans (by rw [zE_o (ci := 5) hs2])) hc hin hd (fun H1 locs1 hP hD hS => k l p e R s m args below meth c D dA ad0 adV xc xs Qm hC hR ad H1 locs1 ls h1 h2 (ew ▸ hP) (ew ▸ hD) hS h6 h7)
theorem zw_obj : Cond.instanceMethod objectInit ∈ Wd ∧ Cond.code objectInit ⟨#[0xb1]⟩ 1 none ∈ Wd := ⟨zwd 134 (by decide +kernel) (by decide +kernel), zwd 135 (by decide +kernel) (by decide +kernel)⟩
theorem Z_objInit {M : zM} {B : zB} {pc q : Nat} {loc : List (Option Value)} {rest : List Value} {n : Nat} {iv : zI} {rv : zR} {lv : zJ} {Q : zQ} {idx o : Nat} (hd : decode M.2.1 pc = .ok (.invokespecial idx, 3)) (hl : Cond.methodLink M.1.cls idx objectInit ∈ Wd) (hcat : (rest.map fun v => v.category).sum ≤ 8) (hd1 : 1 ≤ B.1) (hq : pc + 3 = q) (k : Z M B q loc rest n iv rv lv Q) : Z M B pc loc (.ref o :: rest) n iv rv lv Q := by
  subst hq
  intro l p e R s m args below meth c D dA ad0 adV xc xs Qm hC hR ad H locs ls h1 h2 h3 h4 h5 h6 h7
  have hcat2 : ((rest.map (zcv ad)).map fun v => v.category).sum ≤ 8 := by
    rw [List.map_map, show ((fun v : Value => v.category) ∘ zcv ad) = fun v => v.category from funext fun v => zcv_cat ad v]
    exact hcat
  have hw := k l p e R s m args below meth c D dA ad0 adV xc xs Qm hC hR ad H locs ls h1 h2 h3 h4 h5 h6 h7
  obtain ⟨hx, hb, hmlc, hown, hts, hK, hnm, hfr, hroom, hX, hB⟩ := hC
  have hrm := lv_room (m := m) (pc := pc) (ls := ls) (rest := (Value.ref o :: rest).map (zcv ad)) hcat2
  exact W.objInit hx hb hown (hts _ hl) (hts _ zw_obj.1) (hts _ zw_obj.2) (g := F0 m pc ls ((Value.ref o :: rest).map (zcv ad))) (a := ad o) (rest := rest.map (zcv ad)) rfl (h2.1.trans hmlc.symm) rfl hd (by omega) (by omega) hw
