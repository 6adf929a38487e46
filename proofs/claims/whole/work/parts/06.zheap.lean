/-! THE ROWS OF Z: the memory. -/
theorem zE_0 {dA : Nat → ClassId} {ad : Nat → Nat} {iv : zI} {rv : zR} {lv : zJ} {i len : Nat} (h : zSH i = (0, len)) : zE dA ad iv rv lv i = .inl (dA 0, len, .inl (iv i)) := by simp [zE, zEk, h]
theorem zE_1 {dA : Nat → ClassId} {ad : Nat → Nat} {iv : zI} {rv : zR} {lv : zJ} {i len : Nat} (h : zSH i = (1, len)) : zE dA ad iv rv lv i = .inl (dA 1, len, .inl (iv i)) := by simp [zE, zEk, h]
theorem zE_2 {dA : Nat → ClassId} {ad : Nat → Nat} {iv : zI} {rv : zR} {lv : zJ} {i len : Nat} (h : zSH i = (2, len)) : zE dA ad iv rv lv i = .inl (dA 2, len, .inl (iv i)) := by simp [zE, zEk, h]
theorem zE_3 {dA : Nat → ClassId} {ad : Nat → Nat} {iv : zI} {rv : zR} {lv : zJ} {i len : Nat} (h : zSH i = (3, len)) : zE dA ad iv rv lv i = .inl (dA 3, len, .inr (.inl (lv i))) := by simp [zE, zEk, h]
theorem zE_q {dA : Nat → ClassId} {ad : Nat → Nat} {iv : zI} {rv : zR} {lv : zJ} {i t len : Nat} (h : zSH i = (t, len)) (a1 : 4 ≤ t) (a2 : t < 20) : zE dA ad iv rv lv i = .inl (dA t, len, .inr (.inr (.inr (.inr (fun j => (rv i j).map ad))))) := by
  have b1 : ¬ t < 3 := by omega
  have b2 : ¬ t = 3 := by omega
  simp [zE, zEk, h, a2, b1, b2]
theorem zE_o {dA : Nat → ClassId} {ad : Nat → Nat} {iv : zI} {rv : zR} {lv : zJ} {i ci N : Nat} (h : zSH i = (ci + 20, N)) : zE dA ad iv rv lv i = .inr (ci, (List.range N).map (fun k => zFv ad iv rv lv i k (zkf (zty ci k)))) := by
  have b1 : ¬ ci + 20 < 3 := by omega
  have b2 : ¬ ci + 20 = 3 := by omega
  have b3 : ¬ ci + 20 < 20 := by omega
  simp [zE, zEk, h, b1, b2, b3]
theorem Z_iald {M : zM} {B : zB} {pc q : Nat} {loc : List (Option Value)} {rest : List Value} {n : Nat} {iv : zI} {rv : zR} {lv : zJ} {Q : zQ} {a len : Nat} {i : Int32} (hd : decode M.2.1 pc = .ok (.iaload, 1)) (hs : zSH a = (0, len)) (ha : a < n) (hin : vp_in i len) (hq : pc + 1 = q) (k : Z M B q loc (.int (iv a i.toNatClampNeg) :: rest) n iv rv lv Q) : Z M B pc loc (.int i :: .ref a :: rest) n iv rv lv Q := by
  subst hq
  intro l p e R s m args below meth c D dA ad0 adV xc xs Qm hC hR ad H locs ls h1 h2 h3 h4 h5 h6 h7
  exact va_iald hC.1 hC.2.1 hC.2.2.2.2.2.1 h3 a 0 ((zW_at ha).trans (by rw [zE_0 hs])) rfl hin hd (k l p e R s m args below meth c D dA ad0 adV xc xs Qm hC hR ad H locs ls h1 h2 h3 h4 h5 h6 h7)
theorem Z_bald {M : zM} {B : zB} {pc q : Nat} {loc : List (Option Value)} {rest : List Value} {n : Nat} {iv : zI} {rv : zR} {lv : zJ} {Q : zQ} {a len : Nat} {i : Int32} (hd : decode M.2.1 pc = .ok (.baload, 1)) (hs : zSH a = (1, len)) (ha : a < n) (hin : vp_in i len) (hq : pc + 1 = q) (k : Z M B q loc (.int (iv a i.toNatClampNeg) :: rest) n iv rv lv Q) : Z M B pc loc (.int i :: .ref a :: rest) n iv rv lv Q := by
  subst hq
  intro l p e R s m args below meth c D dA ad0 adV xc xs Qm hC hR ad H locs ls h1 h2 h3 h4 h5 h6 h7
  exact va_bald hC.1 hC.2.1 hC.2.2.2.2.2.1 h3 a 1 ((zW_at ha).trans (by rw [zE_1 hs])) rfl hin hd (k l p e R s m args below meth c D dA ad0 adV xc xs Qm hC hR ad H locs ls h1 h2 h3 h4 h5 h6 h7)
theorem Z_zald {M : zM} {B : zB} {pc q : Nat} {loc : List (Option Value)} {rest : List Value} {n : Nat} {iv : zI} {rv : zR} {lv : zJ} {Q : zQ} {a len : Nat} {i : Int32} (hd : decode M.2.1 pc = .ok (.baload, 1)) (hs : zSH a = (2, len)) (ha : a < n) (hin : vp_in i len) (hq : pc + 1 = q) (k : Z M B q loc (.int (iv a i.toNatClampNeg) :: rest) n iv rv lv Q) : Z M B pc loc (.int i :: .ref a :: rest) n iv rv lv Q := by
  subst hq
  intro l p e R s m args below meth c D dA ad0 adV xc xs Qm hC hR ad H locs ls h1 h2 h3 h4 h5 h6 h7
  exact va_zald hC.1 hC.2.1 hC.2.2.2.2.2.1 h3 a 2 ((zW_at ha).trans (by rw [zE_2 hs])) rfl hin hd (k l p e R s m args below meth c D dA ad0 adV xc xs Qm hC hR ad H locs ls h1 h2 h3 h4 h5 h6 h7)
theorem Z_lald {M : zM} {B : zB} {pc q : Nat} {loc : List (Option Value)} {rest : List Value} {n : Nat} {iv : zI} {rv : zR} {lv : zJ} {Q : zQ} {a len : Nat} {i : Int32} (hd : decode M.2.1 pc = .ok (.laload, 1)) (hs : zSH a = (3, len)) (ha : a < n) (hin : vp_in i len) (hq : pc + 1 = q) (k : Z M B q loc (.long (lv a i.toNatClampNeg) :: rest) n iv rv lv Q) : Z M B pc loc (.int i :: .ref a :: rest) n iv rv lv Q := by
  subst hq
  intro l p e R s m args below meth c D dA ad0 adV xc xs Qm hC hR ad H locs ls h1 h2 h3 h4 h5 h6 h7
  exact va_lald hC.1 hC.2.1 hC.2.2.2.2.2.1 h3 a 3 ((zW_at ha).trans (by rw [zE_3 hs])) rfl hin hd (k l p e R s m args below meth c D dA ad0 adV xc xs Qm hC hR ad H locs ls h1 h2 h3 h4 h5 h6 h7)
theorem Z_iast {M : zM} {B : zB} {pc q : Nat} {loc : List (Option Value)} {rest : List Value} {n : Nat} {iv : zI} {rv : zR} {lv : zJ} {Q : zQ} {a len : Nat} {i x : Int32} (hd : decode M.2.1 pc = .ok (.iastore, 1)) (hs : zSH a = (0, len)) (ha : a < n) (hin : vp_in i len) (hq : pc + 1 = q) (k : Z M B q loc rest n (zu iv a i.toNatClampNeg x) rv lv Q) : Z M B pc loc (.int x :: .int i :: .ref a :: rest) n iv rv lv Q := by
  subst hq
  intro l p e R s m args below meth c D dA ad0 adV xc xs Qm hC hR ad H locs ls h1 h2 h3 h4 h5 h6 h7
  have ew : (zW dA ad n iv rv lv).set a (ad a, .inl (dA 0, len, .inl (upd (iv a) i.toNatClampNeg x))) = zW dA ad n (zu iv a i.toNatClampNeg x) rv lv := zW_set (by rw [zE_0 hs, zu_upd]) (fun j hj => zE_i (zu_row hj))
  exact va_iast hC.1 hC.2.1 hC.2.2.2.2.2.1 h3 h4 h5 a 0 ((zW_at ha).trans (by rw [zE_0 hs])) rfl hin hd (fun H1 locs1 hP hD hS => k l p e R s m args below meth c D dA ad0 adV xc xs Qm hC hR ad H1 locs1 ls h1 h2 (ew ▸ hP) (ew ▸ hD) hS h6 h7)
theorem Z_bast {M : zM} {B : zB} {pc q : Nat} {loc : List (Option Value)} {rest : List Value} {n : Nat} {iv : zI} {rv : zR} {lv : zJ} {Q : zQ} {a len : Nat} {i x : Int32} (hd : decode M.2.1 pc = .ok (.bastore, 1)) (hs : zSH a = (1, len)) (ha : a < n) (hin : vp_in i len) (hq : pc + 1 = q) (k : Z M B q loc rest n (zu iv a i.toNatClampNeg (vp_nar .byte x)) rv lv Q) : Z M B pc loc (.int x :: .int i :: .ref a :: rest) n iv rv lv Q := by
  subst hq
  intro l p e R s m args below meth c D dA ad0 adV xc xs Qm hC hR ad H locs ls h1 h2 h3 h4 h5 h6 h7
  have ew : (zW dA ad n iv rv lv).set a (ad a, .inl (dA 1, len, .inl (upd (iv a) i.toNatClampNeg (vp_nar .byte x)))) = zW dA ad n (zu iv a i.toNatClampNeg (vp_nar .byte x)) rv lv := zW_set (by rw [zE_1 hs, zu_upd]) (fun j hj => zE_i (zu_row hj))
  exact va_bast hC.1 hC.2.1 hC.2.2.2.2.2.1 h3 h4 h5 a 1 ((zW_at ha).trans (by rw [zE_1 hs])) rfl hin hd (fun H1 locs1 hP hD hS => k l p e R s m args below meth c D dA ad0 adV xc xs Qm hC hR ad H1 locs1 ls h1 h2 (ew ▸ hP) (ew ▸ hD) hS h6 h7)
theorem Z_zast {M : zM} {B : zB} {pc q : Nat} {loc : List (Option Value)} {rest : List Value} {n : Nat} {iv : zI} {rv : zR} {lv : zJ} {Q : zQ} {a len : Nat} {i x : Int32} (hd : decode M.2.1 pc = .ok (.bastore, 1)) (hs : zSH a = (2, len)) (ha : a < n) (hin : vp_in i len) (hq : pc + 1 = q) (k : Z M B q loc rest n (zu iv a i.toNatClampNeg (vp_nar .boolean x)) rv lv Q) : Z M B pc loc (.int x :: .int i :: .ref a :: rest) n iv rv lv Q := by
  subst hq
  intro l p e R s m args below meth c D dA ad0 adV xc xs Qm hC hR ad H locs ls h1 h2 h3 h4 h5 h6 h7
  have ew : (zW dA ad n iv rv lv).set a (ad a, .inl (dA 2, len, .inl (upd (iv a) i.toNatClampNeg (vp_nar .boolean x)))) = zW dA ad n (zu iv a i.toNatClampNeg (vp_nar .boolean x)) rv lv := zW_set (by rw [zE_2 hs, zu_upd]) (fun j hj => zE_i (zu_row hj))
  exact va_zast hC.1 hC.2.1 hC.2.2.2.2.2.1 h3 h4 h5 a 2 ((zW_at ha).trans (by rw [zE_2 hs])) rfl hin hd (fun H1 locs1 hP hD hS => k l p e R s m args below meth c D dA ad0 adV xc xs Qm hC hR ad H1 locs1 ls h1 h2 (ew ▸ hP) (ew ▸ hD) hS h6 h7)
theorem Z_last {M : zM} {B : zB} {pc q : Nat} {loc : List (Option Value)} {rest : List Value} {n : Nat} {iv : zI} {rv : zR} {lv : zJ} {Q : zQ} {a len : Nat} {i : Int32} {x : Int64} (hd : decode M.2.1 pc = .ok (.lastore, 1)) (hs : zSH a = (3, len)) (ha : a < n) (hin : vp_in i len) (hq : pc + 1 = q) (k : Z M B q loc rest n iv rv (zu lv a i.toNatClampNeg x) Q) : Z M B pc loc (.long x :: .int i :: .ref a :: rest) n iv rv lv Q := by
  subst hq
  intro l p e R s m args below meth c D dA ad0 adV xc xs Qm hC hR ad H locs ls h1 h2 h3 h4 h5 h6 h7
  have ew : (zW dA ad n iv rv lv).set a (ad a, .inl (dA 3, len, .inr (.inl (vp_updL (lv a) i.toNatClampNeg x)))) = zW dA ad n iv rv (zu lv a i.toNatClampNeg x) := zW_set (by rw [zE_3 hs, zu_updL]) (fun j hj => zE_l (zu_row hj))
  exact va_last hC.1 hC.2.1 hC.2.2.2.2.2.1 h3 h4 h5 a 3 ((zW_at ha).trans (by rw [zE_3 hs])) rfl hin hd (fun H1 locs1 hP hD hS => k l p e R s m args below meth c D dA ad0 adV xc xs Qm hC hR ad H1 locs1 ls h1 h2 (ew ▸ hP) (ew ▸ hD) hS h6 h7)
theorem Z_aald {M : zM} {B : zB} {pc q : Nat} {loc : List (Option Value)} {rest : List Value} {n : Nat} {iv : zI} {rv : zR} {lv : zJ} {Q : zQ} {a t len r : Nat} {i : Int32} (hd : decode M.2.1 pc = .ok (.aaload, 1)) (hs : zSH a = (t, len)) (ht : 4 ≤ t) (ht2 : t < 8) (ha : a < n) (hin : vp_in i len) (hr : rv a i.toNatClampNeg = some r) (hq : pc + 1 = q) (k : Z M B q loc (.ref r :: rest) n iv rv lv Q) : Z M B pc loc (.int i :: .ref a :: rest) n iv rv lv Q := by
  subst hq
  intro l p e R s m args below meth c D dA ad0 adV xc xs Qm hC hR ad H locs ls h1 h2 h3 h4 h5 h6 h7
  have hat : (zW dA ad n iv rv lv)[a]? = some (ad a, .inl (dA t, len, .inr (.inr (.inr (.inr (fun j => (rv a j).map ad)))))) := (zW_at ha).trans (by rw [zE_q hs ht (by omega)])
  have hlt : i.toNatClampNeg < len := Nat.not_le.mp fun q => hin (Or.inr q)
  have hty : ∃ ty : FieldType, ty.isReference = true ∧ (zTy dA)[t]? = some (dA t, ty) := by
    rcases (show t = 4 ∨ t = 5 ∨ t = 6 ∨ t = 7 by omega) with rfl | rfl | rfl | rfl
    · exact ⟨.object RX9, rfl, rfl⟩
    · exact ⟨.object RX3, rfl, rfl⟩
    · exact ⟨.object RX5, rfl, rfl⟩
    · exact ⟨.array .int, rfl, rfl⟩
  obtain ⟨ty, hty1, hty2⟩ := hty
  have hk := k l p e R s m args below meth c D dA ad0 adV xc xs Qm hC hR ad H locs ls h1 h2 h3 h4 h5 h6 h7
  exact W.aald (v := .ref (ad r)) (ty := ty) hC.1 hC.2.1 (h3 a _ hat) ((hC.2.2.2.2.2.1.2 t _ hty2).1 len (fun j => va_rf ((rv a j).map ad))) hty1 (fun q => by cases q) (by show ¬ (i < 0 ∨ (arrV _ _ _).slots.size ≤ _); rw [arrV_size]; exact hin) (by show (arrV _ _ _).slots[_]? = _; rw [arrV_read _ _ hlt]; show some (va_rf ((rv a i.toNatClampNeg).map ad)) = _; rw [hr]; rfl) rfl rfl hd hk
theorem zF_at {ad : Nat → Nat} {iv : zI} {rv : zR} {lv : zJ} {o ci N k0 : Nat} (hk : k0 < N) : ((List.range N).map (fun k => zFv ad iv rv lv o k (zkf (zty ci k))))[k0]? = some (zFv ad iv rv lv o k0 (zkf (zty ci k0))) := by simp [hk]
theorem zF_set {ad : Nat → Nat} {iv : zI} {rv : zR} {lv : zJ} {iv' : zI} {rv' : zR} {lv' : zJ} {o ci N k0 : Nat} {v : Value} (hk : k0 < N) (hv : zFv ad iv' rv' lv' o k0 (zkf (zty ci k0)) = v) (ho : ∀ k, k ≠ k0 → zFv ad iv' rv' lv' o k (zkf (zty ci k)) = zFv ad iv rv lv o k (zkf (zty ci k))) : ((List.range N).map (fun k => zFv ad iv rv lv o k (zkf (zty ci k)))).set k0 v = (List.range N).map (fun k => zFv ad iv' rv' lv' o k (zkf (zty ci k))) := by
  apply List.ext_getElem?
  intro j
  rw [List.getElem?_set]
  by_cases e : k0 = j
  · subst e
    simp [hk, hv]
  · rw [if_neg e]
    by_cases hj : j < N
    · simp [hj, ho j (fun q => e q.symm)]
    · simp [hj]
theorem Z_getI {M : zM} {B : zB} {pc q : Nat} {loc : List (Option Value)} {rest : List Value} {n : Nat} {iv : zI} {rv : zR} {lv : zJ} {Q : zQ} {idx ci k0 o N : Nat} {C : String} {T : u_T} (hd : decode M.2.1 pc = .ok (.getfield idx, 3)) (hc : vwCl[ci]? = some (C, T, N)) (hin : ∀ w ∈ u_ws C T N, w ∈ Wd) (hk : k0 < N) (hl : Cond.fieldLink M.1.cls idx (T k0).1 (T k0).2.1 (T k0).2.2.1 ∈ Wd) (hs : zSH o = (ci + 20, N)) (ho : o < n) (hkd : zkf (zty ci k0) = 0)  (hq : pc + 3 = q) (k : Z M B q loc (.int (iv o k0) :: rest) n iv rv lv Q) : Z M B pc loc (.ref o :: rest) n iv rv lv Q := by
  subst hq
  intro l p e R s m args below meth c D dA ad0 adV xc xs Qm hC hR ad H locs ls h1 h2 h3 h4 h5 h6 h7
  have hv : zFv ad iv rv lv o k0 (zkf (zty ci k0)) = zcv ad (.int (iv o k0)) := by
    rw [hkd]
    exact (rfl)
  exact va_get (ci := ci) (C := C) (T := T) (N := N) hC.1 hC.2.1 hC.2.2.2.2.1 hin hC.2.2.2.1 hC.2.2.2.2.2.1 h3 o ((zW_at ho).trans (by rw [zE_o hs])) hc k0 hk (hC.2.2.2.2.1 _ hl) (fun _ h9 => h9) ((zF_at hk).trans (congrArg some hv)) hd (k l p e R s m args below meth c D dA ad0 adV xc xs Qm hC hR ad H locs ls h1 h2 h3 h4 h5 h6 h7)
theorem Z_getJ {M : zM} {B : zB} {pc q : Nat} {loc : List (Option Value)} {rest : List Value} {n : Nat} {iv : zI} {rv : zR} {lv : zJ} {Q : zQ} {idx ci k0 o N : Nat} {C : String} {T : u_T} (hd : decode M.2.1 pc = .ok (.getfield idx, 3)) (hc : vwCl[ci]? = some (C, T, N)) (hin : ∀ w ∈ u_ws C T N, w ∈ Wd) (hk : k0 < N) (hl : Cond.fieldLink M.1.cls idx (T k0).1 (T k0).2.1 (T k0).2.2.1 ∈ Wd) (hs : zSH o = (ci + 20, N)) (ho : o < n) (hkd : zkf (zty ci k0) = 1)  (hq : pc + 3 = q) (k : Z M B q loc (.long (lv o k0) :: rest) n iv rv lv Q) : Z M B pc loc (.ref o :: rest) n iv rv lv Q := by
  subst hq
  intro l p e R s m args below meth c D dA ad0 adV xc xs Qm hC hR ad H locs ls h1 h2 h3 h4 h5 h6 h7
  have hv : zFv ad iv rv lv o k0 (zkf (zty ci k0)) = zcv ad (.long (lv o k0)) := by
    rw [hkd]
    exact (rfl)
  exact va_get (ci := ci) (C := C) (T := T) (N := N) hC.1 hC.2.1 hC.2.2.2.2.1 hin hC.2.2.2.1 hC.2.2.2.2.2.1 h3 o ((zW_at ho).trans (by rw [zE_o hs])) hc k0 hk (hC.2.2.2.2.1 _ hl) (fun _ h9 => h9) ((zF_at hk).trans (congrArg some hv)) hd (k l p e R s m args below meth c D dA ad0 adV xc xs Qm hC hR ad H locs ls h1 h2 h3 h4 h5 h6 h7)
theorem Z_getR {M : zM} {B : zB} {pc q : Nat} {loc : List (Option Value)} {rest : List Value} {n : Nat} {iv : zI} {rv : zR} {lv : zJ} {Q : zQ} {idx ci k0 o N : Nat} {C : String} {T : u_T} (hd : decode M.2.1 pc = .ok (.getfield idx, 3)) (hc : vwCl[ci]? = some (C, T, N)) (hin : ∀ w ∈ u_ws C T N, w ∈ Wd) (hk : k0 < N) (hl : Cond.fieldLink M.1.cls idx (T k0).1 (T k0).2.1 (T k0).2.2.1 ∈ Wd) (hs : zSH o = (ci + 20, N)) (ho : o < n) (hkd : zkf (zty ci k0) = 2) {r : Nat} (hr : rv o k0 = some r) (hq : pc + 3 = q) (k : Z M B q loc (.ref r :: rest) n iv rv lv Q) : Z M B pc loc (.ref o :: rest) n iv rv lv Q := by
  subst hq
  intro l p e R s m args below meth c D dA ad0 adV xc xs Qm hC hR ad H locs ls h1 h2 h3 h4 h5 h6 h7
  have hv : zFv ad iv rv lv o k0 (zkf (zty ci k0)) = zcv ad (.ref r) := by
    rw [hkd]
    exact (by show va_rf _ = _; rw [hr]; rfl)
  exact va_get (ci := ci) (C := C) (T := T) (N := N) hC.1 hC.2.1 hC.2.2.2.2.1 hin hC.2.2.2.1 hC.2.2.2.2.2.1 h3 o ((zW_at ho).trans (by rw [zE_o hs])) hc k0 hk (hC.2.2.2.2.1 _ hl) (fun _ h9 => h9) ((zF_at hk).trans (congrArg some hv)) hd (k l p e R s m args below meth c D dA ad0 adV xc xs Qm hC hR ad H locs ls h1 h2 h3 h4 h5 h6 h7)
theorem Z_putI {M : zM} {B : zB} {pc q : Nat} {loc : List (Option Value)} {rest : List Value} {n : Nat} {iv : zI} {rv : zR} {lv : zJ} {Q : zQ} {idx ci k0 o N : Nat} {C : String} {T : u_T} (hd : decode M.2.1 pc = .ok (.putfield idx, 3)) (hc : vwCl[ci]? = some (C, T, N)) (hin : ∀ w ∈ u_ws C T N, w ∈ Wd) (hk : k0 < N) (hl : Cond.fieldLink M.1.cls idx (T k0).1 (T k0).2.1 (T k0).2.2.1 ∈ Wd) (hs : zSH o = (ci + 20, N)) (ho : o < n) (hty : ∀ k, k < N → parseFieldDescriptor (T k).2.2.1 = some (zty ci k)) (hnm : ∀ a, a < N → ∀ b, b < N → a ≠ b → (T a).2.1 ≠ (T b).2.1) (hfin : (T k0).2.2.2 = false) (hkd : zkf (zty ci k0) = 0) {x : Int32} (hfit : ∀ ad : Nat → Nat, fits (zty ci k0) (zcv ad (.int x)) = true) (hnw2 : ∀ ad : Nat → Nat, narrow (zty ci k0) (zcv ad (.int x)) = zcv ad (.int x)) (hq : pc + 3 = q) (k : Z M B q loc rest n (zu iv o k0 x) rv lv Q) : Z M B pc loc (.int x :: .ref o :: rest) n iv rv lv Q := by
  subst hq
  intro l p e R s m args below meth c D dA ad0 adV xc xs Qm hC hR ad H locs ls h1 h2 h3 h4 h5 h6 h7
  have e1 : ((List.range N).map (fun k => zFv ad iv rv lv o k (zkf (zty ci k)))).set k0 (zcv ad (.int x)) = (List.range N).map (fun k => zFv ad (zu iv o k0 x) rv lv o k (zkf (zty ci k))) := zF_set hk (by rw [hkd]; simp [zFv, zu, zcv, va_rf]) (fun j hj => by simp only [zFv, zu, hj, and_false, if_false])
  have ew : (zW dA ad n iv rv lv).set o (ad o, .inr (ci, ((List.range N).map (fun k => zFv ad iv rv lv o k (zkf (zty ci k)))).set k0 (zcv ad (.int x)))) = zW dA ad n (zu iv o k0 x) rv lv := zW_set (by rw [zE_o hs, e1]) (fun j hj => zE_i (zu_row hj))
  exact va_put (ci := ci) (C := C) (T := T) (N := N) (ty := zty ci k0) hC.1 hC.2.1 hC.2.2.2.2.1 hin (zty ci) hty hnm hC.2.2.2.1 hC.2.2.2.2.2.1 h3 h4 h5 o ((zW_at ho).trans (by rw [zE_o hs])) hc k0 hk (hC.2.2.2.2.1 _ hl) (fun _ h9 => h9) hfin (hty k0 hk) (hnw2 ad) (hfit ad) (by simpa using hk) hd (fun H1 locs1 hP hD hS => k l p e R s m args below meth c D dA ad0 adV xc xs Qm hC hR ad H1 locs1 ls h1 h2 (ew ▸ hP) (ew ▸ hD) hS h6 h7)
theorem Z_putJ {M : zM} {B : zB} {pc q : Nat} {loc : List (Option Value)} {rest : List Value} {n : Nat} {iv : zI} {rv : zR} {lv : zJ} {Q : zQ} {idx ci k0 o N : Nat} {C : String} {T : u_T} (hd : decode M.2.1 pc = .ok (.putfield idx, 3)) (hc : vwCl[ci]? = some (C, T, N)) (hin : ∀ w ∈ u_ws C T N, w ∈ Wd) (hk : k0 < N) (hl : Cond.fieldLink M.1.cls idx (T k0).1 (T k0).2.1 (T k0).2.2.1 ∈ Wd) (hs : zSH o = (ci + 20, N)) (ho : o < n) (hty : ∀ k, k < N → parseFieldDescriptor (T k).2.2.1 = some (zty ci k)) (hnm : ∀ a, a < N → ∀ b, b < N → a ≠ b → (T a).2.1 ≠ (T b).2.1) (hfin : (T k0).2.2.2 = false) (hkd : zkf (zty ci k0) = 1) {x : Int64} (hfit : ∀ ad : Nat → Nat, fits (zty ci k0) (zcv ad (.long x)) = true) (hnw2 : ∀ ad : Nat → Nat, narrow (zty ci k0) (zcv ad (.long x)) = zcv ad (.long x)) (hq : pc + 3 = q) (k : Z M B q loc rest n iv rv (zu lv o k0 x) Q) : Z M B pc loc (.long x :: .ref o :: rest) n iv rv lv Q := by
  subst hq
  intro l p e R s m args below meth c D dA ad0 adV xc xs Qm hC hR ad H locs ls h1 h2 h3 h4 h5 h6 h7
  have e1 : ((List.range N).map (fun k => zFv ad iv rv lv o k (zkf (zty ci k)))).set k0 (zcv ad (.long x)) = (List.range N).map (fun k => zFv ad iv rv (zu lv o k0 x) o k (zkf (zty ci k))) := zF_set hk (by rw [hkd]; simp [zFv, zu, zcv, va_rf]) (fun j hj => by simp only [zFv, zu, hj, and_false, if_false])
  have ew : (zW dA ad n iv rv lv).set o (ad o, .inr (ci, ((List.range N).map (fun k => zFv ad iv rv lv o k (zkf (zty ci k)))).set k0 (zcv ad (.long x)))) = zW dA ad n iv rv (zu lv o k0 x) := zW_set (by rw [zE_o hs, e1]) (fun j hj => zE_l (zu_row hj))
  exact va_put (ci := ci) (C := C) (T := T) (N := N) (ty := zty ci k0) hC.1 hC.2.1 hC.2.2.2.2.1 hin (zty ci) hty hnm hC.2.2.2.1 hC.2.2.2.2.2.1 h3 h4 h5 o ((zW_at ho).trans (by rw [zE_o hs])) hc k0 hk (hC.2.2.2.2.1 _ hl) (fun _ h9 => h9) hfin (hty k0 hk) (hnw2 ad) (hfit ad) (by simpa using hk) hd (fun H1 locs1 hP hD hS => k l p e R s m args below meth c D dA ad0 adV xc xs Qm hC hR ad H1 locs1 ls h1 h2 (ew ▸ hP) (ew ▸ hD) hS h6 h7)
theorem Z_putR {M : zM} {B : zB} {pc q : Nat} {loc : List (Option Value)} {rest : List Value} {n : Nat} {iv : zI} {rv : zR} {lv : zJ} {Q : zQ} {idx ci k0 o N : Nat} {C : String} {T : u_T} (hd : decode M.2.1 pc = .ok (.putfield idx, 3)) (hc : vwCl[ci]? = some (C, T, N)) (hin : ∀ w ∈ u_ws C T N, w ∈ Wd) (hk : k0 < N) (hl : Cond.fieldLink M.1.cls idx (T k0).1 (T k0).2.1 (T k0).2.2.1 ∈ Wd) (hs : zSH o = (ci + 20, N)) (ho : o < n) (hty : ∀ k, k < N → parseFieldDescriptor (T k).2.2.1 = some (zty ci k)) (hnm : ∀ a, a < N → ∀ b, b < N → a ≠ b → (T a).2.1 ≠ (T b).2.1) (hfin : (T k0).2.2.2 = false) (hkd : zkf (zty ci k0) = 2) {x : Nat} (hfit : ∀ ad : Nat → Nat, fits (zty ci k0) (zcv ad (.ref x)) = true) (hnw2 : ∀ ad : Nat → Nat, narrow (zty ci k0) (zcv ad (.ref x)) = zcv ad (.ref x)) (hq : pc + 3 = q) (k : Z M B q loc rest n iv (zu rv o k0 (some x)) lv Q) : Z M B pc loc (.ref x :: .ref o :: rest) n iv rv lv Q := by
  subst hq
  intro l p e R s m args below meth c D dA ad0 adV xc xs Qm hC hR ad H locs ls h1 h2 h3 h4 h5 h6 h7
  have e1 : ((List.range N).map (fun k => zFv ad iv rv lv o k (zkf (zty ci k)))).set k0 (zcv ad (.ref x)) = (List.range N).map (fun k => zFv ad iv (zu rv o k0 (some x)) lv o k (zkf (zty ci k))) := zF_set hk (by rw [hkd]; simp [zFv, zu, zcv, va_rf]) (fun j hj => by simp only [zFv, zu, hj, and_false, if_false])
  have ew : (zW dA ad n iv rv lv).set o (ad o, .inr (ci, ((List.range N).map (fun k => zFv ad iv rv lv o k (zkf (zty ci k)))).set k0 (zcv ad (.ref x)))) = zW dA ad n iv (zu rv o k0 (some x)) lv := zW_set (by rw [zE_o hs, e1]) (fun j hj => zE_r (zu_row hj))
  exact va_put (ci := ci) (C := C) (T := T) (N := N) (ty := zty ci k0) hC.1 hC.2.1 hC.2.2.2.2.1 hin (zty ci) hty hnm hC.2.2.2.1 hC.2.2.2.2.2.1 h3 h4 h5 o ((zW_at ho).trans (by rw [zE_o hs])) hc k0 hk (hC.2.2.2.2.1 _ hl) (fun _ h9 => h9) hfin (hty k0 hk) (hnw2 ad) (hfit ad) (by simpa using hk) hd (fun H1 locs1 hP hD hS => k l p e R s m args below meth c D dA ad0 adV xc xs Qm hC hR ad H1 locs1 ls h1 h2 (ew ▸ hP) (ew ▸ hD) hS h6 h7)
theorem Z_putIF {M : zM} {B : zB} {pc q : Nat} {loc : List (Option Value)} {rest : List Value} {n : Nat} {iv : zI} {rv : zR} {lv : zJ} {Q : zQ} {idx ci k0 o N : Nat} {C : String} {T : u_T} (hd : decode M.2.1 pc = .ok (.putfield idx, 3)) (hc : vwCl[ci]? = some (C, T, N)) (hin : ∀ w ∈ u_ws C T N, w ∈ Wd) (hk : k0 < N) (hl : Cond.fieldLink M.1.cls idx (T k0).1 (T k0).2.1 (T k0).2.2.1 ∈ Wd) (hs : zSH o = (ci + 20, N)) (ho : o < n) (hty : ∀ k, k < N → parseFieldDescriptor (T k).2.2.1 = some (zty ci k)) (hnm : ∀ a, a < N → ∀ b, b < N → a ≠ b → (T a).2.1 ≠ (T b).2.1) (hfin : (T k0).2.2.2 = true) (hini : M.1.name = "<init>") (hdecl : (T k0).1 = M.1.cls) (hkd : zkf (zty ci k0) = 0) {x : Int32} (hfit : ∀ ad : Nat → Nat, fits (zty ci k0) (zcv ad (.int x)) = true) (hnw2 : ∀ ad : Nat → Nat, narrow (zty ci k0) (zcv ad (.int x)) = zcv ad (.int x)) (hq : pc + 3 = q) (k : Z M B q loc rest n (zu iv o k0 x) rv lv Q) : Z M B pc loc (.int x :: .ref o :: rest) n iv rv lv Q := by
  subst hq
  intro l p e R s m args below meth c D dA ad0 adV xc xs Qm hC hR ad H locs ls h1 h2 h3 h4 h5 h6 h7
  have e1 : ((List.range N).map (fun k => zFv ad iv rv lv o k (zkf (zty ci k)))).set k0 (zcv ad (.int x)) = (List.range N).map (fun k => zFv ad (zu iv o k0 x) rv lv o k (zkf (zty ci k))) := zF_set hk (by rw [hkd]; simp [zFv, zu, zcv, va_rf]) (fun j hj => by simp only [zFv, zu, hj, and_false, if_false])
  have ew : (zW dA ad n iv rv lv).set o (ad o, .inr (ci, ((List.range N).map (fun k => zFv ad iv rv lv o k (zkf (zty ci k)))).set k0 (zcv ad (.int x)))) = zW dA ad n (zu iv o k0 x) rv lv := zW_set (by rw [zE_o hs, e1]) (fun j hj => zE_i (zu_row hj))
  exact va_putF (ci := ci) (C := C) (T := T) (N := N) (ty := zty ci k0) hC.1 hC.2.1 hC.2.2.2.2.1 hin (zty ci) hty hnm hC.2.2.2.1 hC.2.2.2.2.2.1 h3 h4 h5 o ((zW_at ho).trans (by rw [zE_o hs])) hc k0 hk (hC.2.2.2.2.1 _ hl) (fun _ h9 => h9) hfin (hC.2.2.2.2.2.2.1.trans hini) hdecl (hty k0 hk) (hnw2 ad) (hfit ad) (by simpa using hk) hd (fun H1 locs1 hP hD hS => k l p e R s m args below meth c D dA ad0 adV xc xs Qm hC hR ad H1 locs1 ls h1 h2 (ew ▸ hP) (ew ▸ hD) hS h6 h7)
theorem Z_putRF {M : zM} {B : zB} {pc q : Nat} {loc : List (Option Value)} {rest : List Value} {n : Nat} {iv : zI} {rv : zR} {lv : zJ} {Q : zQ} {idx ci k0 o N : Nat} {C : String} {T : u_T} (hd : decode M.2.1 pc = .ok (.putfield idx, 3)) (hc : vwCl[ci]? = some (C, T, N)) (hin : ∀ w ∈ u_ws C T N, w ∈ Wd) (hk : k0 < N) (hl : Cond.fieldLink M.1.cls idx (T k0).1 (T k0).2.1 (T k0).2.2.1 ∈ Wd) (hs : zSH o = (ci + 20, N)) (ho : o < n) (hty : ∀ k, k < N → parseFieldDescriptor (T k).2.2.1 = some (zty ci k)) (hnm : ∀ a, a < N → ∀ b, b < N → a ≠ b → (T a).2.1 ≠ (T b).2.1) (hfin : (T k0).2.2.2 = true) (hini : M.1.name = "<init>") (hdecl : (T k0).1 = M.1.cls) (hkd : zkf (zty ci k0) = 2) {x : Nat} (hfit : ∀ ad : Nat → Nat, fits (zty ci k0) (zcv ad (.ref x)) = true) (hnw2 : ∀ ad : Nat → Nat, narrow (zty ci k0) (zcv ad (.ref x)) = zcv ad (.ref x)) (hq : pc + 3 = q) (k : Z M B q loc rest n iv (zu rv o k0 (some x)) lv Q) : Z M B pc loc (.ref x :: .ref o :: rest) n iv rv lv Q := by
  subst hq
  intro l p e R s m args below meth c D dA ad0 adV xc xs Qm hC hR ad H locs ls h1 h2 h3 h4 h5 h6 h7
  have e1 : ((List.range N).map (fun k => zFv ad iv rv lv o k (zkf (zty ci k)))).set k0 (zcv ad (.ref x)) = (List.range N).map (fun k => zFv ad iv (zu rv o k0 (some x)) lv o k (zkf (zty ci k))) := zF_set hk (by rw [hkd]; simp [zFv, zu, zcv, va_rf]) (fun j hj => by simp only [zFv, zu, hj, and_false, if_false])
  have ew : (zW dA ad n iv rv lv).set o (ad o, .inr (ci, ((List.range N).map (fun k => zFv ad iv rv lv o k (zkf (zty ci k)))).set k0 (zcv ad (.ref x)))) = zW dA ad n iv (zu rv o k0 (some x)) lv := zW_set (by rw [zE_o hs, e1]) (fun j hj => zE_r (zu_row hj))
  exact va_putF (ci := ci) (C := C) (T := T) (N := N) (ty := zty ci k0) hC.1 hC.2.1 hC.2.2.2.2.1 hin (zty ci) hty hnm hC.2.2.2.1 hC.2.2.2.2.2.1 h3 h4 h5 o ((zW_at ho).trans (by rw [zE_o hs])) hc k0 hk (hC.2.2.2.2.1 _ hl) (fun _ h9 => h9) hfin (hC.2.2.2.2.2.2.1.trans hini) hdecl (hty k0 hk) (hnw2 ad) (hfit ad) (by simpa using hk) hd (fun H1 locs1 hP hD hS => k l p e R s m args below meth c D dA ad0 adV xc xs Qm hC hR ad H1 locs1 ls h1 h2 (ew ▸ hP) (ew ▸ hD) hS h6 h7)
