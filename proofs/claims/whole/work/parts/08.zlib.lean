/-! THE ROWS OF Z: members of the library. -/
theorem zw_max : Cond.static Lib.Math.max.name ∈ Wd ∧ Cond.initialized "java/lang/Math" ∈ Wd ∧ Cond.code Lib.Math.max.name Lib.Math.max.code 2 (some .int) ∈ Wd := ⟨zwd 783 (by decide +kernel) (by decide +kernel), zwd 117 (by decide +kernel) (by decide +kernel), zwd 784 (by decide +kernel) (by decide +kernel)⟩
theorem zw_min : Cond.static Lib.Math.min.name ∈ Wd ∧ Cond.initialized "java/lang/Math" ∈ Wd ∧ Cond.code Lib.Math.min.name Lib.Math.min.code 2 (some .int) ∈ Wd := ⟨zwd 545 (by decide +kernel) (by decide +kernel), zwd 117 (by decide +kernel) (by decide +kernel), zwd 546 (by decide +kernel) (by decide +kernel)⟩
theorem zw_cpy : Cond.static arraycopyName ∈ Wd ∧ Cond.native arraycopyName ∈ Wd ∧ Cond.initialized "java/lang/System" ∈ Wd := ⟨zwd 689 (by decide +kernel) (by decide +kernel), zwd 690 (by decide +kernel) (by decide +kernel), zwd 123 (by decide +kernel) (by decide +kernel)⟩
def mBC : zM := (⟨"java/lang/Integer", "bitCount", "(I)I"⟩, prog_18_method_49_code, 1, some .int)
theorem kBC : zMs mBC 1 := ⟨zwd 672 (by decide +kernel) (by decide +kernel), zwd 122 (by decide +kernel) (by decide +kernel), zwd 671 (by decide +kernel) (by decide +kernel), by decide +kernel, by decide +kernel, by decide +kernel, by decide +kernel⟩
theorem Z_max {M : zM} {B : zB} {pc q : Nat} {loc : List (Option Value)} {rest : List Value} {n : Nat} {iv : zI} {rv : zR} {lv : zJ} {Q : zQ} {idx : Nat} {x y : Int32} (hd : decode M.2.1 pc = .ok (.invokestatic idx, 3)) (hl : Cond.methodLink M.1.cls idx Lib.Math.max.name ∈ Wd) (hcat : (rest.map fun v => v.category).sum ≤ 8) (hd1 : 1 ≤ B.1) (hq : pc + 3 = q) (k : Z M B q loc (.int (if x < y then y else x) :: rest) n iv rv lv Q) : Z M B pc loc (.int y :: .int x :: rest) n iv rv lv Q := by
  subst hq
  intro l p e R s m args below meth c D dA ad0 adV xc xs Qm hC hR ad H locs ls h1 h2 h3 h4 h5 h6 h7
  have hcat2 : ((rest.map (zcv ad)).map fun v => v.category).sum ≤ 8 := by
    rw [List.map_map, show ((fun v : Value => v.category) ∘ zcv ad) = fun v => v.category from funext fun v => zcv_cat ad v]
    exact hcat
  have hw := k l p e R s m args below meth c D dA ad0 adV xc xs Qm hC hR ad H locs ls h1 h2 h3 h4 h5 h6 h7
  obtain ⟨hx, hb, hmlc, hown, hts, hK, hnm, hfr, hroom, hX, hB⟩ := hC
  have a1 := zSL_le h7
  have a2 := zSL_le h6
  exact va_mmax hx hb (hmlc.trans h2.1.symm) hown (hts _ hl) (hts _ zw_max.1) (hts _ zw_max.2.1) (hts _ zw_max.2.2) (by omega) (by omega) (by omega) (by omega) hd hw
theorem Z_min {M : zM} {B : zB} {pc q : Nat} {loc : List (Option Value)} {rest : List Value} {n : Nat} {iv : zI} {rv : zR} {lv : zJ} {Q : zQ} {idx : Nat} {x y : Int32} (hd : decode M.2.1 pc = .ok (.invokestatic idx, 3)) (hl : Cond.methodLink M.1.cls idx Lib.Math.min.name ∈ Wd) (hcat : (rest.map fun v => v.category).sum ≤ 8) (hd1 : 1 ≤ B.1) (hq : pc + 3 = q) (k : Z M B q loc (.int (if y < x then y else x) :: rest) n iv rv lv Q) : Z M B pc loc (.int y :: .int x :: rest) n iv rv lv Q := by
  subst hq
  intro l p e R s m args below meth c D dA ad0 adV xc xs Qm hC hR ad H locs ls h1 h2 h3 h4 h5 h6 h7
  have hcat2 : ((rest.map (zcv ad)).map fun v => v.category).sum ≤ 8 := by
    rw [List.map_map, show ((fun v : Value => v.category) ∘ zcv ad) = fun v => v.category from funext fun v => zcv_cat ad v]
    exact hcat
  have hw := k l p e R s m args below meth c D dA ad0 adV xc xs Qm hC hR ad H locs ls h1 h2 h3 h4 h5 h6 h7
  obtain ⟨hx, hb, hmlc, hown, hts, hK, hnm, hfr, hroom, hX, hB⟩ := hC
  have a1 := zSL_le h7
  have a2 := zSL_le h6
  exact va_mmin hx hb (hmlc.trans h2.1.symm) hown (hts _ hl) (hts _ zw_min.1) (hts _ zw_min.2.1) (hts _ zw_min.2.2) (by omega) (by omega) (by omega) (by omega) hd hw
/-- arraycopy over rows of ints -/
theorem Z_copyi {M : zM} {B : zB} {pc q : Nat} {loc : List (Option Value)} {rest : List Value} {n : Nat} {iv : zI} {rv : zR} {lv : zJ} {Q : zQ} {idx a0 a1 n0 n1 : Nat} {sp dp k0 : Int32} (hd : decode M.2.1 pc = .ok (.invokestatic idx, 3)) (hl : Cond.methodLink M.1.cls idx arraycopyName ∈ Wd) (hs0 : zSH a0 = (0, n0)) (ha0 : a0 < n) (hs1 : zSH a1 = (0, n1)) (ha1 : a1 < n) (b1 : ¬ sp < 0) (b2 : ¬ dp < 0) (b3 : ¬ k0 < 0) (b4 : sp.toNatClampNeg + k0.toNatClampNeg ≤ n0) (b5 : dp.toNatClampNeg + k0.toNatClampNeg ≤ n1) (hcat : (rest.map fun v => v.category).sum ≤ 8) (hd1 : 1 ≤ B.1) (hq : pc + 3 = q)
    (k : Z M B q loc rest n (fun a => if a = a1 then va_cpy (iv a0) (iv a1) sp.toNatClampNeg dp.toNatClampNeg k0.toNatClampNeg else iv a) rv lv Q) : Z M B pc loc (.int k0 :: .int dp :: .ref a1 :: .int sp :: .ref a0 :: rest) n iv rv lv Q := by
  subst hq
  intro l p e R s m args below meth c D dA ad0 adV xc xs Qm hC hR ad H locs ls h1 h2 h3 h4 h5 h6 h7
  have hcat2 : ((rest.map (zcv ad)).map fun v => v.category).sum ≤ 8 := by
    rw [List.map_map, show ((fun v : Value => v.category) ∘ zcv ad) = fun v => v.category from funext fun v => zcv_cat ad v]
    exact hcat
  have hw := fun H1 locs1 => k l p e R s m args below meth c D dA ad0 adV xc xs Qm hC hR ad H1 locs1 ls h1 h2
  obtain ⟨hx, hb, hmlc, hown, hts, hK, hnm, hfr, hroom, hX, hB⟩ := hC
  have ew : (zW dA ad n iv rv lv).set a1 (ad a1, .inl (dA 0, n1, .inl (va_cpy (iv a0) (iv a1) sp.toNatClampNeg dp.toNatClampNeg k0.toNatClampNeg))) = zW dA ad n (fun a => if a = a1 then va_cpy (iv a0) (iv a1) sp.toNatClampNeg dp.toNatClampNeg k0.toNatClampNeg else iv a) rv lv := zW_set (by rw [zE_0 hs1]; simp) (fun j hj => zE_i (by simp [hj]))
  have hnf : nativeFrameWords "java/lang/System" "arraycopy" 5 = 7 := by decide +kernel
  exact va_copyi (ty := .int) hx hb (hmlc.trans h2.1.symm) hown (hts _ hl) (hts _ zw_cpy.2.1) (hts _ zw_cpy.1) (hts _ zw_cpy.2.2) hK h3 h4 h5 a0 a1 0 0 ((zW_at ha0).trans (by rw [zE_0 hs0])) ((zW_at ha1).trans (by rw [zE_0 hs1])) rfl rfl rfl b1 b2 b3 b4 b5 (fun _ _ => rfl) (by omega) (by omega) hd (fun H1 locs1 hP hD hS => hw H1 locs1 (ew ▸ hP) (ew ▸ hD) hS h6 h7)
theorem Z_ldcS {M : zM} {B : zB} {pc q : Nat} {loc : List (Option Value)} {rest : List Value} {n : Nat} {iv : zI} {rv : zR} {lv : zJ} {Q : zQ} {idx a : Nat} {tx : String} (hd : decode M.2.1 pc = .ok (.ldc idx, 2)) (hz : ∀ (ad adV : Nat → Nat) (A : Nat → Prop) (U : State) (H : Heap), zX ad adV A U H → vk_R M.1.cls idx tx (ad a) U) (ha : 1000000 ≤ a) (hq : pc + 2 = q) (k : Z M B q loc (.ref a :: rest) n iv rv lv Q) : Z M B pc loc rest n iv rv lv Q := by
  subst hq
  intro l p e R s m args below meth c D dA ad0 adV xc xs Qm hC hR ad H locs ls h1 h2 h3 h4 h5 h6 h7
  have hw := k l p e R s m args below meth c D dA ad0 adV xc xs Qm hC hR ad H locs ls h1 h2 h3 h4 h5 h6 h7
  obtain ⟨hx, hb, hmlc, hown, hts, hK, hnm, hfr, hroom, hX, hB⟩ := hC
  exact va_ldcS hx hb hown (hz ad adV _ s _ (hX.ad (ad' := ad) (fun i hi => h1 i (Or.inr (Nat.le_trans (Nat.le_trans h7 hB.1) hi))))) hd hw
theorem Met.mono {l : Launch} {y : MethodName} {ws : List Cond} {rm : Room} {Pc : Array Value → State → Prop} {Qc Qd : Array Value → State → Outcome → State → Prop} {mc ms : Nat} {free : Addr → Prop} (h : Met l y ws rm Pc Qc mc ms free) (hq : ∀ a s o t, Qc a s o t → Qd a s o t) : Met l y ws rm Pc Qd mc ms free := by
  intro p e ha hc hk s m args below hf h1 h2 h3
  obtain ⟨k, o, a1, a2, a3, a4⟩ := h p e ha hc hk s m args below hf h1 h2 h3
  exact ⟨k, o, a1, a2, a3, hq _ _ _ _ a4.1, a4.2⟩
theorem Mw.mono {M : zM} {d n1 : Nat} {as : List Value} {n : Nat} {iv : zI} {rv : zR} {lv : zJ} {Q Q2 : zQ} (h : Mw M d n1 as n iv rv lv Q) (hq : ∀ r a b c, Q r a b c → Q2 r a b c) : Mw M d n1 as n iv rv lv Q2 := fun l D dA ad adV sz => (h l D dA ad adV sz).mono (fun a st oc t hz => ⟨by
  obtain ⟨r, iv', rv', lv', ad', h1, h2, h3⟩ := hz.1
  exact ⟨r, iv', rv', lv', ad', h1, hq _ _ _ _ h2, h3⟩, hz.2⟩)
theorem Z.mono {M : zM} {B : zB} {pc : Nat} {loc : List (Option Value)} {st : List Value} {n : Nat} {iv : zI} {rv : zR} {lv : zJ} {Q Q2 : zQ} (h : Z M B pc loc st n iv rv lv Q) (hq : ∀ r a b c, Q r a b c → Q2 r a b c) : Z M B pc loc st n iv rv lv Q2 := by
  intro l p e R s m args below meth c D dA ad0 adV xc xs Qm hC hR ad H locs ls h1 h2 h3 h4 h5 h6 h7
  exact h l p e R s m args below meth c D dA ad0 adV xc xs Qm hC (fun yc ys a1 a2 a3 a4 r iv rv lv ad H locs pc ls hQ => hR yc ys a1 a2 a3 a4 r iv rv lv ad H locs pc ls (hq _ _ _ _ hQ)) ad H locs ls h1 h2 h3 h4 h5 h6 h7
/-! CONTRACTS OF METHODS THAT MAKE NOTHING: 200 places before and behind. -/
def Ci (M : zM) (d : Nat) (as : List Value) (iv : zI) (rv : zR) (lv : zJ) (Q : Int32 → zI → zR → zJ → Prop) : Prop := Mw M d 200 as 200 iv rv lv (fun r iv' rv' lv' => ∃ x, r = some (.int x) ∧ Q x iv' rv' lv')
def Cv (M : zM) (d : Nat) (as : List Value) (iv : zI) (rv : zR) (lv : zJ) (Q : zI → zR → zJ → Prop) : Prop := Mw M d 200 as 200 iv rv lv (fun r iv' rv' lv' => r = none ∧ Q iv' rv' lv')
def Cl (M : zM) (d : Nat) (as : List Value) (iv : zI) (rv : zR) (lv : zJ) (Q : Int64 → zI → zR → zJ → Prop) : Prop := Mw M d 200 as 200 iv rv lv (fun r iv' rv' lv' => ∃ x, r = some (.long x) ∧ Q x iv' rv' lv')
def Cr (M : zM) (d : Nat) (as : List Value) (iv : zI) (rv : zR) (lv : zJ) (Q : Nat → zI → zR → zJ → Prop) : Prop := Mw M d 200 as 200 iv rv lv (fun r iv' rv' lv' => ∃ x, r = some (.ref x) ∧ Q x iv' rv' lv')
/-- the judgements within such methods -/
def Zi (M : zM) (d pc : Nat) (loc : List (Option Value)) (st : List Value) (iv : zI) (rv : zR) (lv : zJ) (Q : Int32 → zI → zR → zJ → Prop) : Prop := Z M (d, 200, 200, 0, zK0) pc loc st 200 iv rv lv (fun r iv' rv' lv' => ∃ x, r = some (.int x) ∧ Q x iv' rv' lv')
def Zv (M : zM) (d pc : Nat) (loc : List (Option Value)) (st : List Value) (iv : zI) (rv : zR) (lv : zJ) (Q : zI → zR → zJ → Prop) : Prop := Z M (d, 200, 200, 0, zK0) pc loc st 200 iv rv lv (fun r iv' rv' lv' => r = none ∧ Q iv' rv' lv')
def Zl (M : zM) (d pc : Nat) (loc : List (Option Value)) (st : List Value) (iv : zI) (rv : zR) (lv : zJ) (Q : Int64 → zI → zR → zJ → Prop) : Prop := Z M (d, 200, 200, 0, zK0) pc loc st 200 iv rv lv (fun r iv' rv' lv' => ∃ x, r = some (.long x) ∧ Q x iv' rv' lv')
def Zr (M : zM) (d pc : Nat) (loc : List (Option Value)) (st : List Value) (iv : zI) (rv : zR) (lv : zJ) (Q : Nat → zI → zR → zJ → Prop) : Prop := Z M (d, 200, 200, 0, zK0) pc loc st 200 iv rv lv (fun r iv' rv' lv' => ∃ x, r = some (.ref x) ∧ Q x iv' rv' lv')
theorem Ci.of {M : zM} {d : Nat} {as : List Value} {iv : zI} {rv : zR} {lv : zJ} {Q : Int32 → zI → zR → zJ → Prop} {loc : List (Option Value)} (hp : plainName M.1.cls = true) (hcat : ∀ v ∈ as, v.category = 1) (hlen : as.length ≤ M.2.2.1) (hloc : as.map some ++ List.replicate (M.2.2.1 - as.length) none = loc) (hz : Zi M d 0 loc [] iv rv lv Q) : Ci M d as iv rv lv Q := Mw.of hp hcat hlen hloc (Nat.le_refl _) (by decide) hz
theorem Ci.mono {M : zM} {d : Nat} {as : List Value} {iv : zI} {rv : zR} {lv : zJ} {Q Q2 : Int32 → zI → zR → zJ → Prop} (h : Ci M d as iv rv lv Q) (hq : ∀ x a b c, Q x a b c → Q2 x a b c) : Ci M d as iv rv lv Q2 := Mw.mono h (fun _ _ _ _ ⟨x, e, h⟩ => ⟨x, e, hq _ _ _ _ h⟩)
theorem Cv.of {M : zM} {d : Nat} {as : List Value} {iv : zI} {rv : zR} {lv : zJ} {Q : zI → zR → zJ → Prop} {loc : List (Option Value)} (hp : plainName M.1.cls = true) (hcat : ∀ v ∈ as, v.category = 1) (hlen : as.length ≤ M.2.2.1) (hloc : as.map some ++ List.replicate (M.2.2.1 - as.length) none = loc) (hz : Zv M d 0 loc [] iv rv lv Q) : Cv M d as iv rv lv Q := Mw.of hp hcat hlen hloc (Nat.le_refl _) (by decide) hz
theorem Cv.mono {M : zM} {d : Nat} {as : List Value} {iv : zI} {rv : zR} {lv : zJ} {Q Q2 : zI → zR → zJ → Prop} (h : Cv M d as iv rv lv Q) (hq : ∀ a b c, Q a b c → Q2 a b c) : Cv M d as iv rv lv Q2 := Mw.mono h (fun _ _ _ _ ⟨e, h⟩ => ⟨e, hq _ _ _ h⟩)
theorem Cl.of {M : zM} {d : Nat} {as : List Value} {iv : zI} {rv : zR} {lv : zJ} {Q : Int64 → zI → zR → zJ → Prop} {loc : List (Option Value)} (hp : plainName M.1.cls = true) (hcat : ∀ v ∈ as, v.category = 1) (hlen : as.length ≤ M.2.2.1) (hloc : as.map some ++ List.replicate (M.2.2.1 - as.length) none = loc) (hz : Zl M d 0 loc [] iv rv lv Q) : Cl M d as iv rv lv Q := Mw.of hp hcat hlen hloc (Nat.le_refl _) (by decide) hz
theorem Cl.mono {M : zM} {d : Nat} {as : List Value} {iv : zI} {rv : zR} {lv : zJ} {Q Q2 : Int64 → zI → zR → zJ → Prop} (h : Cl M d as iv rv lv Q) (hq : ∀ x a b c, Q x a b c → Q2 x a b c) : Cl M d as iv rv lv Q2 := Mw.mono h (fun _ _ _ _ ⟨x, e, h⟩ => ⟨x, e, hq _ _ _ _ h⟩)
theorem Cr.of {M : zM} {d : Nat} {as : List Value} {iv : zI} {rv : zR} {lv : zJ} {Q : Nat → zI → zR → zJ → Prop} {loc : List (Option Value)} (hp : plainName M.1.cls = true) (hcat : ∀ v ∈ as, v.category = 1) (hlen : as.length ≤ M.2.2.1) (hloc : as.map some ++ List.replicate (M.2.2.1 - as.length) none = loc) (hz : Zr M d 0 loc [] iv rv lv Q) : Cr M d as iv rv lv Q := Mw.of hp hcat hlen hloc (Nat.le_refl _) (by decide) hz
theorem Cr.mono {M : zM} {d : Nat} {as : List Value} {iv : zI} {rv : zR} {lv : zJ} {Q Q2 : Nat → zI → zR → zJ → Prop} (h : Cr M d as iv rv lv Q) (hq : ∀ x a b c, Q x a b c → Q2 x a b c) : Cr M d as iv rv lv Q2 := Mw.mono h (fun _ _ _ _ ⟨x, e, h⟩ => ⟨x, e, hq _ _ _ _ h⟩)
