/-! THE ROWS OF Z: an instruction a row, out of the kit's rows. -/
theorem Z.pure {M : zM} {B : zB} {pc pc2 : Nat} {loc : List (Option Value)} {st st2 : List Value} {n : Nat} {iv : zI} {rv : zR} {lv : zJ} {Q : zQ}
    (h : ∀ {p : Program} {l : Launch} {e : Env} {R : Room} {s : State} {m : MethodId} {args : Array Value} {below : List Frame} {meth : Method} {c : Code} {H : Heap} {locs : List Loc} {cells slots : Nat} {Qm : State → Prop} {ls : Array Slot} {ad : Nat → Nat}, p.tables.exec = Jvm.exec → c.code = M.2.1 → zL ls M.2.2.1 ad loc → W p l e R s m args below meth c H locs cells slots Qm (F0 m pc2 ls (st2.map (zcv ad))) → W p l e R s m args below meth c H locs cells slots Qm (F0 m pc ls (st.map (zcv ad))))
    (k : Z M B pc2 loc st2 n iv rv lv Q) : Z M B pc loc st n iv rv lv Q := by
  intro l p e R s m args below meth c D dA ad0 adV xc xs Qm hC hR ad H locs ls h1 h2 h3 h4 h5 h6 h7
  exact h hC.1 hC.2.1 h2 (k l p e R s m args below meth c D dA ad0 adV xc xs Qm hC hR ad H locs ls h1 h2 h3 h4 h5 h6 h7)
def zlk (loc : List (Option Value)) (i : Nat) : Bool := match i with
  | 0 => true
  | j + 1 => match loc[j]? with
    | some (some v) => v.category == 1
    | _ => true
def zlv (ad : Nat → Nat) (loc : List (Option Value)) : List (Nat × Value) := (List.range loc.length).filterMap (fun j => match loc[j]? with
    | some (some v) => some (j, zcv ad v)
    | _ => none)
theorem zlv_mem {ad : Nat → Nat} {loc : List (Option Value)} {q : Nat × Value} (h : q ∈ zlv ad loc) : ∃ v, loc[q.1]? = some (some v) ∧ q.2 = zcv ad v := by
  obtain ⟨j, -, hj⟩ := List.mem_filterMap.mp h
  split at hj
  · next v hv =>
    cases hj
    exact ⟨v, hv, rfl⟩
  · cases hj
theorem zlv_in {ad : Nat → Nat} {loc : List (Option Value)} {j : Nat} {v : Value} (h : loc[j]? = some (some v)) : (j, zcv ad v) ∈ zlv ad loc := by
  refine List.mem_filterMap.mpr ⟨j, List.mem_range.mpr (List.getElem?_eq_some_iff.mp h).1, ?_⟩
  rw [h]
theorem zL.has {ls : Array Slot} {nL : Nat} {ad : Nat → Nat} {loc : List (Option Value)} (h : zL ls nL ad loc) : lv_has ls nL (zlv ad loc) := ⟨h.1, h.2.1, fun q hq => by
  obtain ⟨v, hv, e⟩ := zlv_mem hq
  rw [e]
  exact h.2.2 _ _ hv⟩
theorem zcv_cat (ad : Nat → Nat) (v : Value) : (zcv ad v).category = v.category := by cases v <;> rfl
theorem zL.set1 {ls' : Array Slot} {nL i : Nat} {ad : Nat → Nat} {loc : List (Option Value)} {v w : Value} (hw : w = zcv ad v) (h : lv_has ls' nL ((i, w) :: (zlv ad loc).filter (fun q => !(q.1 == i) && !(q.1 + 1 == i && q.2.category == 2)))) (hok : zlk loc i = true) : zL ls' nL ad (loc.set i (some v)) := by
  refine ⟨h.1, h.2.1, fun j u hj => ?_⟩
  rw [List.getElem?_set] at hj
  by_cases e : i = j
  · subst e
    rw [if_pos rfl] at hj
    split at hj
    · cases hj
      rw [← hw]
      exact h.2.2 _ List.mem_cons_self
    · cases hj
  · rw [if_neg e] at hj
    refine h.2.2 (j, zcv ad u) (List.mem_cons_of_mem _ (List.mem_filter.mpr ⟨zlv_in hj, ?_⟩))
    have e1 : (j == i) = false := by simpa using fun q : j = i => e q.symm
    rw [e1]
    by_cases e2 : j + 1 = i
    · subst e2
      have hu : (u.category == 1) = true := by
        have := hok
        simp only [zlk, hj] at this
        exact this
      have hu2 : u.category = 1 := by simpa using hu
      simp [zcv_cat, hu2]
    · simp [e2]
theorem zL.set2 {ls' : Array Slot} {nL i : Nat} {ad : Nat → Nat} {loc : List (Option Value)} {v w : Value} (hw : w = zcv ad v) (h : lv_has ls' nL ((i, w) :: (zlv ad loc).filter (fun q => !(q.1 == i) && (!(q.1 == i + 1) && !(q.1 + 1 == i && q.2.category == 2))))) (hok : zlk loc i = true) : zL ls' nL ad ((loc.set i (some v)).set (i + 1) none) := by
  refine ⟨h.1, h.2.1, fun j u hj => ?_⟩
  rw [List.getElem?_set] at hj
  by_cases e0 : i + 1 = j
  · rw [if_pos e0] at hj
    split at hj <;> cases hj
  rw [if_neg e0, List.getElem?_set] at hj
  by_cases e : i = j
  · subst e
    rw [if_pos rfl] at hj
    split at hj
    · cases hj
      rw [← hw]
      exact h.2.2 _ List.mem_cons_self
    · cases hj
  · rw [if_neg e] at hj
    refine h.2.2 (j, zcv ad u) (List.mem_cons_of_mem _ (List.mem_filter.mpr ⟨zlv_in hj, ?_⟩))
    have e1 : (j == i) = false := by simpa using fun q : j = i => e q.symm
    have e3 : (j == i + 1) = false := by simpa using fun q : j = i + 1 => e0 q.symm
    rw [e1]
    by_cases e2 : j + 1 = i
    · subst e2
      have hu : (u.category == 1) = true := by
        have := hok
        simp only [zlk, hj] at this
        exact this
      have hu2 : u.category = 1 := by simpa using hu
      simp [zcv_cat, hu2]
      omega
    · simp [e2]
      omega
theorem Z_iconst {M : zM} {B : zB} {pc q : Nat} {loc : List (Option Value)} {rest : List Value} {n : Nat} {iv : zI} {rv : zR} {lv : zJ} {Q : zQ} {a : Int} {v : Int32} (hd : decode M.2.1 pc = .ok (.iconst a, 1)) (hv : Int32.ofInt a = v) (hq : pc + 1 = q) (k : Z M B q loc (.int v :: rest) n iv rv lv Q) : Z M B pc loc rest n iv rv lv Q := by
  subst hq
  exact Z.pure (st := rest) (st2 := .int v :: rest) (fun hx hb _ k => lv_iconst hx hb hd hv k) k
theorem Z_bipush {M : zM} {B : zB} {pc q : Nat} {loc : List (Option Value)} {rest : List Value} {n : Nat} {iv : zI} {rv : zR} {lv : zJ} {Q : zQ} {a : Int} {v : Int32} (hd : decode M.2.1 pc = .ok (.bipush a, 2)) (hv : (Int8.ofInt a).toInt32 = v) (hq : pc + 2 = q) (k : Z M B q loc (.int v :: rest) n iv rv lv Q) : Z M B pc loc rest n iv rv lv Q := by
  subst hq
  exact Z.pure (st := rest) (st2 := .int v :: rest) (fun hx hb _ k => lv_bipush hx hb hd hv k) k
theorem Z_sipush {M : zM} {B : zB} {pc q : Nat} {loc : List (Option Value)} {rest : List Value} {n : Nat} {iv : zI} {rv : zR} {lv : zJ} {Q : zQ} {a : Int} {v : Int32} (hd : decode M.2.1 pc = .ok (.sipush a, 3)) (hv : (Int16.ofInt a).toInt32 = v) (hq : pc + 3 = q) (k : Z M B q loc (.int v :: rest) n iv rv lv Q) : Z M B pc loc rest n iv rv lv Q := by
  subst hq
  exact Z.pure (st := rest) (st2 := .int v :: rest) (fun hx hb _ k => lv_sipush hx hb hd hv k) k
theorem Z_lconst {M : zM} {B : zB} {pc q : Nat} {loc : List (Option Value)} {rest : List Value} {n : Nat} {iv : zI} {rv : zR} {lv : zJ} {Q : zQ} {a : Fin 2} {v : Int64} (hd : decode M.2.1 pc = .ok (.lconst a, 1)) (hv : Int64.ofNat a.val = v) (hq : pc + 1 = q) (k : Z M B q loc (.long v :: rest) n iv rv lv Q) : Z M B pc loc rest n iv rv lv Q := by
  subst hq
  exact Z.pure (st := rest) (st2 := .long v :: rest) (fun hx hb _ k => lv_lconst hx hb hd hv k) k
theorem Z_iload_n {M : zM} {B : zB} {pc q : Nat} {loc : List (Option Value)} {rest : List Value} {n : Nat} {iv : zI} {rv : zR} {lv : zJ} {Q : zQ} {a : Fin 4} {x : Int32} (hd : decode M.2.1 pc = .ok (.iload_n a, 1)) (hl : loc[a.val]? = some (some (.int x))) (hq : pc + 1 = q) (k : Z M B q loc (.int x :: rest) n iv rv lv Q) : Z M B pc loc rest n iv rv lv Q := by
  subst hq
  exact Z.pure (st := rest) (st2 := .int x :: rest) (fun hx hb hz k => lv_iload_n hx hb hd rfl (hz.2.2 _ _ hl) k) k
theorem Z_aload_n {M : zM} {B : zB} {pc q : Nat} {loc : List (Option Value)} {rest : List Value} {n : Nat} {iv : zI} {rv : zR} {lv : zJ} {Q : zQ} {a : Fin 4} {x : Nat} (hd : decode M.2.1 pc = .ok (.aload_n a, 1)) (hl : loc[a.val]? = some (some (.ref x))) (hq : pc + 1 = q) (k : Z M B q loc (.ref x :: rest) n iv rv lv Q) : Z M B pc loc rest n iv rv lv Q := by
  subst hq
  exact Z.pure (st := rest) (st2 := .ref x :: rest) (fun hx hb hz k => lv_aload_n hx hb hd rfl (hz.2.2 _ _ hl) k) k
theorem Z_lload_n {M : zM} {B : zB} {pc q : Nat} {loc : List (Option Value)} {rest : List Value} {n : Nat} {iv : zI} {rv : zR} {lv : zJ} {Q : zQ} {a : Fin 4} {x : Int64} (hd : decode M.2.1 pc = .ok (.lload_n a, 1)) (hl : loc[a.val]? = some (some (.long x))) (hq : pc + 1 = q) (k : Z M B q loc (.long x :: rest) n iv rv lv Q) : Z M B pc loc rest n iv rv lv Q := by
  subst hq
  exact Z.pure (st := rest) (st2 := .long x :: rest) (fun hx hb hz k => lv_lload_n hx hb hd rfl (hz.2.2 _ _ hl) k) k
theorem Z_iload {M : zM} {B : zB} {pc q : Nat} {loc : List (Option Value)} {rest : List Value} {n : Nat} {iv : zI} {rv : zR} {lv : zJ} {Q : zQ} {a : Nat} {x : Int32} (hd : decode M.2.1 pc = .ok (.iload a, 2)) (hl : loc[a]? = some (some (.int x))) (hq : pc + 2 = q) (k : Z M B q loc (.int x :: rest) n iv rv lv Q) : Z M B pc loc rest n iv rv lv Q := by
  subst hq
  exact Z.pure (st := rest) (st2 := .int x :: rest) (fun hx hb hz k => lv_iload hx hb hd (hz.2.2 _ _ hl) k) k
theorem Z_aload {M : zM} {B : zB} {pc q : Nat} {loc : List (Option Value)} {rest : List Value} {n : Nat} {iv : zI} {rv : zR} {lv : zJ} {Q : zQ} {a : Nat} {x : Nat} (hd : decode M.2.1 pc = .ok (.aload a, 2)) (hl : loc[a]? = some (some (.ref x))) (hq : pc + 2 = q) (k : Z M B q loc (.ref x :: rest) n iv rv lv Q) : Z M B pc loc rest n iv rv lv Q := by
  subst hq
  exact Z.pure (st := rest) (st2 := .ref x :: rest) (fun hx hb hz k => lv_aload hx hb hd (hz.2.2 _ _ hl) k) k
theorem Z_istore_n {M : zM} {B : zB} {pc q : Nat} {loc : List (Option Value)} {rest : List Value} {n : Nat} {iv : zI} {rv : zR} {lv : zJ} {Q : zQ} {a : Fin 4} {x : Int32} {loc2 : List (Option Value)} (hd : decode M.2.1 pc = .ok (.istore_n a, 1)) (hi : a.val < M.2.2.1) (hok : zlk loc a.val = true) (hl : loc.set a.val (some (.int x)) = loc2) (hq : pc + 1 = q) (k : Z M B q loc2 rest n iv rv lv Q) : Z M B pc loc (.int x :: rest) n iv rv lv Q := by
  subst hq
  subst hl
  intro l p e R s m args below meth c D dA ad0 adV xc xs Qm hC hR ad H locs ls h1 h2 h3 h4 h5 h6 h7
  exact lv_istore_n hC.1 hC.2.1 hd rfl h2.has hi rfl (fun ls' hl' => k l p e R s m args below meth c D dA ad0 adV xc xs Qm hC hR ad H locs ls' h1 (zL.set1 (v := .int x) rfl hl' hok) h3 h4 h5 h6 h7)
theorem Z_istore {M : zM} {B : zB} {pc q : Nat} {loc : List (Option Value)} {rest : List Value} {n : Nat} {iv : zI} {rv : zR} {lv : zJ} {Q : zQ} {a : Nat} {x : Int32} {loc2 : List (Option Value)} (hd : decode M.2.1 pc = .ok (.istore a, 2)) (hi : a < M.2.2.1) (hok : zlk loc a = true) (hl : loc.set a (some (.int x)) = loc2) (hq : pc + 2 = q) (k : Z M B q loc2 rest n iv rv lv Q) : Z M B pc loc (.int x :: rest) n iv rv lv Q := by
  subst hq
  subst hl
  intro l p e R s m args below meth c D dA ad0 adV xc xs Qm hC hR ad H locs ls h1 h2 h3 h4 h5 h6 h7
  exact lv_istore hC.1 hC.2.1 hd h2.has hi rfl (fun ls' hl' => k l p e R s m args below meth c D dA ad0 adV xc xs Qm hC hR ad H locs ls' h1 (zL.set1 (v := .int x) rfl hl' hok) h3 h4 h5 h6 h7)
theorem Z_astore_n {M : zM} {B : zB} {pc q : Nat} {loc : List (Option Value)} {rest : List Value} {n : Nat} {iv : zI} {rv : zR} {lv : zJ} {Q : zQ} {a : Fin 4} {x : Nat} {loc2 : List (Option Value)} (hd : decode M.2.1 pc = .ok (.astore_n a, 1)) (hi : a.val < M.2.2.1) (hok : zlk loc a.val = true) (hl : loc.set a.val (some (.ref x)) = loc2) (hq : pc + 1 = q) (k : Z M B q loc2 rest n iv rv lv Q) : Z M B pc loc (.ref x :: rest) n iv rv lv Q := by
  subst hq
  subst hl
  intro l p e R s m args below meth c D dA ad0 adV xc xs Qm hC hR ad H locs ls h1 h2 h3 h4 h5 h6 h7
  exact lv_astore_n hC.1 hC.2.1 hd rfl h2.has hi rfl (fun ls' hl' => k l p e R s m args below meth c D dA ad0 adV xc xs Qm hC hR ad H locs ls' h1 (zL.set1 (v := .ref x) rfl hl' hok) h3 h4 h5 h6 h7)
theorem Z_astore {M : zM} {B : zB} {pc q : Nat} {loc : List (Option Value)} {rest : List Value} {n : Nat} {iv : zI} {rv : zR} {lv : zJ} {Q : zQ} {a : Nat} {x : Nat} {loc2 : List (Option Value)} (hd : decode M.2.1 pc = .ok (.astore a, 2)) (hi : a < M.2.2.1) (hok : zlk loc a = true) (hl : loc.set a (some (.ref x)) = loc2) (hq : pc + 2 = q) (k : Z M B q loc2 rest n iv rv lv Q) : Z M B pc loc (.ref x :: rest) n iv rv lv Q := by
  subst hq
  subst hl
  intro l p e R s m args below meth c D dA ad0 adV xc xs Qm hC hR ad H locs ls h1 h2 h3 h4 h5 h6 h7
  exact lv_astore hC.1 hC.2.1 hd h2.has hi rfl (fun ls' hl' => k l p e R s m args below meth c D dA ad0 adV xc xs Qm hC hR ad H locs ls' h1 (zL.set1 (v := .ref x) rfl hl' hok) h3 h4 h5 h6 h7)
theorem Z_lstore_n {M : zM} {B : zB} {pc q : Nat} {loc : List (Option Value)} {rest : List Value} {n : Nat} {iv : zI} {rv : zR} {lv : zJ} {Q : zQ} {a : Fin 4} {x : Int64} {loc2 : List (Option Value)} (hd : decode M.2.1 pc = .ok (.lstore_n a, 1)) (hi : a.val + 1 < M.2.2.1) (hok : zlk loc a.val = true) (hl : (loc.set a.val (some (.long x))).set (a.val + 1) none = loc2) (hq : pc + 1 = q) (k : Z M B q loc2 rest n iv rv lv Q) : Z M B pc loc (.long x :: rest) n iv rv lv Q := by
  subst hq
  subst hl
  intro l p e R s m args below meth c D dA ad0 adV xc xs Qm hC hR ad H locs ls h1 h2 h3 h4 h5 h6 h7
  exact lv_lstore_n hC.1 hC.2.1 hd rfl h2.has hi rfl (fun ls' hl' => k l p e R s m args below meth c D dA ad0 adV xc xs Qm hC hR ad H locs ls' h1 (zL.set2 (v := .long x) rfl hl' hok) h3 h4 h5 h6 h7)
theorem Z_iinc {M : zM} {B : zB} {pc q : Nat} {loc : List (Option Value)} {rest : List Value} {n : Nat} {iv : zI} {rv : zR} {lv : zJ} {Q : zQ} {a : Nat} {b : Int} {x v : Int32} {loc2 : List (Option Value)} (hd : decode M.2.1 pc = .ok (.iinc a b, 3)) (hx : loc[a]? = some (some (.int x))) (hv : x + Int32.ofInt b = v) (hi : a < M.2.2.1) (hok : zlk loc a = true) (hl : loc.set a (some (.int v)) = loc2) (hq : pc + 3 = q) (k : Z M B q loc2 rest n iv rv lv Q) : Z M B pc loc rest n iv rv lv Q := by
  subst hq
  subst hl
  intro l p e R s m args below meth c D dA ad0 adV xc xs Qm hC hR ad H locs ls h1 h2 h3 h4 h5 h6 h7
  obtain ⟨k0, hk0⟩ := List.getElem?_of_mem (zlv_in (ad := ad) hx)
  exact lv_iinc hC.1 hC.2.1 hd h2.has hk0 hv hi rfl (fun ls' hl' => k l p e R s m args below meth c D dA ad0 adV xc xs Qm hC hR ad H locs ls' h1 (zL.set1 (v := .int v) rfl hl' hok) h3 h4 h5 h6 h7)
theorem Z_iadd {M : zM} {B : zB} {pc q : Nat} {loc : List (Option Value)} {rest : List Value} {n : Nat} {iv : zI} {rv : zR} {lv : zJ} {Q : zQ} {x y : Int32} (hd : decode M.2.1 pc = .ok (.iadd, 1)) (hq : pc + 1 = q) (k : Z M B q loc (.int (x + y) :: rest) n iv rv lv Q) : Z M B pc loc (.int y :: .int x :: rest) n iv rv lv Q := by
  subst hq
  exact Z.pure (fun hx hb _ k => lv_iadd hx hb hd k) k
theorem Z_isub {M : zM} {B : zB} {pc q : Nat} {loc : List (Option Value)} {rest : List Value} {n : Nat} {iv : zI} {rv : zR} {lv : zJ} {Q : zQ} {x y : Int32} (hd : decode M.2.1 pc = .ok (.isub, 1)) (hq : pc + 1 = q) (k : Z M B q loc (.int (x - y) :: rest) n iv rv lv Q) : Z M B pc loc (.int y :: .int x :: rest) n iv rv lv Q := by
  subst hq
  exact Z.pure (fun hx hb _ k => lv_isub hx hb hd k) k
theorem Z_imul {M : zM} {B : zB} {pc q : Nat} {loc : List (Option Value)} {rest : List Value} {n : Nat} {iv : zI} {rv : zR} {lv : zJ} {Q : zQ} {x y : Int32} (hd : decode M.2.1 pc = .ok (.imul, 1)) (hq : pc + 1 = q) (k : Z M B q loc (.int (x * y) :: rest) n iv rv lv Q) : Z M B pc loc (.int y :: .int x :: rest) n iv rv lv Q := by
  subst hq
  exact Z.pure (fun hx hb _ k => lv_imul hx hb hd k) k
theorem Z_iand {M : zM} {B : zB} {pc q : Nat} {loc : List (Option Value)} {rest : List Value} {n : Nat} {iv : zI} {rv : zR} {lv : zJ} {Q : zQ} {x y : Int32} (hd : decode M.2.1 pc = .ok (.iand, 1)) (hq : pc + 1 = q) (k : Z M B q loc (.int (x &&& y) :: rest) n iv rv lv Q) : Z M B pc loc (.int y :: .int x :: rest) n iv rv lv Q := by
  subst hq
  exact Z.pure (fun hx hb _ k => lv_iand hx hb hd k) k
theorem Z_ior {M : zM} {B : zB} {pc q : Nat} {loc : List (Option Value)} {rest : List Value} {n : Nat} {iv : zI} {rv : zR} {lv : zJ} {Q : zQ} {x y : Int32} (hd : decode M.2.1 pc = .ok (.ior, 1)) (hq : pc + 1 = q) (k : Z M B q loc (.int (x ||| y) :: rest) n iv rv lv Q) : Z M B pc loc (.int y :: .int x :: rest) n iv rv lv Q := by
  subst hq
  exact Z.pure (fun hx hb _ k => lv_ior hx hb hd k) k
theorem Z_ixor {M : zM} {B : zB} {pc q : Nat} {loc : List (Option Value)} {rest : List Value} {n : Nat} {iv : zI} {rv : zR} {lv : zJ} {Q : zQ} {x y : Int32} (hd : decode M.2.1 pc = .ok (.ixor, 1)) (hq : pc + 1 = q) (k : Z M B q loc (.int (x ^^^ y) :: rest) n iv rv lv Q) : Z M B pc loc (.int y :: .int x :: rest) n iv rv lv Q := by
  subst hq
  exact Z.pure (fun hx hb _ k => lv_ixor hx hb hd k) k
theorem Z_ishl {M : zM} {B : zB} {pc q : Nat} {loc : List (Option Value)} {rest : List Value} {n : Nat} {iv : zI} {rv : zR} {lv : zJ} {Q : zQ} {x y : Int32} (hd : decode M.2.1 pc = .ok (.ishl, 1)) (hq : pc + 1 = q) (k : Z M B q loc (.int (x <<< (y &&& 31)) :: rest) n iv rv lv Q) : Z M B pc loc (.int y :: .int x :: rest) n iv rv lv Q := by
  subst hq
  exact Z.pure (fun hx hb _ k => lv_ishl hx hb hd k) k
theorem Z_ishr {M : zM} {B : zB} {pc q : Nat} {loc : List (Option Value)} {rest : List Value} {n : Nat} {iv : zI} {rv : zR} {lv : zJ} {Q : zQ} {x y : Int32} (hd : decode M.2.1 pc = .ok (.ishr, 1)) (hq : pc + 1 = q) (k : Z M B q loc (.int (x >>> (y &&& 31)) :: rest) n iv rv lv Q) : Z M B pc loc (.int y :: .int x :: rest) n iv rv lv Q := by
  subst hq
  exact Z.pure (fun hx hb _ k => lv_ishr hx hb hd k) k
theorem Z_idiv {M : zM} {B : zB} {pc q : Nat} {loc : List (Option Value)} {rest : List Value} {n : Nat} {iv : zI} {rv : zR} {lv : zJ} {Q : zQ} {x y : Int32} (hd : decode M.2.1 pc = .ok (.idiv, 1)) (hne : ¬ y = 0) (hq : pc + 1 = q) (k : Z M B q loc (.int (x / y) :: rest) n iv rv lv Q) : Z M B pc loc (.int y :: .int x :: rest) n iv rv lv Q := by
  subst hq
  exact Z.pure (fun hx hb _ k => lv_idiv hx hb hd hne k) k
theorem Z_irem {M : zM} {B : zB} {pc q : Nat} {loc : List (Option Value)} {rest : List Value} {n : Nat} {iv : zI} {rv : zR} {lv : zJ} {Q : zQ} {x y : Int32} (hd : decode M.2.1 pc = .ok (.irem, 1)) (hne : ¬ y = 0) (hq : pc + 1 = q) (k : Z M B q loc (.int (x - x / y * y) :: rest) n iv rv lv Q) : Z M B pc loc (.int y :: .int x :: rest) n iv rv lv Q := by
  subst hq
  exact Z.pure (fun hx hb _ k => lv_irem hx hb hd hne k) k
theorem Z_ladd {M : zM} {B : zB} {pc q : Nat} {loc : List (Option Value)} {rest : List Value} {n : Nat} {iv : zI} {rv : zR} {lv : zJ} {Q : zQ} {x y : Int64} (hd : decode M.2.1 pc = .ok (.ladd, 1)) (hq : pc + 1 = q) (k : Z M B q loc (.long (x + y) :: rest) n iv rv lv Q) : Z M B pc loc (.long y :: .long x :: rest) n iv rv lv Q := by
  subst hq
  exact Z.pure (fun hx hb _ k => lv_ladd hx hb hd k) k
theorem Z_lsub {M : zM} {B : zB} {pc q : Nat} {loc : List (Option Value)} {rest : List Value} {n : Nat} {iv : zI} {rv : zR} {lv : zJ} {Q : zQ} {x y : Int64} (hd : decode M.2.1 pc = .ok (.lsub, 1)) (hq : pc + 1 = q) (k : Z M B q loc (.long (x - y) :: rest) n iv rv lv Q) : Z M B pc loc (.long y :: .long x :: rest) n iv rv lv Q := by
  subst hq
  exact Z.pure (fun hx hb _ k => lv_lsub hx hb hd k) k
theorem Z_lmul {M : zM} {B : zB} {pc q : Nat} {loc : List (Option Value)} {rest : List Value} {n : Nat} {iv : zI} {rv : zR} {lv : zJ} {Q : zQ} {x y : Int64} (hd : decode M.2.1 pc = .ok (.lmul, 1)) (hq : pc + 1 = q) (k : Z M B q loc (.long (x * y) :: rest) n iv rv lv Q) : Z M B pc loc (.long y :: .long x :: rest) n iv rv lv Q := by
  subst hq
  exact Z.pure (fun hx hb _ k => lv_lmul hx hb hd k) k
theorem Z_ineg {M : zM} {B : zB} {pc q : Nat} {loc : List (Option Value)} {rest : List Value} {n : Nat} {iv : zI} {rv : zR} {lv : zJ} {Q : zQ} {x : Int32} (hd : decode M.2.1 pc = .ok (.ineg, 1)) (hq : pc + 1 = q) (k : Z M B q loc (.int (-x) :: rest) n iv rv lv Q) : Z M B pc loc (.int x :: rest) n iv rv lv Q := by
  subst hq
  exact Z.pure (fun hx hb _ k => lv_ineg hx hb hd k) k
theorem Z_i2l {M : zM} {B : zB} {pc q : Nat} {loc : List (Option Value)} {rest : List Value} {n : Nat} {iv : zI} {rv : zR} {lv : zJ} {Q : zQ} {x : Int32} (hd : decode M.2.1 pc = .ok (.i2l, 1)) (hq : pc + 1 = q) (k : Z M B q loc (.long x.toInt64 :: rest) n iv rv lv Q) : Z M B pc loc (.int x :: rest) n iv rv lv Q := by
  subst hq
  exact Z.pure (fun hx hb _ k => lv_i2l hx hb hd rfl k) k
theorem Z_i2b {M : zM} {B : zB} {pc q : Nat} {loc : List (Option Value)} {rest : List Value} {n : Nat} {iv : zI} {rv : zR} {lv : zJ} {Q : zQ} {x : Int32} (hd : decode M.2.1 pc = .ok (.i2b, 1)) (hq : pc + 1 = q) (k : Z M B q loc (.int x.toInt8.toInt32 :: rest) n iv rv lv Q) : Z M B pc loc (.int x :: rest) n iv rv lv Q := by
  subst hq
  exact Z.pure (fun hx hb _ k => lv_i2b hx hb hd rfl k) k
theorem Z_dup {M : zM} {B : zB} {pc q : Nat} {loc : List (Option Value)} {rest : List Value} {n : Nat} {iv : zI} {rv : zR} {lv : zJ} {Q : zQ} {v : Value} (hd : decode M.2.1 pc = .ok (.dup, 1)) (hv : v.category = 1) (hq : pc + 1 = q) (k : Z M B q loc (v :: v :: rest) n iv rv lv Q) : Z M B pc loc (v :: rest) n iv rv lv Q := by
  subst hq
  exact Z.pure (st := v :: rest) (st2 := v :: v :: rest) (fun {p l e R s m args below meth c H locs cells slots Qm ls ad} hx hb _ k => lv_dup hx hb hd ((zcv_cat ad v).trans hv) k) k
theorem Z_pop {M : zM} {B : zB} {pc q : Nat} {loc : List (Option Value)} {rest : List Value} {n : Nat} {iv : zI} {rv : zR} {lv : zJ} {Q : zQ} {v : Value} (hd : decode M.2.1 pc = .ok (.pop, 1)) (hv : v.category = 1) (hq : pc + 1 = q) (k : Z M B q loc rest n iv rv lv Q) : Z M B pc loc (v :: rest) n iv rv lv Q := by
  subst hq
  exact Z.pure (st := v :: rest) (st2 := rest) (fun {p l e R s m args below meth c H locs cells slots Qm ls ad} hx hb _ k => lv_pop hx hb hd ((zcv_cat ad v).trans hv) k) k
theorem Z_dup2 {M : zM} {B : zB} {pc q : Nat} {loc : List (Option Value)} {rest : List Value} {n : Nat} {iv : zI} {rv : zR} {lv : zJ} {Q : zQ} {v w : Value} (hd : decode M.2.1 pc = .ok (.dup2, 1)) (hv : v.category = 1) (hw : w.category = 1) (hq : pc + 1 = q) (k : Z M B q loc (v :: w :: v :: w :: rest) n iv rv lv Q) : Z M B pc loc (v :: w :: rest) n iv rv lv Q := by
  subst hq
  exact Z.pure (st := v :: w :: rest) (st2 := v :: w :: v :: w :: rest) (fun {p l e R s m args below meth c H locs cells slots Qm ls ad} hx hb _ k => lv_dup2_11 hx hb hd ((zcv_cat ad v).trans hv) ((zcv_cat ad w).trans hw) k) k
theorem Z_goto {M : zM} {B : zB} {pc q : Nat} {loc : List (Option Value)} {rest : List Value} {n : Nat} {iv : zI} {rv : zR} {lv : zJ} {Q : zQ} {off : Int} (hd : decode M.2.1 pc = .ok (.goto off, 3)) (ht : (pc : Int) + off = (q : Int)) (k : Z M B q loc rest n iv rv lv Q) : Z M B pc loc rest n iv rv lv Q := by
  exact Z.pure (fun hx hb _ k => lv_goto hx hb hd ht k) k
theorem Z_lcmp {M : zM} {B : zB} {pc q : Nat} {loc : List (Option Value)} {rest : List Value} {n : Nat} {iv : zI} {rv : zR} {lv : zJ} {Q : zQ} {x y : Int64} (hd : decode M.2.1 pc = .ok (.lcmp, 1)) (hq : pc + 1 = q) (k : Z M B q loc (.int (lg_cmp x y) :: rest) n iv rv lv Q) : Z M B pc loc (.long y :: .long x :: rest) n iv rv lv Q := by
  subst hq
  exact Z.pure (fun hx hb _ k => W.lcmp hx hb hd k) k
theorem Z_if_eq {M : zM} {B : zB} {pc q : Nat} {loc : List (Option Value)} {rest : List Value} {n : Nat} {iv : zI} {rv : zR} {lv : zJ} {Q : zQ} {t : Nat} {off : Int} {x : Int32} (hd : decode M.2.1 pc = .ok (.ifCond .eq off, 3)) (ht : (pc : Int) + off = (t : Int)) (hq : pc + 3 = q) (kt : x = 0 → Z M B t loc rest n iv rv lv Q) (kf : ¬ x = 0 → Z M B q loc rest n iv rv lv Q) : Z M B pc loc (.int x :: rest) n iv rv lv Q := by
  subst hq
  intro l p e R s m args below meth c D dA ad0 adV xc xs Qm hC hR ad H locs ls h1 h2 h3 h4 h5 h6 h7
  exact lv_if_eq hC.1 hC.2.1 hd ht (fun h => kt h l p e R s m args below meth c D dA ad0 adV xc xs Qm hC hR ad H locs ls h1 h2 h3 h4 h5 h6 h7) (fun h => kf h l p e R s m args below meth c D dA ad0 adV xc xs Qm hC hR ad H locs ls h1 h2 h3 h4 h5 h6 h7)
theorem Z_if_ne {M : zM} {B : zB} {pc q : Nat} {loc : List (Option Value)} {rest : List Value} {n : Nat} {iv : zI} {rv : zR} {lv : zJ} {Q : zQ} {t : Nat} {off : Int} {x : Int32} (hd : decode M.2.1 pc = .ok (.ifCond .ne off, 3)) (ht : (pc : Int) + off = (t : Int)) (hq : pc + 3 = q) (kt : ¬ x = 0 → Z M B t loc rest n iv rv lv Q) (kf : x = 0 → Z M B q loc rest n iv rv lv Q) : Z M B pc loc (.int x :: rest) n iv rv lv Q := by
  subst hq
  intro l p e R s m args below meth c D dA ad0 adV xc xs Qm hC hR ad H locs ls h1 h2 h3 h4 h5 h6 h7
  exact lv_if_ne hC.1 hC.2.1 hd ht (fun h => kt h l p e R s m args below meth c D dA ad0 adV xc xs Qm hC hR ad H locs ls h1 h2 h3 h4 h5 h6 h7) (fun h => kf h l p e R s m args below meth c D dA ad0 adV xc xs Qm hC hR ad H locs ls h1 h2 h3 h4 h5 h6 h7)
theorem Z_if_lt {M : zM} {B : zB} {pc q : Nat} {loc : List (Option Value)} {rest : List Value} {n : Nat} {iv : zI} {rv : zR} {lv : zJ} {Q : zQ} {t : Nat} {off : Int} {x : Int32} (hd : decode M.2.1 pc = .ok (.ifCond .lt off, 3)) (ht : (pc : Int) + off = (t : Int)) (hq : pc + 3 = q) (kt : x < 0 → Z M B t loc rest n iv rv lv Q) (kf : ¬ x < 0 → Z M B q loc rest n iv rv lv Q) : Z M B pc loc (.int x :: rest) n iv rv lv Q := by
  subst hq
  intro l p e R s m args below meth c D dA ad0 adV xc xs Qm hC hR ad H locs ls h1 h2 h3 h4 h5 h6 h7
  exact lv_if_lt hC.1 hC.2.1 hd ht (fun h => kt h l p e R s m args below meth c D dA ad0 adV xc xs Qm hC hR ad H locs ls h1 h2 h3 h4 h5 h6 h7) (fun h => kf h l p e R s m args below meth c D dA ad0 adV xc xs Qm hC hR ad H locs ls h1 h2 h3 h4 h5 h6 h7)
theorem Z_if_ge {M : zM} {B : zB} {pc q : Nat} {loc : List (Option Value)} {rest : List Value} {n : Nat} {iv : zI} {rv : zR} {lv : zJ} {Q : zQ} {t : Nat} {off : Int} {x : Int32} (hd : decode M.2.1 pc = .ok (.ifCond .ge off, 3)) (ht : (pc : Int) + off = (t : Int)) (hq : pc + 3 = q) (kt : 0 ≤ x → Z M B t loc rest n iv rv lv Q) (kf : ¬ 0 ≤ x → Z M B q loc rest n iv rv lv Q) : Z M B pc loc (.int x :: rest) n iv rv lv Q := by
  subst hq
  intro l p e R s m args below meth c D dA ad0 adV xc xs Qm hC hR ad H locs ls h1 h2 h3 h4 h5 h6 h7
  exact lv_if_ge hC.1 hC.2.1 hd ht (fun h => kt h l p e R s m args below meth c D dA ad0 adV xc xs Qm hC hR ad H locs ls h1 h2 h3 h4 h5 h6 h7) (fun h => kf h l p e R s m args below meth c D dA ad0 adV xc xs Qm hC hR ad H locs ls h1 h2 h3 h4 h5 h6 h7)
theorem Z_if_gt {M : zM} {B : zB} {pc q : Nat} {loc : List (Option Value)} {rest : List Value} {n : Nat} {iv : zI} {rv : zR} {lv : zJ} {Q : zQ} {t : Nat} {off : Int} {x : Int32} (hd : decode M.2.1 pc = .ok (.ifCond .gt off, 3)) (ht : (pc : Int) + off = (t : Int)) (hq : pc + 3 = q) (kt : 0 < x → Z M B t loc rest n iv rv lv Q) (kf : ¬ 0 < x → Z M B q loc rest n iv rv lv Q) : Z M B pc loc (.int x :: rest) n iv rv lv Q := by
  subst hq
  intro l p e R s m args below meth c D dA ad0 adV xc xs Qm hC hR ad H locs ls h1 h2 h3 h4 h5 h6 h7
  exact lv_if_gt hC.1 hC.2.1 hd ht (fun h => kt h l p e R s m args below meth c D dA ad0 adV xc xs Qm hC hR ad H locs ls h1 h2 h3 h4 h5 h6 h7) (fun h => kf h l p e R s m args below meth c D dA ad0 adV xc xs Qm hC hR ad H locs ls h1 h2 h3 h4 h5 h6 h7)
theorem Z_if_le {M : zM} {B : zB} {pc q : Nat} {loc : List (Option Value)} {rest : List Value} {n : Nat} {iv : zI} {rv : zR} {lv : zJ} {Q : zQ} {t : Nat} {off : Int} {x : Int32} (hd : decode M.2.1 pc = .ok (.ifCond .le off, 3)) (ht : (pc : Int) + off = (t : Int)) (hq : pc + 3 = q) (kt : x ≤ 0 → Z M B t loc rest n iv rv lv Q) (kf : ¬ x ≤ 0 → Z M B q loc rest n iv rv lv Q) : Z M B pc loc (.int x :: rest) n iv rv lv Q := by
  subst hq
  intro l p e R s m args below meth c D dA ad0 adV xc xs Qm hC hR ad H locs ls h1 h2 h3 h4 h5 h6 h7
  exact lv_if_le hC.1 hC.2.1 hd ht (fun h => kt h l p e R s m args below meth c D dA ad0 adV xc xs Qm hC hR ad H locs ls h1 h2 h3 h4 h5 h6 h7) (fun h => kf h l p e R s m args below meth c D dA ad0 adV xc xs Qm hC hR ad H locs ls h1 h2 h3 h4 h5 h6 h7)
theorem Z_icmp_eq {M : zM} {B : zB} {pc q : Nat} {loc : List (Option Value)} {rest : List Value} {n : Nat} {iv : zI} {rv : zR} {lv : zJ} {Q : zQ} {t : Nat} {off : Int} {x y : Int32} (hd : decode M.2.1 pc = .ok (.if_icmp .eq off, 3)) (ht : (pc : Int) + off = (t : Int)) (hq : pc + 3 = q) (kt : x = y → Z M B t loc rest n iv rv lv Q) (kf : ¬ x = y → Z M B q loc rest n iv rv lv Q) : Z M B pc loc (.int y :: .int x :: rest) n iv rv lv Q := by
  subst hq
  intro l p e R s m args below meth c D dA ad0 adV xc xs Qm hC hR ad H locs ls h1 h2 h3 h4 h5 h6 h7
  exact lv_icmp_eq hC.1 hC.2.1 hd ht (fun h => kt h l p e R s m args below meth c D dA ad0 adV xc xs Qm hC hR ad H locs ls h1 h2 h3 h4 h5 h6 h7) (fun h => kf h l p e R s m args below meth c D dA ad0 adV xc xs Qm hC hR ad H locs ls h1 h2 h3 h4 h5 h6 h7)
theorem Z_icmp_ne {M : zM} {B : zB} {pc q : Nat} {loc : List (Option Value)} {rest : List Value} {n : Nat} {iv : zI} {rv : zR} {lv : zJ} {Q : zQ} {t : Nat} {off : Int} {x y : Int32} (hd : decode M.2.1 pc = .ok (.if_icmp .ne off, 3)) (ht : (pc : Int) + off = (t : Int)) (hq : pc + 3 = q) (kt : ¬ x = y → Z M B t loc rest n iv rv lv Q) (kf : x = y → Z M B q loc rest n iv rv lv Q) : Z M B pc loc (.int y :: .int x :: rest) n iv rv lv Q := by
  subst hq
  intro l p e R s m args below meth c D dA ad0 adV xc xs Qm hC hR ad H locs ls h1 h2 h3 h4 h5 h6 h7
  exact lv_icmp_ne hC.1 hC.2.1 hd ht (fun h => kt h l p e R s m args below meth c D dA ad0 adV xc xs Qm hC hR ad H locs ls h1 h2 h3 h4 h5 h6 h7) (fun h => kf h l p e R s m args below meth c D dA ad0 adV xc xs Qm hC hR ad H locs ls h1 h2 h3 h4 h5 h6 h7)
theorem Z_icmp_lt {M : zM} {B : zB} {pc q : Nat} {loc : List (Option Value)} {rest : List Value} {n : Nat} {iv : zI} {rv : zR} {lv : zJ} {Q : zQ} {t : Nat} {off : Int} {x y : Int32} (hd : decode M.2.1 pc = .ok (.if_icmp .lt off, 3)) (ht : (pc : Int) + off = (t : Int)) (hq : pc + 3 = q) (kt : x < y → Z M B t loc rest n iv rv lv Q) (kf : ¬ x < y → Z M B q loc rest n iv rv lv Q) : Z M B pc loc (.int y :: .int x :: rest) n iv rv lv Q := by
  subst hq
  intro l p e R s m args below meth c D dA ad0 adV xc xs Qm hC hR ad H locs ls h1 h2 h3 h4 h5 h6 h7
  exact lv_icmp_lt hC.1 hC.2.1 hd ht (fun h => kt h l p e R s m args below meth c D dA ad0 adV xc xs Qm hC hR ad H locs ls h1 h2 h3 h4 h5 h6 h7) (fun h => kf h l p e R s m args below meth c D dA ad0 adV xc xs Qm hC hR ad H locs ls h1 h2 h3 h4 h5 h6 h7)
theorem Z_icmp_ge {M : zM} {B : zB} {pc q : Nat} {loc : List (Option Value)} {rest : List Value} {n : Nat} {iv : zI} {rv : zR} {lv : zJ} {Q : zQ} {t : Nat} {off : Int} {x y : Int32} (hd : decode M.2.1 pc = .ok (.if_icmp .ge off, 3)) (ht : (pc : Int) + off = (t : Int)) (hq : pc + 3 = q) (kt : y ≤ x → Z M B t loc rest n iv rv lv Q) (kf : ¬ y ≤ x → Z M B q loc rest n iv rv lv Q) : Z M B pc loc (.int y :: .int x :: rest) n iv rv lv Q := by
  subst hq
  intro l p e R s m args below meth c D dA ad0 adV xc xs Qm hC hR ad H locs ls h1 h2 h3 h4 h5 h6 h7
  exact lv_icmp_ge hC.1 hC.2.1 hd ht (fun h => kt h l p e R s m args below meth c D dA ad0 adV xc xs Qm hC hR ad H locs ls h1 h2 h3 h4 h5 h6 h7) (fun h => kf h l p e R s m args below meth c D dA ad0 adV xc xs Qm hC hR ad H locs ls h1 h2 h3 h4 h5 h6 h7)
theorem Z_icmp_gt {M : zM} {B : zB} {pc q : Nat} {loc : List (Option Value)} {rest : List Value} {n : Nat} {iv : zI} {rv : zR} {lv : zJ} {Q : zQ} {t : Nat} {off : Int} {x y : Int32} (hd : decode M.2.1 pc = .ok (.if_icmp .gt off, 3)) (ht : (pc : Int) + off = (t : Int)) (hq : pc + 3 = q) (kt : y < x → Z M B t loc rest n iv rv lv Q) (kf : ¬ y < x → Z M B q loc rest n iv rv lv Q) : Z M B pc loc (.int y :: .int x :: rest) n iv rv lv Q := by
  subst hq
  intro l p e R s m args below meth c D dA ad0 adV xc xs Qm hC hR ad H locs ls h1 h2 h3 h4 h5 h6 h7
  exact lv_icmp_gt hC.1 hC.2.1 hd ht (fun h => kt h l p e R s m args below meth c D dA ad0 adV xc xs Qm hC hR ad H locs ls h1 h2 h3 h4 h5 h6 h7) (fun h => kf h l p e R s m args below meth c D dA ad0 adV xc xs Qm hC hR ad H locs ls h1 h2 h3 h4 h5 h6 h7)
theorem Z_icmp_le {M : zM} {B : zB} {pc q : Nat} {loc : List (Option Value)} {rest : List Value} {n : Nat} {iv : zI} {rv : zR} {lv : zJ} {Q : zQ} {t : Nat} {off : Int} {x y : Int32} (hd : decode M.2.1 pc = .ok (.if_icmp .le off, 3)) (ht : (pc : Int) + off = (t : Int)) (hq : pc + 3 = q) (kt : x ≤ y → Z M B t loc rest n iv rv lv Q) (kf : ¬ x ≤ y → Z M B q loc rest n iv rv lv Q) : Z M B pc loc (.int y :: .int x :: rest) n iv rv lv Q := by
  subst hq
  intro l p e R s m args below meth c D dA ad0 adV xc xs Qm hC hR ad H locs ls h1 h2 h3 h4 h5 h6 h7
  exact lv_icmp_le hC.1 hC.2.1 hd ht (fun h => kt h l p e R s m args below meth c D dA ad0 adV xc xs Qm hC hR ad H locs ls h1 h2 h3 h4 h5 h6 h7) (fun h => kf h l p e R s m args below meth c D dA ad0 adV xc xs Qm hC hR ad H locs ls h1 h2 h3 h4 h5 h6 h7)
theorem Z_tableIn {M : zM} {B : zB} {pc q : Nat} {loc : List (Option Value)} {rest : List Value} {n : Nat} {iv : zI} {rv : zR} {lv : zJ} {Q : zQ} {dflt lo hi off : Int} {offs : Array Int} {len : Nat} {x : Int32} (hd : decode M.2.1 pc = .ok (.tableswitch dflt lo hi offs, len)) (a1 : ¬ x.toInt < lo) (a2 : ¬ hi < x.toInt) (ho : offs[(x.toInt - lo).toNat]? = some off) (ht : (pc : Int) + off = (q : Int)) (k : Z M B q loc rest n iv rv lv Q) : Z M B pc loc (.int x :: rest) n iv rv lv Q := by
  exact Z.pure (fun hx hb _ k => lv_tableIn hx hb hd a1 a2 ho ht k) k
theorem Z_tableOut {M : zM} {B : zB} {pc q : Nat} {loc : List (Option Value)} {rest : List Value} {n : Nat} {iv : zI} {rv : zR} {lv : zJ} {Q : zQ} {dflt lo hi : Int} {offs : Array Int} {len : Nat} {x : Int32} (hd : decode M.2.1 pc = .ok (.tableswitch dflt lo hi offs, len)) (a1 : x.toInt < lo ∨ hi < x.toInt) (ht : (pc : Int) + dflt = (q : Int)) (k : Z M B q loc rest n iv rv lv Q) : Z M B pc loc (.int x :: rest) n iv rv lv Q := by
  exact Z.pure (fun hx hb _ k => lv_tableOut hx hb hd a1 ht k) k
theorem Z_ldc {M : zM} {B : zB} {pc q : Nat} {loc : List (Option Value)} {rest : List Value} {n : Nat} {iv : zI} {rv : zR} {lv : zJ} {Q : zQ} {a : Nat} {v : Int32} (hd : decode M.2.1 pc = .ok (.ldc a, 2)) (hw : Cond.constant M.1.cls a v ∈ Wd) (hq : pc + 2 = q) (k : Z M B q loc (.int v :: rest) n iv rv lv Q) : Z M B pc loc rest n iv rv lv Q := by
  subst hq
  intro l p e R s m args below meth c D dA ad0 adV xc xs Qm hC hR ad H locs ls h1 h2 h3 h4 h5 h6 h7
  exact lv_ldc hC.1 hC.2.1 hC.2.2.2.1 (hC.2.2.2.2.1 _ hw) hd (k l p e R s m args below meth c D dA ad0 adV xc xs Qm hC hR ad H locs ls h1 h2 h3 h4 h5 h6 h7)
theorem Z_ldcw {M : zM} {B : zB} {pc q : Nat} {loc : List (Option Value)} {rest : List Value} {n : Nat} {iv : zI} {rv : zR} {lv : zJ} {Q : zQ} {a : Nat} {v : Int32} (hd : decode M.2.1 pc = .ok (.ldc_w a, 3)) (hw : Cond.constant M.1.cls a v ∈ Wd) (hq : pc + 3 = q) (k : Z M B q loc (.int v :: rest) n iv rv lv Q) : Z M B pc loc rest n iv rv lv Q := by
  subst hq
  intro l p e R s m args below meth c D dA ad0 adV xc xs Qm hC hR ad H locs ls h1 h2 h3 h4 h5 h6 h7
  exact lv_ldcw hC.1 hC.2.1 hC.2.2.2.1 (hC.2.2.2.2.1 _ hw) hd (k l p e R s m args below meth c D dA ad0 adV xc xs Qm hC hR ad H locs ls h1 h2 h3 h4 h5 h6 h7)
theorem Z_ldc2 {M : zM} {B : zB} {pc q : Nat} {loc : List (Option Value)} {rest : List Value} {n : Nat} {iv : zI} {rv : zR} {lv : zJ} {Q : zQ} {a : Nat} {v : Int64} (hd : decode M.2.1 pc = .ok (.ldc2_w a, 3)) (hw : Cond.constantLong M.1.cls a v ∈ Wd) (hq : pc + 3 = q) (k : Z M B q loc (.long v :: rest) n iv rv lv Q) : Z M B pc loc rest n iv rv lv Q := by
  subst hq
  intro l p e R s m args below meth c D dA ad0 adV xc xs Qm hC hR ad H locs ls h1 h2 h3 h4 h5 h6 h7
  exact lv_ldc2 hC.1 hC.2.1 hC.2.2.2.1 (hC.2.2.2.2.1 _ hw) hd (k l p e R s m args below meth c D dA ad0 adV xc xs Qm hC hR ad H locs ls h1 h2 h3 h4 h5 h6 h7)
theorem Z_iret {M : zM} {B : zB} {pc : Nat} {loc : List (Option Value)} {n : Nat} {iv : zI} {rv : zR} {lv : zJ} {Q : zQ} {v : Int32} {ty : FieldType} (hd : decode M.2.1 pc = .ok (.ireturn, 1)) (hty : M.2.2.2 = some ty) (hnw : narrow ty (.int v) = .int v) (hn : B.2.2.1 = n) (hQ : Q (some (.int v)) iv rv lv) : Z M B pc loc [.int v] n iv rv lv Q := by
  subst hn
  intro l p e R s m args below meth c D dA ad0 adV xc xs Qm hC hR ad H locs ls h1 h2 h3 h4 h5 h6 h7
  exact hR.here hC (some (.int v)) iv rv lv ad H locs pc ls hQ (Or.inr (Or.inl ⟨v, ty, rfl, hty, hnw, hd⟩)) h1 h3 h4 h5
theorem Z_lret {M : zM} {B : zB} {pc : Nat} {loc : List (Option Value)} {n : Nat} {iv : zI} {rv : zR} {lv : zJ} {Q : zQ} {v : Int64} (hd : decode M.2.1 pc = .ok (.lreturn, 1)) (hty : M.2.2.2 = some .long) (hn : B.2.2.1 = n) (hQ : Q (some (.long v)) iv rv lv) : Z M B pc loc [.long v] n iv rv lv Q := by
  subst hn
  intro l p e R s m args below meth c D dA ad0 adV xc xs Qm hC hR ad H locs ls h1 h2 h3 h4 h5 h6 h7
  exact hR.here hC (some (.long v)) iv rv lv ad H locs pc ls hQ (Or.inr (Or.inr (Or.inl ⟨v, rfl, hty, hd⟩))) h1 h3 h4 h5
theorem Z_aret {M : zM} {B : zB} {pc : Nat} {loc : List (Option Value)} {n : Nat} {iv : zI} {rv : zR} {lv : zJ} {Q : zQ} {a : Nat} {nm : String} (hd : decode M.2.1 pc = .ok (.areturn, 1)) (hty : M.2.2.2 = some (.object nm)) (hn : B.2.2.1 = n) (hQ : Q (some (.ref a)) iv rv lv) : Z M B pc loc [.ref a] n iv rv lv Q := by
  subst hn
  intro l p e R s m args below meth c D dA ad0 adV xc xs Qm hC hR ad H locs ls h1 h2 h3 h4 h5 h6 h7
  exact hR.here hC (some (.ref a)) iv rv lv ad H locs pc ls hQ (Or.inr (Or.inr (Or.inr ⟨a, nm, rfl, hty, hd⟩))) h1 h3 h4 h5
theorem Z_vret {M : zM} {B : zB} {pc : Nat} {loc : List (Option Value)} {n : Nat} {iv : zI} {rv : zR} {lv : zJ} {Q : zQ} (hd : decode M.2.1 pc = .ok (.return_, 1)) (hty : M.2.2.2 = none) (hn : B.2.2.1 = n) (hQ : Q none iv rv lv) : Z M B pc loc [] n iv rv lv Q := by
  subst hn
  intro l p e R s m args below meth c D dA ad0 adV xc xs Qm hC hR ad H locs ls h1 h2 h3 h4 h5 h6 h7
  exact hR.here hC none iv rv lv ad H locs pc ls hQ (Or.inl ⟨rfl, hty, hd⟩) h1 h3 h4 h5
