/-! THE JUDGEMENT Z: a method M of its own frame, at pc, with these locals, this stack, this memory, comes back with Q. B = (depth left, places at its start, places at its end, further cells left, what else is known of the start). -/
abbrev zB : Type := Nat × Nat × Nat × Nat × ((Nat → Prop) → Launch → State → (Nat → Nat) → Prop)
def zK0 : (Nat → Prop) → Launch → State → (Nat → Nat) → Prop := fun _ _ _ _ => True
abbrev zQ : Type := Option Value → zI → zR → zJ → Prop
def zL (ls : Array Slot) (nL : Nat) (ad : Nat → Nat) (loc : List (Option Value)) : Prop := ls.size = nL ∧ lv_wf ls ∧ ∀ (i : Nat) (v : Value), loc[i]? = some (some v) → ls[i]? = some (.val (zcv ad v))
def zCx (M : zM) (B : zB) (l : Launch) (p : Program) (R : Room) (s : State) (m : MethodId) (args : Array Value) (meth : Method) (c : Code) (D : va_G) (dA : Nat → ClassId) (ad0 adV : Nat → Nat) (xc xs : Nat) : Prop :=
  p.tables.exec = Jvm.exec ∧ c.code = M.2.1 ∧ c.maxLocals = M.2.2.1 ∧ s.vm.findClass M.1.cls = some m.cls ∧ (∀ w ∈ Wd, w.before args s = true) ∧ va_K D vwCl (zTy dA) s ∧ meth.name = M.1.name ∧ (B.1 ≤ R.frames ∧ 64 * B.1 ≤ R.locals) ∧ (B.2.2.1 - B.2.1 + xc + B.2.2.2.1 ≤ R.cells ∧ zSL B.2.2.1 - zSL B.2.1 + xs + 8 * B.2.2.2.1 ≤ R.slots) ∧ zX ad0 adV (zA ad0 B.2.1 s.heap.size) s s.heap ∧ B.2.2.1 ≤ 1000000 ∧ B.2.2.2.2 (zA ad0 B.2.1 s.heap.size) l s ad0
/-- the instruction with which it comes back -/
def zDec (M : zM) (pc : Nat) (r : Option Value) : Prop :=
  (r = none ∧ M.2.2.2 = none ∧ decode M.2.1 pc = .ok (.return_, 1)) ∨
  (∃ (v : Int32) (ty : FieldType), r = some (.int v) ∧ M.2.2.2 = some ty ∧ narrow ty (.int v) = .int v ∧ decode M.2.1 pc = .ok (.ireturn, 1)) ∨
  (∃ v : Int64, r = some (.long v) ∧ M.2.2.2 = some .long ∧ decode M.2.1 pc = .ok (.lreturn, 1)) ∨
  (∃ (a : Nat) (n : String), r = some (.ref a) ∧ M.2.2.2 = some (.object n) ∧ decode M.2.1 pc = .ok (.areturn, 1))
def zRt (M : zM) (B : zB) (l : Launch) (p : Program) (e : Env) (R : Room) (s : State) (m : MethodId) (args : Array Value) (below : List Frame) (meth : Method) (c : Code) (D : va_G) (dA : Nat → ClassId) (ad0 : Nat → Nat) (xc xs : Nat) (Q : zQ) (Qm : State → Prop) : Prop :=
  ∀ (r : Option Value) (iv : zI) (rv : zR) (lv : zJ) (ad : Nat → Nat) (H : Heap) (locs : List Loc) (pc : Nat) (ls : Array Slot), Q r iv rv lv → zDec M pc r → zAg B.2.1 B.2.2.1 ad0 ad → va_P D vwCl (zW dA ad B.2.2.1 iv rv lv) H → va_D (zA ad0 B.2.1 s.heap.size) (zW dA ad B.2.2.1 iv rv lv) → va_S (zA ad0 B.2.1 s.heap.size) s.heap H locs →
    W p l e R s m args below meth c H locs (B.2.2.1 - B.2.1 + xc) (zSL B.2.2.1 - zSL B.2.1 + xs) Qm (F0 m pc ls (r.toList.map (zcv ad)))
/-- .. with as many further cells as may be -/
def zRA (M : zM) (B : zB) (l : Launch) (p : Program) (e : Env) (R : Room) (s : State) (m : MethodId) (args : Array Value) (below : List Frame) (meth : Method) (c : Code) (D : va_G) (dA : Nat → ClassId) (ad0 : Nat → Nat) (xc xs : Nat) (Q : zQ) (Qm : State → Prop) : Prop :=
  ∀ yc ys : Nat, xc ≤ yc → xs ≤ ys → B.2.2.1 - B.2.1 + yc ≤ R.cells → zSL B.2.2.1 - zSL B.2.1 + ys ≤ R.slots → zRt M B l p e R s m args below meth c D dA ad0 yc ys Q Qm
theorem zCx.bud {M : zM} {B : zB} {l : Launch} {p : Program} {R : Room} {s : State} {m : MethodId} {args : Array Value} {meth : Method} {c : Code} {D : va_G} {dA : Nat → ClassId} {ad0 adV : Nat → Nat} {xc xs : Nat} (h : zCx M B l p R s m args meth c D dA ad0 adV xc xs) : B.2.2.1 - B.2.1 + xc ≤ R.cells ∧ zSL B.2.2.1 - zSL B.2.1 + xs ≤ R.slots := by
  obtain ⟨-, -, -, -, -, -, -, -, ⟨h1, h2⟩, -⟩ := h
  exact ⟨by omega, by omega⟩
theorem zRA.here {M : zM} {B : zB} {l : Launch} {p : Program} {e : Env} {R : Room} {s : State} {m : MethodId} {args : Array Value} {below : List Frame} {meth : Method} {c : Code} {D : va_G} {dA : Nat → ClassId} {ad0 adV : Nat → Nat} {xc xs : Nat} {Q : zQ} {Qm : State → Prop} (h : zRA M B l p e R s m args below meth c D dA ad0 xc xs Q Qm) (hC : zCx M B l p R s m args meth c D dA ad0 adV xc xs) : zRt M B l p e R s m args below meth c D dA ad0 xc xs Q Qm := h xc xs (Nat.le_refl _) (Nat.le_refl _) hC.bud.1 hC.bud.2
def Z (M : zM) (B : zB) (pc : Nat) (loc : List (Option Value)) (st : List Value) (n : Nat) (iv : zI) (rv : zR) (lv : zJ) (Q : zQ) : Prop :=
  ∀ (l : Launch) (p : Program) (e : Env) (R : Room) (s : State) (m : MethodId) (args : Array Value) (below : List Frame) (meth : Method) (c : Code) (D : va_G) (dA : Nat → ClassId) (ad0 adV : Nat → Nat) (xc xs : Nat) (Qm : State → Prop), zCx M B l p R s m args meth c D dA ad0 adV xc xs → zRA M B l p e R s m args below meth c D dA ad0 xc xs Q Qm →
  ∀ (ad : Nat → Nat) (H : Heap) (locs : List Loc) (ls : Array Slot), zAg B.2.1 n ad0 ad → zL ls M.2.2.1 ad loc → va_P D vwCl (zW dA ad n iv rv lv) H → va_D (zA ad0 B.2.1 s.heap.size) (zW dA ad n iv rv lv) → va_S (zA ad0 B.2.1 s.heap.size) s.heap H locs → B.2.1 ≤ n → n ≤ B.2.2.1 →
    W p l e R s m args below meth c H locs (n - B.2.1 + xc) (zSL n - zSL B.2.1 + xs) Qm (F0 m pc ls (st.map (zcv ad)))
/-- a contract: M at these arguments and this memory, depth d, comes back with Q; n1 places then -/
def zws (M : zM) : List Cond := Cond.code M.1 M.2.1 M.2.2.1 M.2.2.2 :: Wd
def zrm (d n n1 : Nat) : Room := { frames := d, cells := n1 - n, slots := zSL n1 - zSL n, locals := 64 * d }
def zIn (D : va_G) (dA : Nat → ClassId) (ad adV : Nat → Nat) (n : Nat) (iv : zI) (rv : zR) (lv : zJ) (sz : Nat) (U : State) : Prop :=
  U.heap.size = sz ∧ va_P D vwCl (zW dA ad n iv rv lv) U.heap ∧ va_K D vwCl (zTy dA) U ∧ va_D (fun _ => True) (zW dA ad n iv rv lv) ∧ zX ad adV (zA ad n sz) U U.heap
def zOut (D : va_G) (dA : Nat → ClassId) (ad : Nat → Nat) (n n1 sz : Nat) (Q : zQ) : Array Value → State → Outcome → State → Prop := fun _ st oc t =>
  (∃ (r : Option Value) (iv : zI) (rv : zR) (lv : zJ) (ad' : Nat → Nat), oc = .returned (r.map (zcv ad')) ∧ Q r iv rv lv ∧ zAg n n1 ad ad' ∧ va_P D vwCl (zW dA ad' n1 iv rv lv) t.heap ∧ va_K D vwCl (zTy dA) t ∧ va_D (zA ad n sz) (zW dA ad' n1 iv rv lv)) ∧ va_F (zA ad n sz) st t
def Mw (M : zM) (d n1 : Nat) (as : List Value) (n : Nat) (iv : zI) (rv : zR) (lv : zJ) (Q : zQ) : Prop :=
  ∀ (l : Launch) (D : va_G) (dA : Nat → ClassId) (ad adV : Nat → Nat) (sz : Nat),
    Met l M.1 (zws M) (zrm d n n1) (va_Pc (as.map (zcv ad)) (zIn D dA ad adV n iv rv lv sz)) (zOut D dA ad n n1 sz Q) (n1 - n) (zSL n1 - zSL n) (zA ad n sz)
theorem zL_args {as : List Value} {nL : Nat} {ad : Nat → Nat} {loc : List (Option Value)} (hcat : ∀ v ∈ as, v.category = 1) (hlen : as.length ≤ nL) (hloc : as.map some ++ List.replicate (nL - as.length) none = loc) :
    zL ((lg_sl (as.map (zcv ad)) ++ List.replicate (nL - (lg_sl (as.map (zcv ad))).length) Slot.unset).toArray) nL ad loc := by
  have hc : ∀ v : Value, (zcv ad v).category = v.category := fun v => by cases v <;> rfl
  have hsl : ∀ vs : List Value, (∀ v ∈ vs, v.category = 1) → lg_sl (vs.map (zcv ad)) = vs.map (fun v => Slot.val (zcv ad v)) := by
    intro vs
    induction vs with
    | nil => intro _; rfl
    | cons v t ih =>
      intro h
      have h1 : (zcv ad v).category ≠ 2 := by rw [hc, h v List.mem_cons_self]; decide
      have h2 := ih (fun w hw => h w (List.mem_cons_of_mem _ hw))
      unfold lg_sl at h2 ⊢
      rw [List.map_cons, List.flatMap_cons, if_neg h1, h2]
      rfl
  have hl2 : (lg_sl (as.map (zcv ad))).length = as.length := by rw [hsl as hcat]; simp
  obtain ⟨a1, a2, -⟩ := lv_entry (as.map (zcv ad)) (n := nL) (by rw [hl2]; exact hlen)
  refine ⟨a1, a2, ?_⟩
  intro i v hi
  rw [hl2, hsl as hcat]
  subst hloc
  by_cases h : i < as.length
  · rw [List.getElem?_append_left (by simpa using h)] at hi
    rw [List.getElem?_toArray, List.getElem?_append_left (by simpa using h)]
    simp only [List.getElem?_map] at hi ⊢
    cases ha : as[i]? with
    | none => rw [ha] at hi; simp at hi
    | some w =>
      rw [ha] at hi
      simp at hi
      subst hi
      rfl
  · rw [List.getElem?_append_right (by simpa using Nat.le_of_not_lt h)] at hi
    rw [List.getElem?_replicate] at hi
    split at hi <;> simp at hi
theorem zK_mv {D : va_G} {dA : Nat → ClassId} {u U : State} (hvm : u.vm.Alike U.vm) (h : va_K D vwCl (zTy dA) u) : va_K D vwCl (zTy dA) U := va_K.moved hvm h
set_option maxHeartbeats 1000000 in
/-- a method's contract out of its walk -/
theorem Mw.of {M : zM} {d n1 : Nat} {as : List Value} {n : Nat} {iv : zI} {rv : zR} {lv : zJ} {Q : zQ} {loc : List (Option Value)} (hp : plainName M.1.cls = true) (hcat : ∀ v ∈ as, v.category = 1) (hlen : as.length ≤ M.2.2.1) (hloc : as.map some ++ List.replicate (M.2.2.1 - as.length) none = loc) (hn : n ≤ n1) (hn1 : n1 ≤ 1000000)
    (hz : Z M (d, n, n1, 0, zK0) 0 loc [] n iv rv lv Q) : Mw M d n1 as n iv rv lv Q := by
  intro l D dA ad adV sz
  refine Met.ofW (cc := M.2.1) (maxL := M.2.2.1) (ret := M.2.2.2) hp rfl ?_
  intro p e s m args below meth c s₁ Bd hml hv
  obtain ⟨rfl, hsz, hP, hK, hD0, hX⟩ := hv
  subst hsz
  have hts := atoms_spec (ws := zws M) Bd.pre
  have hlocks := Bd.notSynchronized
  have hret := Bd.returns
  have hD : va_D (zA ad n s.heap.size) (zW dA ad n iv rv lv) := ⟨hD0.1, fun k q hk => by
    obtain ⟨h1, rfl⟩ := zW_lt hk
    exact Or.inl ⟨k, h1, rfl⟩⟩
  rw [lg_entry_eq]
  have hw := hz l p e (headSpec (zws M) (zrm d n n1)).room s m _ below meth c D dA ad adV 0 0 (MQ below (zOut D dA ad n n1 s.heap.size Q) _ s (n1 - n) (zSL n1 - zSL n) (zA ad n s.heap.size)) ⟨Bd.exec, Bd.bytes, hml, findClass_of_methodNamed Bd.named, fun w h => hts w (List.mem_cons_of_mem _ h), hK, (name_of_methodNamed Bd.named Bd.method).1, ⟨Nat.le_refl _, Nat.le_refl _⟩, ⟨Nat.le_refl _, Nat.le_refl _⟩, hX, hn1, trivial⟩
    (by
      intro yc ys _ _ g1 g2 r iv' rv' lv' ad' H locs pc ls hq hdec hag hP' hD' hS'
      have g1 : n1 - n + yc ≤ n1 - n := g1
      have g2 : zSL n1 - zSL n + ys ≤ zSL n1 - zSL n := g2
      obtain rfl : yc = 0 := by omega
      obtain rfl : ys = 0 := by omega
      have hpost : ∀ t : State, t.heap = H → s.WarmedH t.vm → zOut D dA ad n n1 s.heap.size Q (as.map (zcv ad)).toArray s (.returned (r.map (zcv ad'))) t := fun t ht hW => ⟨⟨r, iv', rv', lv', ad', rfl, hq, hag, by rw [ht]; exact hP', zK_mv hW.alike hK, hD'⟩, hS'.F ht⟩
      rcases hdec with ⟨rfl, hr, hd⟩ | ⟨v, ty, rfl, hr, hnw, hd⟩ | ⟨v, rfl, hr, hd⟩ | ⟨a, nm, rfl, hr, hd⟩
      · exact W.vret Bd.exec Bd.bytes (by rw [hret, hr]) hpost hS'.2.2 hd
      · exact W.zret Bd.exec Bd.bytes (by rw [hret, hr]) hnw hpost hS'.2.2 hd
      · exact W.lret Bd.exec Bd.bytes (by rw [hret, hr]) hpost hS'.2.2 hd
      · exact W.aret Bd.exec Bd.bytes (by rw [hret, hr]) (Or.inl ⟨_, rfl⟩) (Or.inr ⟨_, rfl⟩) hpost hS'.2.2 hd)
    ad s.heap [] _ zAg.rf (zL_args hcat hlen hloc) hP hD va_S.rf (Nat.le_refl _) hn
  simpa using hw
