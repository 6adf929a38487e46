/-! A ROW OF ROWS OF INTS at once: ten rows of four, from the model's own words. -/
/-- the class of rows of rows is there, and has the class of rows for its components -/
theorem ovr_ex {args : Array Value} {s : State} (h : (Cond.arrayOver (.array .int)).before args s = true) : ∃ cI cA k, s.vm.findClass (FieldType.array .int).toString = some cI ∧ s.vm.findClass ("[" ++ (FieldType.array .int).toString) = some cA ∧ s.vm.classes[cA]? = some k ∧ k.kind = .array cI (.array .int) := by
  unfold Cond.before at h
  rw [Cond.holds, Cond.value, beq_iff_eq] at h
  obtain ⟨cI, hI, h⟩ := Option.bind_eq_some_iff.mp h
  obtain ⟨c, h1, h2⟩ := Option.bind_eq_some_iff.mp h
  obtain ⟨k, h3, h4⟩ := Option.map_eq_some_iff.mp h2
  obtain ⟨lt, h5, -⟩ := Array.findIdx?_eq_some_iff_getElem.mp h1
  rw [show s.vm.classes[c] = k from (Array.getElem?_eq_some_iff.mp h3).2] at h5
  cases e : k.kind with
  | array x t =>
    rw [e] at h4 h5
    simp only [Bool.and_eq_true, decide_eq_true_eq, beq_iff_eq] at h4 h5
    exact ⟨cI, c, k, hI, h4.2, h3, by rw [e, h5, h4.1]⟩
  | _ => rw [e] at h4; exact absurd (show false = true from h4) (by decide)
theorem ovr_int {args : Array Value} {s : State} {cI cA : ClassId} (h : (Cond.arrayOver (.array .int)).before args s = true) (hI : s.vm.findClass (FieldType.array .int).toString = some cI) (hA : s.vm.findClass ("[" ++ (FieldType.array .int).toString) = some cA) : ∃ k, s.vm.classes[cA]? = some k ∧ k.kind = .array cI (.array .int) := by
  obtain ⟨x, y, k, h1, h2, h3, h4⟩ := ovr_ex h
  rw [Option.some.inj (hI.symm.trans h1), Option.some.inj (hA.symm.trans h2)]
  exact ⟨k, h3, h4⟩
/-- what the row of rows holds when i rows are made -/
def mq (h i : Nat) : Nat → Value := fun j => va_rf (if j < i then some (h + 1 + j) else none)
theorem mq_0 (h : Nat) : mq h 0 = fun _ => .null := funext fun j => by
  unfold mq
  rw [if_neg (Nat.not_lt_zero j)]
  rfl
theorem mq_up (h i : Nat) : updV (mq h i) i (.ref (h + 1 + i)) = mq h (i + 1) := funext fun j => by
  show (if j = i then Value.ref (h + 1 + i) else mq h i j) = mq h (i + 1) j
  unfold mq
  by_cases e : j = i
  · rw [if_pos e, e, if_pos (Nat.lt_succ_self i)]
    rfl
  · rw [if_neg e]
    by_cases q : j < i
    · rw [if_pos q, if_pos (by omega)]
    · rw [if_neg q, if_neg (by omega)]
/-- a row -/
def mr (cI : ClassId) : Cell := arrV cI 4 (fun _ => .int 0)
/-- the state when i rows are made -/
def mT (T : State) (cA cI : ClassId) : Nat → State
  | 0 => T.pushCell (arrV cA 10 (mq T.heap.size 0))
  | i + 1 => ((mT T cA cI i).pushCell (mr cI)).setCell T.heap.size (arrV cA 10 (mq T.heap.size (i + 1)))
theorem mT_top (T : State) (f : JFrame) (cA cI : ClassId) : ∀ i, mT (T.setTop f) cA cI i = (mT T cA cI i).setTop f
  | 0 => rfl
  | i + 1 => by
    unfold mT
    rw [mT_top T f cA cI i]
    rfl
/-- what stands where -/
def mF (T U : State) (cA cI : ClassId) (i : Nat) : Prop := U.heap.size = T.heap.size + 1 + i ∧ U.vm = T.vm ∧ U.slotsUsed = T.slotsUsed + 10 + 4 * i ∧ U.heap[T.heap.size]? = some (arrV cA 10 (mq T.heap.size i)) ∧ (∀ a, a < T.heap.size → U.heap[a]? = T.heap[a]?) ∧ ∀ j, j < i → U.heap[T.heap.size + 1 + j]? = some (mr cI)
theorem mF.cell {T U : State} {cA cI : ClassId} {i : Nat} (h : mF T U cA cI i) : (U.pushCell (mr cI)).heap[T.heap.size]? = some (arrV cA 10 (mq T.heap.size i)) := by
  have q : T.heap.size < U.heap.size := by rw [h.1]; omega
  rw [State.heap_pushCell_of_lt (h := q)]
  exact h.2.2.2.1
theorem mT_ok (T : State) (cA cI : ClassId) : ∀ i, mF T (mT T cA cI i) cA cI i
  | 0 => by
    refine ⟨?_, rfl, ?_, State.heap_pushCell_size .., fun a ha => State.heap_pushCell_of_lt _ _ ha, fun j hj => absurd hj (Nat.not_lt_zero j)⟩
    · simp [mT]
    · show T.slotsUsed + (arrV cA 10 (mq T.heap.size 0)).slots.size = _
      rw [arrV_size]
  | i + 1 => by
    have ih := mT_ok T cA cI i
    obtain ⟨i1, i2, i3, i4, i5, i6⟩ := ih
    refine ⟨?_, i2, ?_, State.heap_setCell_self (mF.cell ⟨i1, i2, i3, i4, i5, i6⟩), fun a ha => ?_, fun j hj => ?_⟩
    · simp [mT, State.setCell, i1]
      omega
    · show (mT T cA cI i).slotsUsed + (arrV cI 4 _).slots.size = _
      rw [arrV_size, i3]
      omega
    · show (((mT T cA cI i).pushCell (mr cI)).setCell T.heap.size _).heap[a]? = _
      have q1 : T.heap.size ≠ a := Nat.ne_of_gt ha
      have q2 : a < (mT T cA cI i).heap.size := by rw [i1]; exact Nat.lt_of_lt_of_le ha (by omega)
      rw [State.heap_setCell_other q1, State.heap_pushCell_of_lt (h := q2)]
      exact i5 a ha
    · show (((mT T cA cI i).pushCell (mr cI)).setCell T.heap.size _).heap[T.heap.size + 1 + j]? = _
      have q1 : T.heap.size ≠ T.heap.size + 1 + j := by omega
      rw [State.heap_setCell_other q1]
      by_cases q : j < i
      · have q2 : T.heap.size + 1 + j < (mT T cA cI i).heap.size := by rw [i1]; omega
        rw [State.heap_pushCell_of_lt (h := q2)]
        exact i6 j q
      · rw [show T.heap.size + 1 + j = (mT T cA cI i).heap.size by rw [i1]; omega]
        exact State.heap_pushCell_size ..
section
variable {p : Program} {l : Launch} {e : Env} {R : Room} {s : State} {m : MethodId} {args : Array Value} {below : List Frame} {meth : Method} {c : Code} {T : State} {locs : List Loc} {cells slots : Nat}
theorem mT_X (X : Stand p l e R s m args below meth c T locs cells slots) (cA cI : ClassId) : ∀ i, Stand p l e R s m args below meth c (mT T cA cI i) locs (cells + 1 + i) (slots + 10 + 4 * i)
  | 0 => by
    have h := X.pushed (arrV cA 10 (mq T.heap.size 0))
    rw [arrV_size] at h
    exact h
  | i + 1 => by
    have h := ((mT_X X cA cI i).pushed (mr cI)).stored (mT_ok T cA cI i).cell i (.ref (T.heap.size + 1 + i))
    rw [arrV_store, mq_up, show (mr cI).slots.size = 4 from arrV_size .., show slots + 10 + 4 * i + 4 = slots + 10 + 4 * (i + 1) by omega] at h
    exact h.dropFresh (fun x hx => by
      rw [List.mem_singleton] at hx
      rw [hx]
      exact X.heapGrown)
end
section
variable {E : CtlPost} {e : Env} {d : Bool} {acts : List Action}
theorem mk_row {U : State} {cI cc : ClassId} {kI : Class} (hk : U.vm.classes[cI]? = some kI) (hkind : kI.kind = .array cc .int) (hl : 4 ≤ e.platform.arrayLengthLimit) (hh : 16 ≤ e.platform.maxHeapBytes) (h1 : U.heap.size < e.platform.maxCells) (h2 : U.slotsUsed + 4 ≤ e.platform.maxSlots) {Q : Addr → Pre} (hq : ∀ acts', Q U.heap.size d acts' (U.pushCell (mr cI))) : wp (multianewarray.make cI [4]) Q E e d acts U := by
  rw [multianewarray.make, if_neg (by decide)]
  simp only [wp_bind', wp_pure', W.theClass]
  refine ⟨kI, hk, ?_⟩
  rw [hkind]
  refine W.newArray_of hk hkind (show ¬ 4 > _ by omega) (show ¬ 4 * 4 > _ by omega) h1 h2 rfl (fun acts' => ?_)
  have := hq acts'
  unfold mr at this
  rw [← arrV_new] at this
  exact this
theorem mk_loop {f : Nat → PUnit → Sem (ForInStep PUnit)} {S : Nat → State} (hf : ∀ i, i < 10 → ∀ (d : Bool) (acts : List Action) (Q' : ForInStep PUnit → Pre), (∀ d' acts', Q' (.yield PUnit.unit) d' acts' (S (i + 1))) → wp (f i PUnit.unit) Q' E e d acts (S i)) {Q : PUnit → Pre} (hq : ∀ d acts, Q PUnit.unit d acts (S 10)) : ∀ r i, i + r = 10 → ∀ (d : Bool) (acts : List Action), wp (forIn (List.range' i r) PUnit.unit f) Q E e d acts (S i)
  | 0, i, h, d, acts => by
    have h : i = 10 := h
    rw [h, List.range'_zero, List.forIn_nil, wp_pure']
    exact hq d acts
  | r + 1, i, h, d, acts => by
    rw [List.range'_succ, List.forIn_cons, wp_bind']
    exact hf i (by omega) d acts _ (fun d' acts' => mk_loop hf hq r (i + 1) (by omega) d' acts')
theorem mk_all {T : State} {cA cI cc : ClassId} {kA kI : Class} (hkA : T.vm.classes[cA]? = some kA) (hkindA : kA.kind = .array cI (.array .int)) (hkI : T.vm.classes[cI]? = some kI) (hkindI : kI.kind = .array cc .int) (hl : 10 ≤ e.platform.arrayLengthLimit) (hh : 40 ≤ e.platform.maxHeapBytes) (h1 : T.heap.size + 11 ≤ e.platform.maxCells) (h2 : T.slotsUsed + 50 ≤ e.platform.maxSlots) {Q : Addr → Pre} (hq : ∀ d acts, Q T.heap.size d acts (mT T cA cI 10)) : wp (multianewarray.make cA [10, 4]) Q E e d acts T := by
  rw [multianewarray.make, if_neg (by decide)]
  simp only [wp_bind', wp_pure', W.theClass]
  refine ⟨kA, hkA, ?_⟩
  rw [hkindA]
  simp only [wp_bind']
  refine W.newArray_of hkA hkindA (show ¬ 10 > _ by omega) (show ¬ 10 * 4 > _ by omega) (by omega) (show T.slotsUsed + 10 ≤ _ by omega) rfl (fun acts' => ?_)
  have e0 : T.pushCell { cls := cA, slots := Array.replicate (Int32.toNatClampNeg 10) Value.null } = mT T cA cI 0 := by
    unfold mT
    rw [mq_0, ← arrV_new]
    rfl
  rw [if_neg (by decide), wp_bind', Std.Legacy.Range.forIn_eq_forIn_range', e0]
  refine mk_loop (S := mT T cA cI) (fun i hi d acts Q' hn => ?_) (fun d acts => ?_) 10 0 rfl d acts'
  · obtain ⟨g1, g2, g3, g4, g5, g6⟩ := mT_ok T cA cI i
    show wp (multianewarray.make cI [4] >>= fun a => writeLoc T.heap.size i (.ref a) >>= fun _ => Pure.pure (ForInStep.yield PUnit.unit)) Q' E e d acts _
    rw [wp_bind']
    have q1 : (mT T cA cI i).heap.size < e.platform.maxCells := by rw [g1]; omega
    refine mk_row (by rw [g2]; exact hkI) hkindI (by omega) (by omega) q1 (by rw [g3]; omega) (fun acts => ?_)
    simp only [wp_bind', W.writeLoc, wp_pure']
    refine ⟨_, (mT_ok T cA cI i).cell, by simp [arrV], by rw [arrV_size]; exact hi, ?_, ?_⟩
    · show ((mT T cA cI i).pushCell (mr cI)).fitsSlot cA .none i _ = true
      simp [State.fitsSlot, State.slotType?, g2, hkA, hkindA, fits]
    · rw [arrV_store, g1, mq_up]
      exact hn _ _
  · rw [wp_pure']
    exact hq d acts
end
section
variable {p : Program} {l : Launch} {e : Env} {R : Room} {s : State} {m : MethodId} {args : Array Value} {below : List Frame} {meth : Method} {c : Code} {T : State} {locs : List Loc} {cells slots : Nat}
theorem mna_step (X : Stand p l e R s m args below meth c T locs cells slots) (hx : p.tables.exec = Jvm.exec) {own : String} {idx : Nat} (hown : s.vm.findClass own = some m.cls) (hcl : (Cond.classLink own idx ("[" ++ (FieldType.array .int).toString)).before args s = true) (hov : (Cond.arrayOver (.array .int)).before args s = true) (har : (Cond.arrayClass .int).before args s = true) {cA cI : ClassId} (fA : s.vm.findClass ("[" ++ (FieldType.array .int).toString) = some cA) (fI : s.vm.findClass (FieldType.array .int).toString = some cI) {g : JFrame} (hg : g.method = m) (hd : decode c.code g.pc = .ok (.multianewarray idx 2, 4)) {rest : List Value} (hst : g.stack = .int 4 :: .int 10 :: rest) (hc : cells + 11 ≤ R.cells) (hs : slots + 50 ≤ R.slots) :
    ∃ vm₁ : Vm, Stand p l e R s m args below meth c (mT (T.setVm vm₁) cA cI 10) locs (cells + 11) (slots + 50) ∧ ∀ t, Steps p.tables e below ((mT (T.setVm vm₁) cA cI 10).setTop { g with pc := g.pc + 4, stack := .ref T.heap.size :: rest }) t → Steps p.tables e below (T.setTop g) t := by
  subst hg
  obtain ⟨kA, hkA, hkindA⟩ := ovr_int hov fI fA
  obtain ⟨cI', kI, cc, fI', hkI, hkindI⟩ := Cond.arrayClass_spec har
  obtain rfl : cI' = cI := Option.some.inj (fI'.symm.trans fI)
  obtain ⟨cA', fA', lk⟩ := Cond.classLink_spec hown hcl e.platform (by rw [X.admits.platform])
  obtain rfl : cA' = cA := Option.some.inj (fA'.symm.trans fA)
  obtain ⟨gv, wv, -⟩ := State.classEntry (e := e) X.warmed lk
  generalize T.vm.noted g.method.cls idx (.cls cA') = vm₁ at gv wv
  obtain ⟨kA₁, hkA₁, eA⟩ := wv.alike.2.2 _ _ hkA
  obtain ⟨kI₁, hkI₁, eI⟩ := wv.alike.2.2 _ _ hkI
  obtain ⟨r1, r2⟩ := X.roomAbove hc hs
  have Y := mT_X (X.noted wv) cA' cI' 10
  refine ⟨vm₁, Y, fun t ht => ?_⟩
  jvm_step X.here [hx, hd]
  unfold multianewarray.sem
  rw [wp_bind', W.resolveClassAt_links (State.method?_setTop g X.here.top) gv, wp_bind', W.popN, if_neg (by decide)]
  have top : ((T.setTop g).setVm vm₁).topJava? = some g := State.topJava?_setTop' (s := T.setVm vm₁) g X.here.top
  refine ⟨g, top, [.int 10, .int 4], rest, rfl, hst, ?_⟩
  have eT : ((T.setTop g).setVm vm₁).setTop { g with stack := rest } = (T.setVm vm₁).setTop { g with stack := rest } := State.setTop_setTop (s := T.setVm vm₁) ..
  rw [eT]
  simp only [List.mapM_cons, List.mapM_nil, wp_bind', wp_pure']
  refine mk_all (T := (T.setVm vm₁).setTop { g with stack := rest }) (kA := kA₁) (kI := kI₁) hkA₁ (by rw [eA]; exact hkindA) hkI₁ (by rw [eI]; exact hkindI) (by rw [Launch.admits_arrayLengthLimit X.admits]; decide) (by rw [Launch.admits_maxHeapBytes X.admits]; decide) r1 r2 (fun d acts => ?_)
  rw [mT_top]
  simp only [wp_bind', W.mark, W.pushRef]
  refine ⟨_, State.topJava?_setTop' _ Y.here.top, fun acts => ?_⟩
  rw [State.setTop_setTop]
  simp [jvm, Y.here.top]
  exact ht
end
def rmna (n : Nat) (rv : zR) : zR := fun a k => if a = n ∧ k < 10 then some (n + 1 + k) else rv a k
theorem zFresh.mna {n : Nat} {iv : zI} {rv : zR} {lv : zJ} (h : zFresh n iv rv lv) : zFresh (n + 11) iv (rmna n rv) lv := by
  refine ⟨fun a ha k => ?_, fun a k r hr => ?_⟩
  · have := h.1 a (by omega) k
    refine ⟨this.1, ?_, this.2.2⟩
    show (if a = n ∧ k < 10 then some (n + 1 + k) else rv a k) = none
    rw [if_neg (by omega)]
    exact this.2.1
  · have hr : (if a = n ∧ k < 10 then some (n + 1 + k) else rv a k) = some r := hr
    by_cases q : a = n ∧ k < 10
    · rw [if_pos q] at hr
      have := Option.some.inj hr
      omega
    · rw [if_neg q] at hr
      have := h.2 a k r hr
      omega
set_option maxHeartbeats 2000000 in
theorem Z_mna {M : zM} {B : zB} {pc q : Nat} {loc : List (Option Value)} {rest : List Value} {n : Nat} {iv : zI} {rv : zR} {lv : zJ} {Q : zQ} {idx : Nat} (hd : decode M.2.1 pc = .ok (.multianewarray idx 2, 4)) (hcl : Cond.classLink M.1.cls idx ("[" ++ (FieldType.array FieldType.int).toString) ∈ Wd) (harr : Cond.arrayClass .int ∈ Wd) (hsh : zSH n = (7, 10)) (hsi : ∀ j, j < 10 → zSH (n + 1 + j) = (0, 4)) (hsl : zSL (n + 11) = zSL n + 50) (hf : zFresh n iv rv lv) (hn1 : n + 11 ≤ B.2.2.1) (hokS : rest.all (zok n (n + 11)) = true) (hokL : loc.all (fun v => match v with | some v => zok n (n + 11) v | none => true) = true) (hq : pc + 4 = q) (k : Z M B q loc (.ref n :: rest) (n + 11) iv (rmna n rv) lv Q) : Z M B pc loc (.int 4 :: .int 10 :: rest) n iv rv lv Q := by
  subst hq
  intro l p e R s m args below meth c D dA ad0 adV xc xs Qm hC hR ad H locs ls h1 h2 h3 h4 h5 h6 h7
  have hC' := hC
  obtain ⟨hx, hb, hmlc, hown, hts, hK, hnm, hfr, hroom, hX, hB⟩ := hC'
  have a1 := zSL_le h6
  have a2 := zSL_le hn1
  intro T hT Xs
  have r7 : s.vm.findClass ("[" ++ (FieldType.array FieldType.int).toString) = some (dA 7) := (hK.2 7 (dA 7, .array .int) rfl).2
  have r0 : s.vm.findClass ("[" ++ (FieldType.int).toString) = some (dA 0) := (hK.2 0 (dA 0, .int) rfl).2
  obtain ⟨vm₁, X', step⟩ := mna_step Xs hx hown (hts _ hcl) hX.2.2.2.2.2.2.2.2.2 (hts _ harr) r7 r0 (g := F0 m pc ls (.int 4 :: .int 10 :: rest.map (zcv ad))) rfl (by rw [hb]; exact hd) (rest := rest.map (zcv ad)) rfl (show n - B.2.1 + xc + 11 ≤ R.cells by omega) (show zSL n - zSL B.2.1 + xs + 50 ≤ R.slots by omega)
  have hTh : (T.setVm vm₁).heap = H := hT
  obtain ⟨f1, -, -, f2, hold, f6⟩ := mT_ok (T.setVm vm₁) (dA 7) (dA 0) 10
  generalize mT (T.setVm vm₁) (dA 7) (dA 0) 10 = F at X' step f1 f2 hold f6
  rw [hTh] at f1 f2 hold f6
  have hrow : ∀ j : Nat, j < 10 → F.heap[H.size + 1 + j]? = some (vp_cell (dA 0) (4, .inl (fun _ => 0))) := fun j hj => by
    rw [f6 j hj, vp_cell_i]
    rfl
  obtain ⟨ad', had⟩ : ∃ ad' : Nat → Nat, ad' = fun i => if n ≤ i ∧ i < n + 11 then H.size + (i - n) else ad i := ⟨_, rfl⟩
  have hin : ∀ i, n ≤ i → i < n + 11 → ad' i = H.size + (i - n) := fun i i1 i2 => by rw [had]; exact if_pos ⟨i1, i2⟩
  have hout : ∀ i, i < n ∨ n + 11 ≤ i → ad' i = ad i := fun i hi => by rw [had]; exact if_neg (by omega)
  have hlt : ∀ i, i < n → ad i < H.size := fun i hi => (h3 i _ (zW_at hi)).lt
  have hP' : va_P D vwCl (zW dA ad' (n + 11) iv (rmna n rv) lv) F.heap := by
    intro k' q' hk'
    obtain ⟨hk1, rfl⟩ := zW_lt hk'
    by_cases c1 : k' < n
    · have ee : zE dA ad' iv (rmna n rv) lv k' = zE dA ad iv rv lv k' := by
        rw [zE_r (rv := rv) (rv' := rmna n rv) (by funext b; exact if_neg (by omega))]
        exact zE_ad (fun b r hr => hout r (Or.inl (hf.2 _ _ _ hr)))
      rw [hout k' (Or.inl c1), ee]
      exact (h3 k' _ (zW_at c1)).kept (hold _ (hlt k' c1))
    · by_cases c2 : k' = n
      · subst c2
        rw [hin k' (Nat.le_refl _) (by omega), Nat.sub_self, Nat.add_zero, zE_q hsh (by decide) (by decide)]
        show F.heap[H.size]? = some (vp_cell (dA 7) (10, .inr (.inr (.inr (.inr (fun j => (rmna k' rv k' j).map ad'))))))
        rw [f2, vp_cell_q]
        refine congrArg some (congrArg (arrV (dA 7) 10) (funext fun j => ?_))
        unfold mq
        by_cases hj : j < 10
        · rw [if_pos hj, show rmna k' rv k' j = some (k' + 1 + j) from if_pos ⟨rfl, hj⟩]
          show va_rf (some (H.size + 1 + j)) = va_rf (some (ad' (k' + 1 + j)))
          rw [hin _ (by omega) (by omega), show H.size + (k' + 1 + j - k') = H.size + 1 + j by omega]
        · rw [if_neg hj, show rmna k' rv k' j = rv k' j from if_neg (by omega), (hf.1 k' (Nat.le_refl _) j).2.1]
          rfl
      · obtain ⟨j, hj, rfl⟩ : ∃ j, j < 10 ∧ k' = n + 1 + j := ⟨k' - n - 1, by omega, by omega⟩
        rw [hin _ (by omega) (by omega), zE_0 (hsi j hj)]
        show F.heap[H.size + (n + 1 + j - n)]? = some (vp_cell (dA 0) (4, .inl (iv (n + 1 + j))))
        rw [show H.size + (n + 1 + j - n) = H.size + 1 + j by omega, hrow j hj, show iv (n + 1 + j) = fun _ => 0 from funext fun b => (hf.1 _ (by omega) b).1]
  have hD' : va_D (zA ad0 B.2.1 s.heap.size) (zW dA ad' (n + 11) iv (rmna n rv) lv) := by
    refine ⟨fun i j p q hi hj hpq => ?_, fun k' q' hk' => ?_⟩
    · obtain ⟨i1, rfl⟩ := zW_lt hi
      obtain ⟨j1, rfl⟩ := zW_lt hj
      have hpq : ad' i = ad' j := hpq
      by_cases ci : i < n
      · by_cases cj : j < n
        · rw [hout i (Or.inl ci), hout j (Or.inl cj)] at hpq
          exact h4.1 i j _ _ (zW_at ci) (zW_at cj) hpq
        · have := hlt i ci
          rw [hout i (Or.inl ci), hin j (by omega) j1] at hpq
          omega
      · by_cases cj : j < n
        · have := hlt j cj
          rw [hout j (Or.inl cj), hin i (by omega) i1] at hpq
          omega
        · rw [hin i (by omega) i1, hin j (by omega) j1] at hpq
          omega
    · obtain ⟨k1, rfl⟩ := zW_lt hk'
      by_cases ci : k' < n
      · show zA ad0 B.2.1 s.heap.size (ad' k')
        rw [hout k' (Or.inl ci)]
        exact h4.2 k' _ (zW_at ci)
      · show zA ad0 B.2.1 s.heap.size (ad' k')
        rw [hin k' (by omega) k1]
        have := h5.1
        exact Or.inr (by omega)
  have hS' : va_S (zA ad0 B.2.1 s.heap.size) s.heap F.heap locs := ⟨by have := h5.1; rw [f1]; omega, fun q hq1 hq2 => by rw [hold q (Nat.lt_of_lt_of_le hq1 h5.1)]; exact h5.2.1 q hq1 hq2, h5.2.2⟩
  have hag : zAg B.2.1 (n + 11) ad0 ad' := fun i hi => by
    rw [hout i (by omega)]
    exact h1 i (by omega)
  have hag1 : zAg n (n + 11) ad ad' := fun i hi => hout i hi
  have hL2 : zL ls M.2.2.1 ad' loc := zL_ad h2 (fun v hv => zok_cv hag1 (by simpa using List.all_eq_true.mp hokL _ hv))
  have hst2 : rest.map (zcv ad) = rest.map (zcv ad') := List.map_congr_left (fun v hv => (zok_cv hag1 (List.all_eq_true.mp hokS _ hv)).symm)
  have hw := k l p e R s m args below meth c D dA ad0 adV xc xs Qm hC hR ad' F.heap locs ls hag hL2 hP' hD' hS' (by omega) hn1
  have e1 : n - B.2.1 + xc + 11 = n + 11 - B.2.1 + xc := by omega
  have e2 : zSL n - zSL B.2.1 + xs + 50 = zSL (n + 11) - zSL B.2.1 + xs := by omega
  rw [e1, e2] at X'
  obtain ⟨t, b1, b2⟩ := hw F rfl X'
  refine ⟨t, step t ?_, b2⟩
  have e3 : ((Value.ref n :: rest).map (zcv ad')) = Value.ref T.heap.size :: rest.map (zcv ad) := by
    rw [hst2]
    show Value.ref (ad' n) :: _ = _
    rw [hin n (Nat.le_refl _) (by omega), Nat.sub_self, Nat.add_zero, hT]
  rw [e3] at b1
  exact b1
