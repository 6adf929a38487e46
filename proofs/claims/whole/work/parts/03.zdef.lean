/-! THE WORLD OF THE LAW'S RUN AS ONE MEMORY: every cell that the run makes has a place 0, 1, ..; a cell's kind and length by its place are fixed (zSH); its ints, references, longs are functions of place and slot. -/
abbrev zI : Type := Nat → Nat → Int32
abbrev zR : Type := Nat → Nat → Option Nat
abbrev zJ : Type := Nat → Nat → Int64
/-- kinds: 0 int[], 1 byte[], 2 boolean[], 3 long[], 4 State[], 5 ItemRow[], 6 Partings[], 7 int[][]; 20 + c an object of class c -/
def zSHl : List (Nat × Nat) := [(30, 15), (26, 10), (29, 6), (0, 10), (0, 10), (0, 10), (0, 10), (1, 300), (29, 6), (0, 10), (0, 10), (0, 10), (0, 10), (22, 4), (4, 10), (4, 2), (29, 6), (0, 10), (0, 10), (0, 10), (0, 10), (29, 6), (0, 10), (0, 10), (0, 10), (0, 10), (29, 6), (0, 10), (0, 10), (0, 10), (0, 10), (29, 6), (0, 10), (0, 10), (0, 10), (0, 10), (29, 6), (0, 10), (0, 10), (0, 10), (0, 10), (29, 6), (0, 10), (0, 10), (0, 10), (0, 10), (29, 6), (0, 10), (0, 10), (0, 10), (0, 10), (29, 6), (0, 10), (0, 10), (0, 10), (0, 10), (29, 6), (0, 10), (0, 10), (0, 10), (0, 10), (29, 6), (0, 10), (0, 10), (0, 10), (0, 10), (29, 6), (0, 10), (0, 10), (0, 10), (0, 10), (29, 6), (0, 10), (0, 10), (0, 10), (0, 10), (21, 8), (0, 10), (0, 4), (20, 3), (23, 4), (0, 10), (0, 10), (0, 10), (0, 10), (0, 10), (27, 11), (0, 512), (0, 512), (5, 10), (23, 4), (0, 10), (0, 10), (0, 10), (23, 4), (0, 10), (0, 10), (0, 10), (23, 4), (0, 10), (0, 10), (0, 10), (23, 4), (0, 10), (0, 10), (0, 10), (23, 4), (0, 10), (0, 10), (0, 10), (23, 4), (0, 10), (0, 10), (0, 10), (23, 4), (0, 10), (0, 10), (0, 10), (23, 4), (0, 10), (0, 10), (0, 10), (23, 4), (0, 10), (0, 10), (0, 10), (23, 4), (0, 10), (0, 10), (0, 10), (24, 6), (7, 10), (0, 4), (0, 4), (0, 4), (0, 4), (0, 4), (0, 4), (0, 4), (0, 4), (0, 4), (0, 4), (7, 10), (0, 4), (0, 4), (0, 4), (0, 4), (0, 4), (0, 4), (0, 4), (0, 4), (0, 4), (0, 4), (2, 10), (6, 3), (28, 4), (0, 1024), (0, 1024), (1, 64), (25, 13), (0, 10), (0, 10), (0, 4), (0, 4), (25, 13), (0, 10), (0, 10), (0, 4), (0, 4), (25, 13), (0, 10), (0, 10), (0, 4), (0, 4), (31, 52), (0, 300), (0, 35), (0, 35), (0, 350), (0, 70), (2, 2), (0, 10), (0, 4), (0, 10), (0, 12), (0, 120), (0, 120), (0, 120), (0, 10), (0, 10), (0, 600), (0, 600), (0, 40), (0, 40), (0, 4), (0, 4), (0, 1024), (0, 35), (0, 80), (3, 1)]
def zSH (i : Nat) : Nat × Nat := zSHl.getD i (99, 0)
def zSL (n : Nat) : Nat := ((zSHl.take n).map (fun q => q.2)).sum
def zcv (ad : Nat → Nat) : Value → Value
  | .ref i => .ref (ad i)
  | v => v
def zty (ci : Nat) : Nat → FieldType := match ci with
  | 0 => tyX0
  | 1 => tyX1
  | 2 => tyX2
  | 3 => tyX3
  | 4 => tyX4
  | 5 => tyX5
  | 6 => tyX6
  | 7 => tyX7
  | 8 => tyX8
  | 9 => tyX9
  | 10 => tyX10
  | _ => tyX11
def zkf : FieldType → Nat
  | .long => 1
  | .object _ => 2
  | .array _ => 2
  | _ => 0
def zFv (ad : Nat → Nat) (iv : zI) (rv : zR) (lv : zJ) (i k : Nat) (t : Nat) : Value := match t with
  | 0 => .int (iv i k)
  | 1 => .long (lv i k)
  | _ => va_rf ((rv i k).map ad)
def zEk (dA : Nat → ClassId) (ad : Nat → Nat) (iv : zI) (rv : zR) (lv : zJ) (i t n : Nat) : va_E :=
  if t < 3 then .inl (dA t, n, .inl (iv i))
  else if t = 3 then .inl (dA 3, n, .inr (.inl (lv i)))
  else if t < 20 then .inl (dA t, n, .inr (.inr (.inr (.inr (fun j => (rv i j).map ad)))))
  else .inr (t - 20, (List.range n).map (fun k => zFv ad iv rv lv i k (zkf (zty (t - 20) k))))
def zE (dA : Nat → ClassId) (ad : Nat → Nat) (iv : zI) (rv : zR) (lv : zJ) (i : Nat) : va_E := zEk dA ad iv rv lv i (zSH i).1 (zSH i).2
def zW (dA : Nat → ClassId) (ad : Nat → Nat) (n : Nat) (iv : zI) (rv : zR) (lv : zJ) : va_W := (List.range n).map (fun i => (ad i, zE dA ad iv rv lv i))
theorem zW_at {dA : Nat → ClassId} {ad : Nat → Nat} {n : Nat} {iv : zI} {rv : zR} {lv : zJ} {i : Nat} (h : i < n) : (zW dA ad n iv rv lv)[i]? = some (ad i, zE dA ad iv rv lv i) := by
  simp [zW, h]
theorem zW_len {dA : Nat → ClassId} {ad : Nat → Nat} {n : Nat} {iv : zI} {rv : zR} {lv : zJ} : (zW dA ad n iv rv lv).length = n := by
  simp [zW]
theorem zW_lt {dA : Nat → ClassId} {ad : Nat → Nat} {n : Nat} {iv : zI} {rv : zR} {lv : zJ} {i : Nat} {q : Nat × va_E} (h : (zW dA ad n iv rv lv)[i]? = some q) : i < n ∧ q = (ad i, zE dA ad iv rv lv i) := by
  have hi : i < n := by
    have := (List.getElem?_eq_some_iff.mp h).1
    rwa [zW_len] at this
  rw [zW_at hi] at h
  exact ⟨hi, (Option.some.inj h).symm⟩
theorem zW_set {dA : Nat → ClassId} {ad : Nat → Nat} {n : Nat} {iv iv' : zI} {rv rv' : zR} {lv lv' : zJ} {i : Nat} {x : va_E} (hx : zE dA ad iv' rv' lv' i = x) (ho : ∀ j, j ≠ i → zE dA ad iv' rv' lv' j = zE dA ad iv rv lv j) : (zW dA ad n iv rv lv).set i (ad i, x) = zW dA ad n iv' rv' lv' := by
  subst hx
  apply List.ext_getElem?
  intro j
  rw [List.getElem?_set]
  by_cases hij : i = j
  · subst hij
    by_cases hi : i < n
    · simp [zW, hi]
    · simp [zW, hi]
  · rw [if_neg hij]
    by_cases hj : j < n
    · rw [zW_at hj, zW_at hj, ho j (fun e => hij e.symm)]
    · simp [zW, hj]
/-- one slot of one cell becomes x -/
def zu {α : Type} (f : Nat → Nat → α) (o k : Nat) (x : α) : Nat → Nat → α := fun a b => if a = o ∧ b = k then x else f a b
theorem zu_eq {α : Type} {f : Nat → Nat → α} {o k : Nat} {x : α} : zu f o k x o k = x := by simp [zu]
theorem zu_o {α : Type} {f : Nat → Nat → α} {o k a b : Nat} {x : α} (h : a ≠ o) : zu f o k x a b = f a b := by simp [zu, h]
theorem zu_k {α : Type} {f : Nat → Nat → α} {o k a b : Nat} {x : α} (h : b ≠ k) : zu f o k x a b = f a b := by simp [zu, h]
theorem zu_row {α : Type} {f : Nat → Nat → α} {o k a : Nat} {x : α} (h : a ≠ o) : zu f o k x a = f a := by funext b; simp [zu, h]
theorem zu_upd {f : zI} {o k : Nat} {x : Int32} : zu f o k x o = upd (f o) k x := by funext b; simp [zu, upd]
theorem zu_updL {f : zJ} {o k : Nat} {x : Int64} : zu f o k x o = vp_updL (f o) k x := by funext b; simp [zu, vp_updL]
theorem zE_i {dA : Nat → ClassId} {ad : Nat → Nat} {iv iv' : zI} {rv : zR} {lv : zJ} {j : Nat} (h : iv' j = iv j) : zE dA ad iv' rv lv j = zE dA ad iv rv lv j := by
  simp only [zE, zEk, zFv, h]
theorem zE_r {dA : Nat → ClassId} {ad : Nat → Nat} {iv : zI} {rv rv' : zR} {lv : zJ} {j : Nat} (h : rv' j = rv j) : zE dA ad iv rv' lv j = zE dA ad iv rv lv j := by
  simp only [zE, zEk, zFv, h]
theorem zE_l {dA : Nat → ClassId} {ad : Nat → Nat} {iv : zI} {rv : zR} {lv lv' : zJ} {j : Nat} (h : lv' j = lv j) : zE dA ad iv rv lv' j = zE dA ad iv rv lv j := by
  simp only [zE, zEk, zFv, h]
def zAT (t : Nat) : FieldType := match t with
  | 0 => .int
  | 1 => .byte
  | 2 => .boolean
  | 3 => .long
  | 4 => .object RX9
  | 5 => .object RX3
  | 6 => .object RX5
  | _ => .array .int
def zTy (dA : Nat → ClassId) : List (ClassId × FieldType) := [(dA 0, .int), (dA 1, .byte), (dA 2, .boolean), (dA 3, .long), (dA 4, .object RX9), (dA 5, .object RX3), (dA 6, .object RX5), (dA 7, .array .int)]
/-- what a method may write: the cells that were there when it began, and new ones -/
def zA (ad : Nat → Nat) (n sz : Nat) : Nat → Prop := fun q => (∃ i, i < n ∧ q = ad i) ∨ sz ≤ q
/-- new places alone have new addresses -/
def zAg (n n' : Nat) (ad ad' : Nat → Nat) : Prop := ∀ i, i < n ∨ n' ≤ i → ad' i = ad i
theorem zAg.rf {n n' : Nat} {ad : Nat → Nat} : zAg n n' ad ad := fun _ _ => rfl
theorem zAg.same {n : Nat} {ad ad' : Nat → Nat} (h : zAg n n ad ad') : ad' = ad := funext fun i => h i (by omega)
theorem zAg.trans {a b c : Nat} {ad ad1 ad2 : Nat → Nat} (hab : a ≤ b) (hbc : b ≤ c) (h1 : zAg a b ad ad1) (h2 : zAg b c ad1 ad2) : zAg a c ad ad2 := fun i hi => by
  rw [h2 i (by omega), h1 i (by omega)]
/-- the String constants: their places are 1,000,000 and on -/
def zSl : List Nat := [6, 5, 4, 2, 5]
def zSb : List (List Int32) := [[110, 117, 109, 98, 101, 114], [104, 101, 97, 112, 115], [107, 101, 101, 112], [105, 110], [97, 112, 97, 114, 116]]
/-- 'arrayOver' of a state -/
def zAO (t : FieldType) (U : State) : Prop := (Cond.arrayOver t).before #[] U = true
theorem zAO.moved {t : FieldType} {u U : State} (hvm : u.vm.Alike U.vm) (h : zAO t u) : zAO t U := by
  have h1 : va_Nw (.arrayOver t) (u.setVm U.vm) := by
    unfold va_Nw
    rw [Cond.arrayOver_setVmC hvm]
    exact h
  exact h1
def zNp (U : State) : Prop := ∀ q ∈ zNs, va_Nw (.methodLinkNest q.1 q.2.1 q.2.2 "NumberHeaps") U
theorem zNp.same {u U : State} (h : u.vm = U.vm) (hZ : zNp u) : zNp U := fun q hq => (hZ q hq).same rfl h
theorem zNp.warm {s U : State} (hW : s.WarmedH U.vm) (hZ : zNp s) : zNp U := fun q hq => (hZ q hq).warmM hW
/-- what is said of states' tables beside the words -/
def zTb (U : State) : Prop := zNp U ∧ va_AO RX9 U ∧ va_AO RX3 U ∧ va_AO RX5 U ∧ zAO (.array .int) U
theorem zTb.same {u U : State} (h : u.vm = U.vm) (hZ : zTb u) : zTb U := by
  have hvm : u.vm.Alike U.vm := by rw [h]; exact Vm.Alike.refl _
  exact ⟨hZ.1.same h, hZ.2.1.moved hvm, hZ.2.2.1.moved hvm, hZ.2.2.2.1.moved hvm, hZ.2.2.2.2.moved hvm⟩
theorem zTb.warm {s U : State} (hW : s.WarmedH U.vm) (hZ : zTb s) : zTb U := ⟨hZ.1.warm hW, hZ.2.1.moved hW.alike, hZ.2.2.1.moved hW.alike, hZ.2.2.2.1.moved hW.alike, hZ.2.2.2.2.moved hW.alike⟩
def zSi (a : Nat) (A : Nat → Prop) (U : State) (H : Heap) : Prop := va_Z "jdk/internal/util/Preconditions" "SIOOBE_FORMATTER" "Ljava/util/function/BiFunction;" .null A U H ∨ va_Z "jdk/internal/util/Preconditions" "SIOOBE_FORMATTER" "Ljava/util/function/BiFunction;" (.ref a) A U H
theorem zSi.moved {a : Nat} {A : Nat → Prop} {u U : State} {H : Heap} (hvm : u.vm.Alike U.vm) (h : zSi a A u H) : zSi a A U H := h.imp (va_Z.moved hvm) (va_Z.moved hvm)
theorem zSi.kept {a : Nat} {A : Nat → Prop} {U : State} {H H1 : Heap} (h : zSi a A U H) (hq : ∀ a : Nat, a < H.size → ¬ A a → H1[a]? = H[a]?) : zSi a A U H1 := h.imp (fun h => h.kept hq) (fun h => h.kept hq)
theorem zSi.narrow {a : Nat} {A B : Nat → Prop} {U : State} {H : Heap} (h : zSi a A U H) (hAB : ∀ q, B q → A q) : zSi a B U H := h.imp (fun h => h.narrow hAB) (fun h => h.narrow hAB)
def zX (ad adV : Nat → Nat) (A : Nat → Prop) (U : State) (H : Heap) : Prop :=
  vk_S 5 zSl zSb (fun i => ad (1000000 + i)) (fun i => ad (1500000 + i)) A U H ∧
  (vk_R RX6 74 "number" (ad 1000000) U ∧ vk_R RX6 83 "heaps" (ad 1000001) U ∧ vk_R RX6 88 "keep" (ad 1000002) U ∧ vk_R RX6 113 "in" (ad 1000003) U ∧ vk_R RX6 93 "apart" (ad 1000004) U) ∧
  (vk_R RX11 180 "number" (ad 1000000) U ∧ vk_R RX11 185 "heaps" (ad 1000001) U ∧ vk_R RX11 191 "keep" (ad 1000002) U ∧ vk_R RX11 171 "in" (ad 1000003) U ∧ vk_R RX11 196 "apart" (ad 1000004) U) ∧
  va_Z "java/lang/String" "COMPACT_STRINGS" "Z" (.int 1) A U H ∧ zSi (ad 1600000) A U H ∧ zTb U
theorem zX.same {ad adV : Nat → Nat} {A : Nat → Prop} {u U : State} {H : Heap} (hv : U.vm = u.vm) (h : zX ad adV A u H) : zX ad adV A U H := by
  obtain ⟨h1, ⟨a1, a2, a3, a4, a5⟩, ⟨b1, b2, b3, b4, b5⟩, h4, h5, h6⟩ := h
  have hvm : u.vm.Alike U.vm := by rw [hv]; exact Vm.Alike.refl _
  exact ⟨h1.moved hvm, ⟨a1.same hv, a2.same hv, a3.same hv, a4.same hv, a5.same hv⟩, ⟨b1.same hv, b2.same hv, b3.same hv, b4.same hv, b5.same hv⟩, va_Z.moved hvm h4, zSi.moved hvm h5, h6.same hv.symm⟩
theorem zX.warm {ad adV : Nat → Nat} {A : Nat → Prop} {s U : State} {H : Heap} (hW : s.WarmedH U.vm) (h : zX ad adV A s H) : zX ad adV A U H := by
  obtain ⟨h1, ⟨a1, a2, a3, a4, a5⟩, ⟨b1, b2, b3, b4, b5⟩, h4, h5, h6⟩ := h
  exact ⟨h1.moved hW.alike, ⟨a1.warm hW, a2.warm hW, a3.warm hW, a4.warm hW, a5.warm hW⟩, ⟨b1.warm hW, b2.warm hW, b3.warm hW, b4.warm hW, b5.warm hW⟩, va_Z.moved hW.alike h4, zSi.moved hW.alike h5, h6.warm hW⟩
theorem zX.kept {ad adV : Nat → Nat} {A : Nat → Prop} {U : State} {H H1 : Heap} (h : zX ad adV A U H) (hq : ∀ a : Nat, a < H.size → ¬ A a → H1[a]? = H[a]?) : zX ad adV A U H1 := by
  obtain ⟨h1, h2, h3, h4, h5, h6⟩ := h
  exact ⟨h1.kept hq, h2, h3, h4.kept hq, h5.kept hq, h6⟩
theorem zX.narrow {ad adV : Nat → Nat} {A B : Nat → Prop} {U : State} {H : Heap} (h : zX ad adV A U H) (hAB : ∀ q, B q → A q) : zX ad adV B U H := by
  obtain ⟨h1, h2, h3, h4, h5, h6⟩ := h
  exact ⟨h1.narrow hAB, h2, h3, h4.narrow hAB, h5.narrow hAB, h6⟩
theorem zX.ad {ad ad' adV : Nat → Nat} {A : Nat → Prop} {U : State} {H : Heap} (h : zX ad adV A U H) (e : ∀ i, 1000000 ≤ i → ad' i = ad i) : zX ad' adV A U H := by
  have e2 : (fun i => ad' (1000000 + i)) = fun i => ad (1000000 + i) := funext fun i => e _ (by omega)
  unfold zX
  have e3 : (fun i => ad' (1500000 + i)) = fun i => ad (1500000 + i) := funext fun i => e _ (by omega)
  rw [e2, e3, e 1000000 (by omega), e 1000001 (by omega), e 1000002 (by omega), e 1000003 (by omega), e 1000004 (by omega), e 1600000 (by omega)]
  exact h
