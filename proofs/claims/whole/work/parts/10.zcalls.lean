/-! CALLS of methods that make nothing, by what they answer; places of the kinds of objects. -/
theorem Z_callVi {M : zM} {B : zB} {pc q : Nat} {loc : List (Option Value)} {rest st : List Value} {iv : zI} {rv : zR} {lv : zJ} {Q : zQ} {M2 : zM} {idx d2 na o : Nat} {As : List Value} {Q2 : Int32 → zI → zR → zJ → Prop} (hd : decode M.2.1 pc = .ok (.invokevirtual idx, 3)) (hk : zMi M2 na) (hl : Cond.methodLink M.1.cls idx M2.1 ∈ Wd) {ci N : Nat} {T : u_T} (hc : vwCl[ci]? = some (M2.1.cls, T, N)) (hs : zSH o = (ci + 20, N)) (ho : o < 200) (hst : As.reverse ++ .ref o :: rest = st) (hna : As.length = na) (hml : M2.2.2.1 ≤ 40) (hcat : (rest.map fun v => v.category).sum ≤ 8) (hd2 : d2 + 1 ≤ B.1) (hm : Ci M2 d2 (.ref o :: As) iv rv lv Q2) (hq : pc + 3 = q) (k : ∀ (x : Int32) (iv' : zI) (rv' : zR) (lv' : zJ), Q2 x iv' rv' lv' → Z M B q loc (.int x :: rest) 200 iv' rv' lv' Q) : Z M B pc loc st 200 iv rv lv Q := Z_callV hd hk hl hc hs ho hst hna hml hcat hd2 hm hq (fun r iv' rv' lv' h => by obtain ⟨x, rfl, h⟩ := h; exact k x iv' rv' lv' h)
theorem Z_callVv {M : zM} {B : zB} {pc q : Nat} {loc : List (Option Value)} {rest st : List Value} {iv : zI} {rv : zR} {lv : zJ} {Q : zQ} {M2 : zM} {idx d2 na o : Nat} {As : List Value} {Q2 : zI → zR → zJ → Prop} (hd : decode M.2.1 pc = .ok (.invokevirtual idx, 3)) (hk : zMi M2 na) (hl : Cond.methodLink M.1.cls idx M2.1 ∈ Wd) {ci N : Nat} {T : u_T} (hc : vwCl[ci]? = some (M2.1.cls, T, N)) (hs : zSH o = (ci + 20, N)) (ho : o < 200) (hst : As.reverse ++ .ref o :: rest = st) (hna : As.length = na) (hml : M2.2.2.1 ≤ 40) (hcat : (rest.map fun v => v.category).sum ≤ 8) (hd2 : d2 + 1 ≤ B.1) (hm : Cv M2 d2 (.ref o :: As) iv rv lv Q2) (hq : pc + 3 = q) (k : ∀ (iv' : zI) (rv' : zR) (lv' : zJ), Q2 iv' rv' lv' → Z M B q loc (rest) 200 iv' rv' lv' Q) : Z M B pc loc st 200 iv rv lv Q := Z_callV hd hk hl hc hs ho hst hna hml hcat hd2 hm hq (fun r iv' rv' lv' h => by obtain ⟨rfl, h⟩ := h; exact k iv' rv' lv' h)
theorem Z_callVl {M : zM} {B : zB} {pc q : Nat} {loc : List (Option Value)} {rest st : List Value} {iv : zI} {rv : zR} {lv : zJ} {Q : zQ} {M2 : zM} {idx d2 na o : Nat} {As : List Value} {Q2 : Int64 → zI → zR → zJ → Prop} (hd : decode M.2.1 pc = .ok (.invokevirtual idx, 3)) (hk : zMi M2 na) (hl : Cond.methodLink M.1.cls idx M2.1 ∈ Wd) {ci N : Nat} {T : u_T} (hc : vwCl[ci]? = some (M2.1.cls, T, N)) (hs : zSH o = (ci + 20, N)) (ho : o < 200) (hst : As.reverse ++ .ref o :: rest = st) (hna : As.length = na) (hml : M2.2.2.1 ≤ 40) (hcat : (rest.map fun v => v.category).sum ≤ 8) (hd2 : d2 + 1 ≤ B.1) (hm : Cl M2 d2 (.ref o :: As) iv rv lv Q2) (hq : pc + 3 = q) (k : ∀ (x : Int64) (iv' : zI) (rv' : zR) (lv' : zJ), Q2 x iv' rv' lv' → Z M B q loc (.long x :: rest) 200 iv' rv' lv' Q) : Z M B pc loc st 200 iv rv lv Q := Z_callV hd hk hl hc hs ho hst hna hml hcat hd2 hm hq (fun r iv' rv' lv' h => by obtain ⟨x, rfl, h⟩ := h; exact k x iv' rv' lv' h)
theorem Z_callVr {M : zM} {B : zB} {pc q : Nat} {loc : List (Option Value)} {rest st : List Value} {iv : zI} {rv : zR} {lv : zJ} {Q : zQ} {M2 : zM} {idx d2 na o : Nat} {As : List Value} {Q2 : Nat → zI → zR → zJ → Prop} (hd : decode M.2.1 pc = .ok (.invokevirtual idx, 3)) (hk : zMi M2 na) (hl : Cond.methodLink M.1.cls idx M2.1 ∈ Wd) {ci N : Nat} {T : u_T} (hc : vwCl[ci]? = some (M2.1.cls, T, N)) (hs : zSH o = (ci + 20, N)) (ho : o < 200) (hst : As.reverse ++ .ref o :: rest = st) (hna : As.length = na) (hml : M2.2.2.1 ≤ 40) (hcat : (rest.map fun v => v.category).sum ≤ 8) (hd2 : d2 + 1 ≤ B.1) (hm : Cr M2 d2 (.ref o :: As) iv rv lv Q2) (hq : pc + 3 = q) (k : ∀ (x : Nat) (iv' : zI) (rv' : zR) (lv' : zJ), Q2 x iv' rv' lv' → Z M B q loc (.ref x :: rest) 200 iv' rv' lv' Q) : Z M B pc loc st 200 iv rv lv Q := Z_callV hd hk hl hc hs ho hst hna hml hcat hd2 hm hq (fun r iv' rv' lv' h => by obtain ⟨x, rfl, h⟩ := h; exact k x iv' rv' lv' h)
theorem Z_callSi {M : zM} {B : zB} {pc q : Nat} {loc : List (Option Value)} {rest st : List Value} {iv : zI} {rv : zR} {lv : zJ} {Q : zQ} {M2 : zM} {idx d2 na : Nat} {As : List Value} {Q2 : Int32 → zI → zR → zJ → Prop} (hd : decode M.2.1 pc = .ok (.invokestatic idx, 3)) (hk : zMs M2 na) (hl : Cond.methodLink M.1.cls idx M2.1 ∈ Wd) (hst : As.reverse ++ rest = st) (hna : As.length = na) (hml : M2.2.2.1 ≤ 40) (hcat : (rest.map fun v => v.category).sum ≤ 8) (hd2 : d2 + 1 ≤ B.1) (hm : Ci M2 d2 As iv rv lv Q2) (hq : pc + 3 = q) (k : ∀ (x : Int32) (iv' : zI) (rv' : zR) (lv' : zJ), Q2 x iv' rv' lv' → Z M B q loc (.int x :: rest) 200 iv' rv' lv' Q) : Z M B pc loc st 200 iv rv lv Q := Z_callS hd hk hl hst hna hml hcat hd2 hm hq (fun r iv' rv' lv' h => by obtain ⟨x, rfl, h⟩ := h; exact k x iv' rv' lv' h)
theorem Z_callSv {M : zM} {B : zB} {pc q : Nat} {loc : List (Option Value)} {rest st : List Value} {iv : zI} {rv : zR} {lv : zJ} {Q : zQ} {M2 : zM} {idx d2 na : Nat} {As : List Value} {Q2 : zI → zR → zJ → Prop} (hd : decode M.2.1 pc = .ok (.invokestatic idx, 3)) (hk : zMs M2 na) (hl : Cond.methodLink M.1.cls idx M2.1 ∈ Wd) (hst : As.reverse ++ rest = st) (hna : As.length = na) (hml : M2.2.2.1 ≤ 40) (hcat : (rest.map fun v => v.category).sum ≤ 8) (hd2 : d2 + 1 ≤ B.1) (hm : Cv M2 d2 As iv rv lv Q2) (hq : pc + 3 = q) (k : ∀ (iv' : zI) (rv' : zR) (lv' : zJ), Q2 iv' rv' lv' → Z M B q loc (rest) 200 iv' rv' lv' Q) : Z M B pc loc st 200 iv rv lv Q := Z_callS hd hk hl hst hna hml hcat hd2 hm hq (fun r iv' rv' lv' h => by obtain ⟨rfl, h⟩ := h; exact k iv' rv' lv' h)
theorem Z_callSl {M : zM} {B : zB} {pc q : Nat} {loc : List (Option Value)} {rest st : List Value} {iv : zI} {rv : zR} {lv : zJ} {Q : zQ} {M2 : zM} {idx d2 na : Nat} {As : List Value} {Q2 : Int64 → zI → zR → zJ → Prop} (hd : decode M.2.1 pc = .ok (.invokestatic idx, 3)) (hk : zMs M2 na) (hl : Cond.methodLink M.1.cls idx M2.1 ∈ Wd) (hst : As.reverse ++ rest = st) (hna : As.length = na) (hml : M2.2.2.1 ≤ 40) (hcat : (rest.map fun v => v.category).sum ≤ 8) (hd2 : d2 + 1 ≤ B.1) (hm : Cl M2 d2 As iv rv lv Q2) (hq : pc + 3 = q) (k : ∀ (x : Int64) (iv' : zI) (rv' : zR) (lv' : zJ), Q2 x iv' rv' lv' → Z M B q loc (.long x :: rest) 200 iv' rv' lv' Q) : Z M B pc loc st 200 iv rv lv Q := Z_callS hd hk hl hst hna hml hcat hd2 hm hq (fun r iv' rv' lv' h => by obtain ⟨x, rfl, h⟩ := h; exact k x iv' rv' lv' h)
theorem Z_callSr {M : zM} {B : zB} {pc q : Nat} {loc : List (Option Value)} {rest st : List Value} {iv : zI} {rv : zR} {lv : zJ} {Q : zQ} {M2 : zM} {idx d2 na : Nat} {As : List Value} {Q2 : Nat → zI → zR → zJ → Prop} (hd : decode M.2.1 pc = .ok (.invokestatic idx, 3)) (hk : zMs M2 na) (hl : Cond.methodLink M.1.cls idx M2.1 ∈ Wd) (hst : As.reverse ++ rest = st) (hna : As.length = na) (hml : M2.2.2.1 ≤ 40) (hcat : (rest.map fun v => v.category).sum ≤ 8) (hd2 : d2 + 1 ≤ B.1) (hm : Cr M2 d2 As iv rv lv Q2) (hq : pc + 3 = q) (k : ∀ (x : Nat) (iv' : zI) (rv' : zR) (lv' : zJ), Q2 x iv' rv' lv' → Z M B q loc (.ref x :: rest) 200 iv' rv' lv' Q) : Z M B pc loc st 200 iv rv lv Q := Z_callS hd hk hl hst hna hml hcat hd2 hm hq (fun r iv' rv' lv' h => by obtain ⟨x, rfl, h⟩ := h; exact k x iv' rv' lv' h)
theorem Z_callSNi {M : zM} {B : zB} {pc q : Nat} {loc : List (Option Value)} {rest st : List Value} {iv : zI} {rv : zR} {lv : zJ} {Q : zQ} {M2 : zM} {idx d2 na : Nat} {As : List Value} {Q2 : Int32 → zI → zR → zJ → Prop} (hd : decode M.2.1 pc = .ok (.invokestatic idx, 3)) (hk : zMs M2 na) (hl : (M.1.cls, idx, M2.1) ∈ zNs) (hst : As.reverse ++ rest = st) (hna : As.length = na) (hml : M2.2.2.1 ≤ 40) (hcat : (rest.map fun v => v.category).sum ≤ 8) (hd2 : d2 + 1 ≤ B.1) (hm : Ci M2 d2 As iv rv lv Q2) (hq : pc + 3 = q) (k : ∀ (x : Int32) (iv' : zI) (rv' : zR) (lv' : zJ), Q2 x iv' rv' lv' → Z M B q loc (.int x :: rest) 200 iv' rv' lv' Q) : Z M B pc loc st 200 iv rv lv Q := Z_callSN hd hk hl hst hna hml hcat hd2 hm hq (fun r iv' rv' lv' h => by obtain ⟨x, rfl, h⟩ := h; exact k x iv' rv' lv' h)
theorem Z_callSNv {M : zM} {B : zB} {pc q : Nat} {loc : List (Option Value)} {rest st : List Value} {iv : zI} {rv : zR} {lv : zJ} {Q : zQ} {M2 : zM} {idx d2 na : Nat} {As : List Value} {Q2 : zI → zR → zJ → Prop} (hd : decode M.2.1 pc = .ok (.invokestatic idx, 3)) (hk : zMs M2 na) (hl : (M.1.cls, idx, M2.1) ∈ zNs) (hst : As.reverse ++ rest = st) (hna : As.length = na) (hml : M2.2.2.1 ≤ 40) (hcat : (rest.map fun v => v.category).sum ≤ 8) (hd2 : d2 + 1 ≤ B.1) (hm : Cv M2 d2 As iv rv lv Q2) (hq : pc + 3 = q) (k : ∀ (iv' : zI) (rv' : zR) (lv' : zJ), Q2 iv' rv' lv' → Z M B q loc (rest) 200 iv' rv' lv' Q) : Z M B pc loc st 200 iv rv lv Q := Z_callSN hd hk hl hst hna hml hcat hd2 hm hq (fun r iv' rv' lv' h => by obtain ⟨rfl, h⟩ := h; exact k iv' rv' lv' h)
theorem Z_callSNl {M : zM} {B : zB} {pc q : Nat} {loc : List (Option Value)} {rest st : List Value} {iv : zI} {rv : zR} {lv : zJ} {Q : zQ} {M2 : zM} {idx d2 na : Nat} {As : List Value} {Q2 : Int64 → zI → zR → zJ → Prop} (hd : decode M.2.1 pc = .ok (.invokestatic idx, 3)) (hk : zMs M2 na) (hl : (M.1.cls, idx, M2.1) ∈ zNs) (hst : As.reverse ++ rest = st) (hna : As.length = na) (hml : M2.2.2.1 ≤ 40) (hcat : (rest.map fun v => v.category).sum ≤ 8) (hd2 : d2 + 1 ≤ B.1) (hm : Cl M2 d2 As iv rv lv Q2) (hq : pc + 3 = q) (k : ∀ (x : Int64) (iv' : zI) (rv' : zR) (lv' : zJ), Q2 x iv' rv' lv' → Z M B q loc (.long x :: rest) 200 iv' rv' lv' Q) : Z M B pc loc st 200 iv rv lv Q := Z_callSN hd hk hl hst hna hml hcat hd2 hm hq (fun r iv' rv' lv' h => by obtain ⟨x, rfl, h⟩ := h; exact k x iv' rv' lv' h)
theorem Z_callSNr {M : zM} {B : zB} {pc q : Nat} {loc : List (Option Value)} {rest st : List Value} {iv : zI} {rv : zR} {lv : zJ} {Q : zQ} {M2 : zM} {idx d2 na : Nat} {As : List Value} {Q2 : Nat → zI → zR → zJ → Prop} (hd : decode M.2.1 pc = .ok (.invokestatic idx, 3)) (hk : zMs M2 na) (hl : (M.1.cls, idx, M2.1) ∈ zNs) (hst : As.reverse ++ rest = st) (hna : As.length = na) (hml : M2.2.2.1 ≤ 40) (hcat : (rest.map fun v => v.category).sum ≤ 8) (hd2 : d2 + 1 ≤ B.1) (hm : Cr M2 d2 As iv rv lv Q2) (hq : pc + 3 = q) (k : ∀ (x : Nat) (iv' : zI) (rv' : zR) (lv' : zJ), Q2 x iv' rv' lv' → Z M B q loc (.ref x :: rest) 200 iv' rv' lv' Q) : Z M B pc loc st 200 iv rv lv Q := Z_callSN hd hk hl hst hna hml hcat hd2 hm hq (fun r iv' rv' lv' h => by obtain ⟨x, rfl, h⟩ := h; exact k x iv' rv' lv' h)
theorem hS9_0 {o : Nat} (ho : o ∈ zSts) : zSH (o) = (29, 6) := (sSts o ho).1
theorem hL9_0 {o : Nat} (ho : o ∈ zSts) : o < 200 := by
  have h := (sSts o ho).2.2.2.2.2
  omega
theorem hS9_1 {o : Nat} (ho : o ∈ zSts) : zSH (o + 1) = (0, 10) := (sSts o ho).2.1
theorem hL9_1 {o : Nat} (ho : o ∈ zSts) : o + 1 < 200 := by
  have h := (sSts o ho).2.2.2.2.2
  omega
theorem hS9_2 {o : Nat} (ho : o ∈ zSts) : zSH (o + 2) = (0, 10) := (sSts o ho).2.2.1
theorem hL9_2 {o : Nat} (ho : o ∈ zSts) : o + 2 < 200 := by
  have h := (sSts o ho).2.2.2.2.2
  omega
theorem hS9_3 {o : Nat} (ho : o ∈ zSts) : zSH (o + 3) = (0, 10) := (sSts o ho).2.2.2.1
theorem hL9_3 {o : Nat} (ho : o ∈ zSts) : o + 3 < 200 := by
  have h := (sSts o ho).2.2.2.2.2
  omega
theorem hS9_4 {o : Nat} (ho : o ∈ zSts) : zSH (o + 4) = (0, 10) := (sSts o ho).2.2.2.2.1
theorem hL9_4 {o : Nat} (ho : o ∈ zSts) : o + 4 < 200 := by
  have h := (sSts o ho).2.2.2.2.2
  omega
theorem hS3_0 {o : Nat} (ho : o ∈ zIts) : zSH (o) = (23, 4) := (sIts o ho).1
theorem hL3_0 {o : Nat} (ho : o ∈ zIts) : o < 200 := by
  have h := (sIts o ho).2.2.2.2
  omega
theorem hS3_1 {o : Nat} (ho : o ∈ zIts) : zSH (o + 1) = (0, 10) := (sIts o ho).2.1
theorem hL3_1 {o : Nat} (ho : o ∈ zIts) : o + 1 < 200 := by
  have h := (sIts o ho).2.2.2.2
  omega
theorem hS3_2 {o : Nat} (ho : o ∈ zIts) : zSH (o + 2) = (0, 10) := (sIts o ho).2.2.1
theorem hL3_2 {o : Nat} (ho : o ∈ zIts) : o + 2 < 200 := by
  have h := (sIts o ho).2.2.2.2
  omega
theorem hS3_3 {o : Nat} (ho : o ∈ zIts) : zSH (o + 3) = (0, 10) := (sIts o ho).2.2.2.1
theorem hL3_3 {o : Nat} (ho : o ∈ zIts) : o + 3 < 200 := by
  have h := (sIts o ho).2.2.2.2
  omega
theorem hS5_0 {o : Nat} (ho : o ∈ zPts) : zSH (o) = (25, 13) := (sPts o ho).1
theorem hL5_0 {o : Nat} (ho : o ∈ zPts) : o < 200 := by
  have h := (sPts o ho).2.2.2.2.2
  omega
theorem hS5_1 {o : Nat} (ho : o ∈ zPts) : zSH (o + 1) = (0, 10) := (sPts o ho).2.1
theorem hL5_1 {o : Nat} (ho : o ∈ zPts) : o + 1 < 200 := by
  have h := (sPts o ho).2.2.2.2.2
  omega
theorem hS5_2 {o : Nat} (ho : o ∈ zPts) : zSH (o + 2) = (0, 10) := (sPts o ho).2.2.1
theorem hL5_2 {o : Nat} (ho : o ∈ zPts) : o + 2 < 200 := by
  have h := (sPts o ho).2.2.2.2.2
  omega
theorem hS5_3 {o : Nat} (ho : o ∈ zPts) : zSH (o + 3) = (0, 4) := (sPts o ho).2.2.2.1
theorem hL5_3 {o : Nat} (ho : o ∈ zPts) : o + 3 < 200 := by
  have h := (sPts o ho).2.2.2.2.2
  omega
theorem hS5_4 {o : Nat} (ho : o ∈ zPts) : zSH (o + 4) = (0, 4) := (sPts o ho).2.2.2.2.1
theorem hL5_4 {o : Nat} (ho : o ∈ zPts) : o + 4 < 200 := by
  have h := (sPts o ho).2.2.2.2.2
  omega
def zmx (x y : Int32) : Int32 := if x < y then y else x
def zmn (x y : Int32) : Int32 := if y < x then y else x
theorem zinc (x : Int32) : x + Int32.ofInt 1 = x + 1 := rfl
theorem zdec (x : Int32) : x + Int32.ofInt (-1) = x + -1 := rfl
theorem zinc6 (x : Int32) : x + Int32.ofInt 6 = x + 6 := rfl
theorem zinc8 (x : Int32) : x + Int32.ofInt (-8) = x + -8 := rfl
theorem zeqI {x k : Int32} (h : x.toInt = k.toInt) : x = k := Int32.toInt_inj.mp h
/-- locals that are known, but not needed any more -/
def zle : List (Option Value) → List (Option Value) → Prop
  | [], [] => True
  | none :: a, _ :: b => zle a b
  | some v :: a, some w :: b => v = w ∧ zle a b
  | _, _ => False
theorem zle_at : ∀ {a b : List (Option Value)} (_ : zle a b) (i : Nat) (v : Value), a[i]? = some (some v) → b[i]? = some (some v)
  | [], [], _, i, v, h => by simp at h
  | [], _ :: _, h, _, _, _ => absurd h (by simp [zle])
  | none :: a, [], h, _, _, _ => absurd h (by simp [zle])
  | some _ :: a, [], h, _, _, _ => absurd h (by simp [zle])
  | some _ :: a, none :: b, h, _, _, _ => absurd h (by simp [zle])
  | none :: a, w :: b, h, 0, v, e => by simp at e
  | none :: a, w :: b, h, i + 1, v, e => by
    rw [List.getElem?_cons_succ] at e ⊢
    exact zle_at (a := a) (b := b) h i v e
  | some u :: a, some w :: b, h, 0, v, e => by
    rw [List.getElem?_cons_zero] at e ⊢
    rw [← h.1]
    exact e
  | some u :: a, some w :: b, h, i + 1, v, e => by
    rw [List.getElem?_cons_succ] at e ⊢
    exact zle_at (a := a) (b := b) h.2 i v e
theorem Z_forget {M : zM} {B : zB} {pc : Nat} {loc loc2 : List (Option Value)} {st : List Value} {n : Nat} {iv : zI} {rv : zR} {lv : zJ} {Q : zQ} (k : Z M B pc loc2 st n iv rv lv Q) (hl : zle loc2 loc) : Z M B pc loc st n iv rv lv Q := by
  intro l p e R s m args below meth c D dA ad0 adV xc xs Qm hC hR ad H locs ls h1 h2 h3 h4 h5 h6 h7
  exact k l p e R s m args below meth c D dA ad0 adV xc xs Qm hC hR ad H locs ls h1 ⟨h2.1, h2.2.1, fun i v hi => h2.2.2 i v (zle_at hl i v hi)⟩ h3 h4 h5 h6 h7
