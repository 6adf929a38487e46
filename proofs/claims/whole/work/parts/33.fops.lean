/-! WHAT THE CALLS DO TO S, AND ANSWER: the numbers as they lie. -/
def rf (S : St) (t : Nat) : Int32 × St := (-1, sT S t)
def ok (S : St) (r : Int32) : Int32 × St := (r, sT S 0)
def nOf (S : St) (x : Int32) : Option (Sn × Nat) := match S.2.1 with
  | none => none
  | some s => if 0 ≤ x ∧ x < nI s.1 then some (s, x.toNatClampNeg) else none
theorem nOf_cases (S : St) (x : Int32) (hv : VT S) : (nOf S x = none ∧ (∀ s, S.2.1 = some s → x < 0 ∨ nI s.1 ≤ x)) ∨ ∃ s i, nOf S x = some (s, i) ∧ S.2.1 = some s ∧ i < s.1 ∧ x = nI i := by
  unfold nOf
  cases e : S.2.1 with
  | none => exact Or.inl ⟨rfl, fun s h => by cases h⟩
  | some s =>
    have hs := hv.2.1 s e
    rcases pk_ix x (show s.1 < 2 ^ 31 by have := hs.1.2; omega) with h | h | ⟨j, hj, rfl⟩
    · left
      refine ⟨?_, fun s' e' => by cases e'; exact Or.inl h⟩
      have : ¬ (0 ≤ x ∧ x < nI s.1) := fun q => absurd q.1 (Int32.not_le.mpr h)
      simp [this]
    · left
      refine ⟨?_, fun s' e' => by cases e'; exact Or.inr h⟩
      have : ¬ (0 ≤ x ∧ x < nI s.1) := fun q => absurd q.2 (Int32.not_lt.mpr h)
      simp [this]
    · right
      have h1 := hs.1.2
      have : 0 ≤ nI j ∧ nI j < nI s.1 := ⟨nI_pos' (by omega), nI_lt hj (by omega)⟩
      refine ⟨s, j, ?_, rfl, hj, rfl⟩
      simp only [this, and_self, if_true]
      rw [nI_clamp (by omega)]
def F_about (S : St) (w : Int32) : Int32 × St := match S.2.1 with
  | none => rf S 1
  | some s => if w = 0 then ok S (nI s.1) else if w = 1 then ok S (nI s.2.1) else if w = 2 then ok S (nI (sm s.2.2.1 s.1)) else if w = 3 then ok S (nI (cn (fun i => decide (0 < s.2.2.2.1 i)) s.1)) else if w = 4 then ok S (nI s.2.2.2.2.length) else if w = 5 then ok S (nI S.2.2.1.length) else if w = 6 then ok S (nI (s.2.2.1 (un s.1 s.2.2.1 0))) else if w = 7 then ok S (nI (s.2.2.1 (un s.1 s.2.2.1 (s.1 - 1)))) else rf S 1
def F_number (S : St) (x w : Int32) : Int32 × St := match nOf S x with
  | none => rf S 1
  | some (s, i) => if w = 0 then ok S (nI (s.2.2.1 i)) else if w = 1 then ok S (nI (rk s.1 s.2.2.1 i)) else if w = 2 then ok S (kpI (s.2.2.2.1 i)) else if w = 3 then ok S (nI (mk (apb s.2.2.2.2 i) s.1)) else rf S 1
def F_sized (S : St) (x : Int32) : Int32 × St := match nOf S x with
  | none => rf S 1
  | some (s, i) => ok S (nI (un s.1 s.2.2.1 i))
def addS (s : Sn) (x : Nat) : Sn := (s.1 + 1, s.2.1, fun i => if i = s.1 then x else s.2.2.1 i, fun i => if i = s.1 then 0 else s.2.2.2.1 i, s.2.2.2.2)
def F_add (S : St) (x : Int32) : Int32 × St := match S.2.1 with
  | none => rf S 1
  | some s => if x < 1 ∨ 9999 < x then rf S 2 else if s.1 = 10 then rf S 3 else (nI (s.1 + 1), sA S s (addS s x.toNatClampNeg))
def dropS (s : Sn) (i : Nat) : Sn := (s.1 - 1, s.2.1, fun j => s.2.2.1 (inc i j), fun j => s.2.2.2.1 (inc i j), dropP i s.2.2.2.2)
def F_drop (S : St) (x : Int32) : Int32 × St := match nOf S x with
  | none => rf S 1
  | some (s, i) => if s.1 = 1 then rf S 5 else (nI (s.2.2.1 i), sA S s (dropS s i))
def becS (s : Sn) (i x : Nat) : Sn := (s.1, s.2.1, fun j => if j = i then x else s.2.2.1 j, s.2.2.2.1, s.2.2.2.2)
def F_become (S : St) (x v : Int32) : Int32 × St := match nOf S x with
  | none => rf S 1
  | some (s, i) => if v < 1 ∨ 9999 < v then rf S 2 else (nI (s.2.2.1 i), sA S s (becS s i v.toNatClampNeg))
def kpS (s : Sn) (i x : Nat) : Sn := (s.1, s.2.1, s.2.2.1, fun j => if j = i then x else s.2.2.2.1 j, s.2.2.2.2)
def F_keepIn (S : St) (x h : Int32) : Int32 × St := match nOf S x with
  | none => rf S 1
  | some (s, i) => if h = -2 then (kpI (s.2.2.2.1 i), sA S s (kpS s i 0)) else if h < 0 ∨ 4 ≤ h then rf S 2 else (kpI (s.2.2.2.1 i), sA S s (kpS s i (h.toNatClampNeg + 1)))
def apS (s : Sn) (i j : Nat) : Sn := (s.1, s.2.1, s.2.2.1, s.2.2.2.1, togP s.2.2.2.2 i j)
def F_apart (S : St) (x y : Int32) : Int32 × St := match nOf S x with
  | none => rf S 1
  | some (s, i) => match nOf S y with
    | none => rf S 1
    | some (_, j) => if s.2.2.2.2.length = 6 ∧ apb s.2.2.2.2 i j = false then rf S 3 else if i = j then rf S 5 else (nI (togP s.2.2.2.2 i j).length, sA S s (apS s i j))
def sortS (s : Sn) : Sn := (s.1, s.2.1, fun j => s.2.2.1 (un s.1 s.2.2.1 j), fun j => s.2.2.2.1 (un s.1 s.2.2.1 j), rkP s.1 s.2.2.1 s.2.2.2.2)
def F_sort (S : St) : Int32 × St := match S.2.1 with
  | none => rf S 1
  | some s => (nI (cn (fun j => !(un s.1 s.2.2.1 j == j)) s.1), sA S s (sortS s))
def hpS (s : Sn) (k : Nat) : Sn := (s.1, k, s.2.2)
def F_heaps (S : St) (x : Int32) : Int32 × St := match S.2.1 with
  | none => rf S 1
  | some s => if x < 2 ∨ 4 < x then rf S 2 else (nI s.2.1, sA S s (hpS s x.toNatClampNeg))
def F_undo (S : St) : Int32 × St := match S.2.1 with
  | none => rf S 1
  | some _ => match S.2.2.1 with
    | [] => rf S 5
    | s :: t => (nI t.length, (S.1, some s, t, S.2.2.2.1, (S.2.2.2.2.1.1, -1, 0), S.2.2.2.2.2.1, S.2.2.2.2.2.2 + 1))
def F_image (S : St) (x : Int32) : Int32 × St := match S.2.1 with
  | none => (0, sT S 1)
  | some s => if x < 0 ∨ 2 ≤ x then (0, sT S 1) else (1, (S.1, S.2.1, S.2.2.1, (fun i => if i = x.toNatClampNeg then some s else S.2.2.2.1 i), (S.2.2.2.2.1.1, -1, 0), S.2.2.2.2.2))
def F_back (S : St) (x : Int32) : Int32 × St := if x < 0 ∨ 2 ≤ x then (0, sT S 1) else match S.2.2.2.1 x.toNatClampNeg with
  | none => (0, sT S 1)
  | some s => (1, (S.1, some s, [], S.2.2.2.1, (S.2.2.2.2.1.1, -1, 0), S.2.2.2.2.2.1, S.2.2.2.2.2.2 + 1))
theorem VS_add {s : Sn} {x : Nat} (h : VS s) (hn : s.1 < 10) (h1 : 1 ≤ x) (h2 : x ≤ 9999) : VS (addS s x) := by
  refine ⟨⟨?_, ?_⟩, h.2.1, fun i hi => ?_, fun i hi => ?_, VP_up (Nat.le_succ _) h.2.2.2.2.1, h.2.2.2.2.2⟩
  · show 1 ≤ s.1 + 1; omega
  · show s.1 + 1 ≤ 10; omega
  · have hi : i < s.1 + 1 := hi
    show 1 ≤ (if i = s.1 then x else s.2.2.1 i) ∧ (if i = s.1 then x else s.2.2.1 i) ≤ 9999
    by_cases e : i = s.1
    · rw [if_pos e]; exact ⟨h1, h2⟩
    · rw [if_neg e]; exact h.2.2.1 i (by omega)
  · have hi : i < s.1 + 1 := hi
    show (if i = s.1 then 0 else s.2.2.2.1 i) ≤ 4
    by_cases e : i = s.1
    · rw [if_pos e]; omega
    · rw [if_neg e]; exact h.2.2.2.1 i (by omega)
theorem VS_drop {s : Sn} {i : Nat} (h : VS s) (hn : s.1 ≠ 1) (hi : i < s.1) : VS (dropS s i) := by
  have h1 := h.1
  refine ⟨⟨?_, ?_⟩, h.2.1, fun j hj => h.2.2.1 _ (inc_lt hi hj), fun j hj => h.2.2.2.1 _ (inc_lt hi hj), VP_dropP hi h.2.2.2.2.1, Nat.le_trans (dropP_len _ _) h.2.2.2.2.2⟩
  · show 1 ≤ s.1 - 1; omega
  · show s.1 - 1 ≤ 10; omega
theorem VS_bec {s : Sn} {i x : Nat} (h : VS s) (h1 : 1 ≤ x) (h2 : x ≤ 9999) : VS (becS s i x) := by
  refine ⟨h.1, h.2.1, fun j hj => ?_, h.2.2.2⟩
  show 1 ≤ (if j = i then x else s.2.2.1 j) ∧ (if j = i then x else s.2.2.1 j) ≤ 9999
  by_cases e : j = i
  · rw [if_pos e]; exact ⟨h1, h2⟩
  · rw [if_neg e]; exact h.2.2.1 j hj
theorem VS_kp {s : Sn} {i x : Nat} (h : VS s) (h2 : x ≤ 4) : VS (kpS s i x) := by
  refine ⟨h.1, h.2.1, h.2.2.1, fun j hj => ?_, h.2.2.2.2⟩
  show (if j = i then x else s.2.2.2.1 j) ≤ 4
  by_cases e : j = i
  · rw [if_pos e]; exact h2
  · rw [if_neg e]; exact h.2.2.2.1 j hj
theorem VS_ap {s : Sn} {i j : Nat} (h : VS s) (hi : i < s.1) (hj : j < s.1) (hij : i ≠ j) (hl : ¬ (s.2.2.2.2.length = 6 ∧ apb s.2.2.2.2 i j = false)) : VS (apS s i j) := by
  refine ⟨h.1, h.2.1, h.2.2.1, h.2.2.2.1, VP_tog hi hj hij h.2.2.2.2.1, tog_len ?_ h.2.2.2.2.2⟩
  have := h.2.2.2.2.2
  cases c : apb s.2.2.2.2 i j with
  | true => exact Or.inl rfl
  | false => exact Or.inr (by have : ¬ s.2.2.2.2.length = 6 := fun e => hl ⟨e, c⟩; omega)
theorem VS_sort {s : Sn} (h : VS s) : VS (sortS s) := ⟨h.1, h.2.1, fun j hj => h.2.2.1 _ (un_lt _ _ _ hj), fun j hj => h.2.2.2.1 _ (un_lt _ _ _ hj), VP_rkP h.2.2.2.2.1, by
  show (rkP _ _ _).length ≤ 6
  unfold rkP
  rw [List.length_map]
  exact h.2.2.2.2.2⟩
theorem VS_hp {s : Sn} {k : Nat} (h : VS s) (h1 : 2 ≤ k) (h2 : k ≤ 4) : VS (hpS s k) := ⟨h.1, ⟨h1, h2⟩, h.2.2⟩
theorem VT_act {S : St} {s s' : Sn} (h : VT S) (hs : S.2.1 = some s) (hv : VS s') : VT (sA S s s') := by
  obtain ⟨h1, h2, h3, h4, h5, h6, h7⟩ := h
  refine ⟨h1, fun q e => ?_, ⟨?_, fun q hq => ?_⟩, h4, fun e => (by cases e), ⟨h6.1, Nat.zero_le _⟩, h7⟩
  · have e : some s' = some q := e
    cases e
    exact hv
  · show ((s :: S.2.2.1).take 10).length ≤ 10
    rw [List.length_take]
    omega
  · have hq : q ∈ (s :: S.2.2.1).take 10 := hq
    rcases List.mem_cons.mp (List.mem_of_mem_take hq) with rfl | hq
    · exact h2 _ hs
    · exact h3.2 q hq
-- the class's answer, the reference's
def XR (S' : St) (r : Int32) (iv : zI) (rv : zR) (lv : zJ) : Int32 → zI → zR → zJ → Prop := fun y a b c => y = r ∧ b = rv ∧ c = lv ∧ CB S' a ∧ FC iv a
def YR (S' : St) (r : Int32) (iv : zI) (rv : zR) (lv : zJ) : Int32 → zI → zR → zJ → Prop := fun y a b c => y = r ∧ b = rv ∧ c = lv ∧ MB S' a ∧ FM iv a
theorem XR.tr {S : St} {t : Nat} {r : Int32} {iv : zI} {rv : zR} {lv : zJ} (h : CB S iv) : XR (sT S t) r iv rv lv r (zu (zu iv 0 12 (nI t)) 0 14 (-1)) rv lv := ⟨rfl, rfl, rfl, h.tr, fun a h1 _ => by rw [zu_row (by omega), zu_row (by omega)]⟩
theorem YR.tr {S : St} {t : Nat} {r : Int32} {iv : zI} {rv : zR} {lv : zJ} {x : Int32} (h : MB S iv) : YR (sT S t) r iv rv lv r (zu (zu (zu iv 174 0 x) 174 1 (nI t)) 174 2 (-1)) rv lv := ⟨rfl, rfl, rfl, (h.th (x := x)).tr, fun a h1 => by rw [zu_row (by omega), zu_row (by omega), zu_row (by omega)]⟩
