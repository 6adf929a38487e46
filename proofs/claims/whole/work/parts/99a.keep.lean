/-! WHAT EVERY CALL KEEPS: the state can be; the class's kept searches, rows and sums stay true of it. -/
def SV (S S' : St) : Prop := VT S' ∧ ((ver S' = ver S ∧ S'.2.1 = S.2.1) ∨ ver S' = ver S + 1)
theorem SV.t {S : St} {t : Nat} (h : VT S) (ht : t ≤ 6) : SV S (sT S t) := ⟨h.tr ht, Or.inl ⟨rfl, rfl⟩⟩
theorem SV.a {S : St} {s s' : Sn} (h : VT S) (hs : S.2.1 = some s) (hv : VS s') : SV S (sA S s s') := ⟨VT_act h hs hv, Or.inr rfl⟩
theorem SV.r {S : St} (h : VT S) : SV S S := ⟨h, Or.inl ⟨rfl, rfl⟩⟩
theorem V_about {S : St} {w : Int32} (h : VT S) : SV S (F_about S w).2 := by unfold F_about; repeat' (first | split | exact SV.t h (by decide))
theorem V_number {S : St} {x w : Int32} (h : VT S) : SV S (F_number S x w).2 := by unfold F_number; repeat' (first | split | exact SV.t h (by decide))
theorem V_sized {S : St} {x : Int32} (h : VT S) : SV S (F_sized S x).2 := by unfold F_sized; repeat' (first | split | exact SV.t h (by decide))
theorem V_greedy {S : St} {k w : Int32} (h : VT S) : SV S (F_greedy S k w).2 := by unfold F_greedy; repeat' (first | split | exact SV.t h (by decide))
theorem V_greedyOf {S : St} {k w : Int32} (h : VT S) : SV S (F_greedyOf S k w).2 := by unfold F_greedyOf; repeat' (first | split | exact SV.t h (by decide))
theorem V_climb {S : St} {k w : Int32} (h : VT S) : SV S (F_climb S k w).2 := by unfold F_climb; repeat' (first | split | exact SV.t h (by decide))
theorem V_climbOf {S : St} {k w : Int32} (h : VT S) : SV S (F_climbOf S k w).2 := by unfold F_climbOf; repeat' (first | split | exact SV.t h (by decide))
theorem V_difference {S : St} (h : VT S) : SV S (F_difference S).2 := by unfold F_difference; repeat' (first | split | exact SV.t h (by decide))
theorem V_differenceOf {S : St} {x : Int32} (h : VT S) : SV S (F_differenceOf S x).2 := by unfold F_differenceOf; repeat' (first | split | exact SV.t h (by decide))
theorem V_step {S : St} {x w : Int32} (h : VT S) : SV S (F_step S x w).2 := by unfold F_step; repeat' (first | split | exact SV.t h (by decide))
theorem V_search {S : St} {x : Int32} (h : VT S) : SV S (F_search S x).2 := by unfold F_search; repeat' (first | split | exact SV.t h (by decide))
theorem V_find {S : St} {x w : Int32} (h : VT S) : SV S (F_find S x w).2 := by unfold F_find; repeat' (first | split | exact SV.t h (by decide))
theorem V_searchOf {S : St} {x : Int32} (h : VT S) : SV S (F_searchOf S x).2 := by unfold F_searchOf; repeat' (first | split | exact SV.t h (by decide))
theorem V_multi {S : St} {x : Int32} (h : VT S) : SV S (F_multi S x).2 := by unfold F_multi; repeat' (first | split | exact SV.t h (by decide))
theorem V_multiOf {S : St} {x w : Int32} (h : VT S) : SV S (F_multiOf S x w).2 := by unfold F_multiOf; repeat' (first | split | exact SV.t h (by decide))
theorem V_bound {S : St} {x : Int32} (h : VT S) : SV S (F_bound S x).2 := by unfold F_bound; repeat' (first | split | exact SV.t h (by decide))
theorem V_least {S : St} {x w : Int32} (h : VT S) : SV S (F_least S x w).2 := by unfold F_least; repeat' (first | split | exact SV.t h (by decide))
theorem V_leastOf {S : St} {x w : Int32} (h : VT S) : SV S (F_leastOf S x w).2 := by unfold F_leastOf; repeat' (first | split | exact SV.t h (by decide))
theorem V_flat {S : St} {x : Int32} (h : VT S) : SV S (F_flat S x).2 := by unfold F_flat; repeat' (first | split | exact SV.t h (by decide))
theorem V_rows {S : St} {x : Int32} (h : VT S) : SV S (F_rows S x).2 := by unfold F_rows; repeat' (first | split | exact SV.t h (by decide))
theorem V_ways {S : St} {x : Int32} (h : VT S) : SV S (F_ways S x).2 := by unfold F_ways; repeat' (first | split | exact SV.t h (by decide))
theorem V_chosen {S : St} {x : Int32} (h : VT S) : SV S (F_chosen S x).2 := by unfold F_chosen; repeat' (first | split | exact SV.t h (by decide))
theorem V_sums {S : St} (h : VT S) : SV S (F_sums S).2 := by unfold F_sums; repeat' (first | split | exact SV.t h (by decide))
theorem V_nearest {S : St} {x : Int32} (h : VT S) : SV S (F_nearest S x).2 := by unfold F_nearest; repeat' (first | split | exact SV.t h (by decide))
theorem V_write {S : St} (h : VT S) : SV S (F_write S).2 := by
  refine ⟨VT_write h, ?_⟩
  unfold F_write
  repeat' (first | split | exact Or.inl ⟨rfl, rfl⟩)
theorem V_feed {S : St} {a b c d e : Int32} (h : VT S) : SV S (F_feed S a b c d e).2 := by
  refine ⟨VT_feed h, ?_⟩
  unfold F_feed
  repeat' (first | split | exact Or.inl ⟨rfl, rfl⟩)
theorem V_undo {S : St} (h : VT S) : SV S (F_undo S).2 := by
  refine ⟨VT_undo h, ?_⟩
  unfold F_undo
  repeat' (first | split | exact Or.inr rfl | exact Or.inl ⟨rfl, rfl⟩)
theorem V_image {S : St} {x : Int32} (h : VT S) : SV S (F_image S x).2 := by
  refine ⟨VT_image h, ?_⟩
  unfold F_image
  repeat' (first | split | exact Or.inr rfl | exact Or.inl ⟨rfl, rfl⟩)
theorem V_back {S : St} {x : Int32} (h : VT S) : SV S (F_back S x).2 := by
  refine ⟨VT_back h, ?_⟩
  unfold F_back
  repeat' (first | split | exact Or.inr rfl | exact Or.inl ⟨rfl, rfl⟩)
theorem V_text {S : St} {x : Int32} (h : VT S) : SV S (F_text S x).2 := by
  refine ⟨VT_text h, ?_⟩
  unfold F_text
  repeat' (first | split | exact Or.inr rfl | exact Or.inl ⟨rfl, rfl⟩)
theorem V_add {S : St} {x : Int32} (h : VT S) : SV S (F_add S x).2 := by
  unfold F_add
  cases e : S.2.1 with
  | none => exact SV.t h (by decide)
  | some s =>
    have vs := h.2.1 s e
    dsimp only
    by_cases hx : x < 1 ∨ 9999 < x
    · rw [if_pos hx]; exact SV.t h (by decide)
    · rw [if_neg hx]
      by_cases h10 : s.1 = 10
      · rw [if_pos h10]; exact SV.t h (by decide)
      · rw [if_neg h10]
        obtain ⟨j, j1, j2, rfl⟩ := of_val hx
        have vn := vs.1
        rw [nI_clamp (by omega)]
        exact SV.a h e (VS_add vs (by omega) j1 j2)
theorem V_drop {S : St} {x : Int32} (h : VT S) : SV S (F_drop S x).2 := by
  unfold F_drop
  rcases nOf_cases S x h with ⟨e, -⟩ | ⟨s, i, e, es, hi, -⟩
  · rw [e]; exact SV.t h (by decide)
  · rw [e]
    dsimp only
    by_cases h1 : s.1 = 1
    · rw [if_pos h1]; exact SV.t h (by decide)
    · rw [if_neg h1]; exact SV.a h es (VS_drop (h.2.1 s es) h1 hi)
theorem V_become {S : St} {x v : Int32} (h : VT S) : SV S (F_become S x v).2 := by
  unfold F_become
  rcases nOf_cases S x h with ⟨e, -⟩ | ⟨s, i, e, es, hi, -⟩
  · rw [e]; exact SV.t h (by decide)
  · rw [e]
    dsimp only
    by_cases hx : v < 1 ∨ 9999 < v
    · rw [if_pos hx]; exact SV.t h (by decide)
    · rw [if_neg hx]
      obtain ⟨j, j1, j2, rfl⟩ := of_val hx
      rw [nI_clamp (by omega)]
      exact SV.a h es (VS_bec (h.2.1 s es) j1 j2)
theorem V_keepIn {S : St} {x v : Int32} (h : VT S) : SV S (F_keepIn S x v).2 := by
  unfold F_keepIn
  rcases nOf_cases S x h with ⟨e, -⟩ | ⟨s, i, e, es, hi, -⟩
  · rw [e]; exact SV.t h (by decide)
  · rw [e]
    dsimp only
    by_cases h2 : v = -2
    · rw [if_pos h2]; exact SV.a h es (VS_kp (h.2.1 s es) (by omega))
    · rw [if_neg h2]
      by_cases hx : v < 0 ∨ 4 ≤ v
      · rw [if_pos hx]; exact SV.t h (by decide)
      · rw [if_neg hx]
        obtain ⟨j, j1, rfl⟩ := of_h4 hx
        rw [nI_clamp (by omega)]
        exact SV.a h es (VS_kp (h.2.1 s es) (by omega))
theorem V_apart {S : St} {x y : Int32} (h : VT S) : SV S (F_apart S x y).2 := by
  unfold F_apart
  rcases nOf_cases S x h with ⟨e, -⟩ | ⟨s, i, e, es, hi, -⟩
  · rw [e]; exact SV.t h (by decide)
  · rw [e]
    dsimp only
    rcases nOf_cases S y h with ⟨e2, -⟩ | ⟨s2, j, e2, es2, hj, -⟩
    · rw [e2]; exact SV.t h (by decide)
    · rw [e2]
      dsimp only
      rw [es] at es2
      cases es2
      by_cases h1 : s.2.2.2.2.length = 6 ∧ apb s.2.2.2.2 i j = false
      · rw [if_pos h1]; exact SV.t h (by decide)
      · rw [if_neg h1]
        by_cases h2 : i = j
        · rw [if_pos h2]; exact SV.t h (by decide)
        · rw [if_neg h2]; exact SV.a h es (VS_ap (h.2.1 s es) hi hj h2 h1)
theorem V_sort {S : St} (h : VT S) : SV S (F_sort S).2 := by
  unfold F_sort
  cases e : S.2.1 with
  | none => exact SV.t h (by decide)
  | some s => exact SV.a h e (VS_sort (h.2.1 s e))
theorem V_heaps {S : St} {x : Int32} (h : VT S) : SV S (F_heaps S x).2 := by
  unfold F_heaps
  cases e : S.2.1 with
  | none => exact SV.t h (by decide)
  | some s =>
    dsimp only
    by_cases hx : x < 2 ∨ 4 < x
    · rw [if_pos hx]; exact SV.t h (by decide)
    · rw [if_neg hx]
      obtain ⟨j, j1, j2, rfl⟩ := of_k hx
      rw [nI_clamp (by omega)]
      exact SV.a h e (VS_hp (h.2.1 s e) j1 j2)
theorem Cs.sv {S S' : St} {w w' : zI} (h : Cs S w) (hs : SV S S') (hf : ∀ p, 86 ≤ p → p ≤ 88 → w' p = w p) : Cs S' w' := by
  unfold Cs SC
  rw [hf 86 (by omega) (by omega), hf 87 (by omega) (by omega), hf 88 (by omega) (by omega)]
  rcases h with h | ⟨v, h1, h2, h3⟩
  · exact Or.inl h
  · refine Or.inr ⟨v, ?_, h2, ?_⟩
    · rcases hs.2 with ⟨e, -⟩ | e <;> omega
    · rcases hs.2 with ⟨e, e2⟩ | e
      · rw [e, e2]; exact h3
      · intro z; omega
theorem Cp.sv {S S' : St} {w w' : zI} (h : Cp S w) (hs : SV S S') (hf : ∀ p, 159 ≤ p → p ≤ 173 → w' p = w p) : Cp S' w' := by
  refine Cp.fr (w := w) ?_ hf
  intro k k1 k2
  obtain ⟨a1, a2⟩ := h k k1 k2
  refine ⟨a1, ?_⟩
  rcases a2 with a2 | ⟨v, h1, h2, h3⟩
  · exact Or.inl a2
  · refine Or.inr ⟨v, ?_, h2, ?_⟩
    · rcases hs.2 with ⟨e, -⟩ | e <;> omega
    · rcases hs.2 with ⟨e, e2⟩ | e
      · rw [e, e2]; exact h3
      · intro z; omega
theorem Cq.sv {S S' : St} {w w' : zI} {rv : zR} (h : Cq S w rv) (hs : SV S S') (hf : ∀ p, 155 ≤ p → p ≤ 157 → w' p = w p) : Cq S' w' rv := by
  refine Cq.fr (w := w) ?_ hf
  obtain ⟨a1, a2⟩ := h
  refine ⟨a1, ?_⟩
  rcases a2 with a2 | ⟨v, h1, h2, h3⟩
  · exact Or.inl a2
  · refine Or.inr ⟨v, ?_, h2, ?_⟩
    · rcases hs.2 with ⟨e, -⟩ | e <;> omega
    · rcases hs.2 with ⟨e, e2⟩ | e
      · rw [e, e2]; exact h3
      · intro z; omega
/-- the class's memory, all of it -/
def CK (S : St) (iv : zI) (rv : zR) : Prop := zTop rv ∧ CB S iv ∧ Cs S iv ∧ Cp S iv ∧ Cq S iv rv
/-- an answer of the class: the reference's memory stays -/
def XA (S' : St) (r : Int32) (iv : zI) (lv : zJ) : Int32 → zI → zR → zJ → Prop := fun y a b c => y = r ∧ c = lv ∧ CK S' a b ∧ ∀ p, 174 ≤ p → a p = iv p
theorem XR.all {S S' : St} {r y : Int32} {iv a : zI} {rv b : zR} {lv c : zJ} (hk : CK S iv rv) (hs : SV S S') (h : XR S' r iv rv lv y a b c) : XA S' r iv lv y a b c := by
  obtain ⟨h1, h2, h3, h4, h5⟩ := h
  subst h2
  exact ⟨h1, h3, ⟨hk.1, h4, hk.2.2.1.sv hs (fun p p1 p2 => h5 p (by omega) (by omega)), hk.2.2.2.1.sv hs (fun p p1 p2 => h5 p (by omega) (by omega)), hk.2.2.2.2.sv hs (fun p p1 p2 => h5 p (by omega) (by omega))⟩, fun p hp => h5 p (by omega) (by omega)⟩
theorem XG.all {S S' : St} {r y : Int32} {iv a : zI} {rv b : zR} {lv c : zJ} (hk : CK S iv rv) (hs : SV S S') (h : XG S' r iv rv lv y a b c) : XA S' r iv lv y a b c := by
  obtain ⟨h1, h2, h3, h4, h5⟩ := h
  subst h2
  exact ⟨h1, h3, ⟨hk.1, h4, hk.2.2.1.sv hs (fun p p1 p2 => h5 p (by omega)), hk.2.2.2.1.sv hs (fun p p1 p2 => h5 p (by omega)), hk.2.2.2.2.sv hs (fun p p1 p2 => h5 p (by omega))⟩, fun p hp => h5 p (by omega)⟩
theorem XS.all {S S' : St} {r y : Int32} {iv a : zI} {rv b : zR} {lv c : zJ} (hk : CK S iv rv) (hs : SV S S') (h : XS S' r iv rv lv y a b c) : XA S' r iv lv y a b c := by
  obtain ⟨h1, h2, h3, h4, h6, h5⟩ := h
  subst h2
  exact ⟨h1, h3, ⟨hk.1, h4, h6, hk.2.2.2.1.sv hs (fun p p1 p2 => h5 p (by omega)), hk.2.2.2.2.sv hs (fun p p1 p2 => h5 p (by omega))⟩, fun p hp => h5 p (by omega)⟩
theorem XP.all {S S' : St} {r y : Int32} {iv a : zI} {rv b : zR} {lv c : zJ} (hk : CK S iv rv) (hs : SV S S') (h : XP S' r iv rv lv y a b c) : XA S' r iv lv y a b c := by
  obtain ⟨h1, h2, h3, h4, h6, h5⟩ := h
  subst h2
  exact ⟨h1, h3, ⟨hk.1, h4, hk.2.2.1.sv hs (fun p p1 p2 => h5 p (by omega)), h6, hk.2.2.2.2.sv hs (fun p p1 p2 => h5 p (by omega))⟩, fun p hp => h5 p (by omega)⟩
theorem XQ.all {S S' : St} {r y : Int32} {iv a : zI} {rv b : zR} {lv c : zJ} (hk : CK S iv rv) (hs : SV S S') (h : XQ S' r iv rv lv y a b c) : XA S' r iv lv y a b c := by
  obtain ⟨h1, h2, h3, h4, h6, h7, h5⟩ := h
  exact ⟨h1, h3, ⟨h2, h4, hk.2.2.1.sv hs (fun p p1 p2 => h5 p (by omega)), hk.2.2.2.1.sv hs (fun p p1 p2 => h5 p (by omega)), h6⟩, fun p hp => h5 p (by omega)⟩
/-- an answer of the reference: the class's memory stays -/
def YA (S' : St) (r : Int32) (iv : zI) (rv : zR) : Int32 → zI → zR → zJ → Prop := fun y a b _ => y = r ∧ b = rv ∧ MB S' a ∧ ∀ p, p < 174 → a p = iv p
theorem YR.all {S' : St} {r y : Int32} {iv a : zI} {rv b : zR} {lv c : zJ} (h : YR S' r iv rv lv y a b c) : YA S' r iv rv y a b c := ⟨h.1, h.2.1, h.2.2.2.1, fun p hp => h.2.2.2.2 p (Or.inl hp)⟩
theorem YT.all {S' : St} {r y : Int32} {iv a : zI} {rv b : zR} {lv c : zJ} (h : YT S' r iv rv lv y a b c) : YA S' r iv rv y a b c := ⟨h.1, h.2.1, h.2.2.2.1, fun p hp => h.2.2.2.2 p (Or.inl hp)⟩
/-- the two memories side by side -/
def JK (t : Nat) (iv : zI) (rv : zR) : Prop := ∃ S, VT S ∧ ver S ≤ t ∧ CK S iv rv ∧ MB S iv
theorem MB.low {S : St} {iv a : zI} (h : MB S iv) (hf : ∀ p, 174 ≤ p → a p = iv p) : MB S a := by
  unfold MB MS at *
  simp only [hf 174 (by omega), hf 175 (by omega), hf 176 (by omega), hf 178 (by omega), hf 179 (by omega), hf 180 (by omega), hf 198 (by omega)]
  exact h
theorem CB.low {S : St} {iv a : zI} (h : CB S iv) (hf : ∀ p, p < 174 → a p = iv p) : CB S a := h.fr (fun p hp => hf p (by omega))
theorem CK.low {S : St} {iv a : zI} {rv : zR} (hv : VT S) (h : CK S iv rv) (hf : ∀ p, p < 174 → a p = iv p) : CK S a rv := ⟨h.1, h.2.1.low hf, h.2.2.1.sv (SV.r hv) (fun p _ _ => hf p (by omega)), h.2.2.2.1.sv (SV.r hv) (fun p _ _ => hf p (by omega)), h.2.2.2.2.sv (SV.r hv) (fun p _ _ => hf p (by omega))⟩
/-- one call on both sides -/
theorem jstep {M1 M2 : zM} {d t : Nat} {as1 as2 : List Value} {S S' : St} {r : Int32} {iv : zI} {rv : zR} {lv : zJ} (ht : ver S ≤ t) (hs : SV S S') (hm : MB S iv) (h1 : Ci M1 d as1 iv rv lv (XA S' r iv lv)) (h2 : ∀ (a : zI) (b : zR) (c : zJ), zTop b → MB S a → Ci M2 d as2 a b c (YA S' r a b)) :
    ∃ Q1 : Int32 → zI → zR → zJ → Prop, Ci M1 d as1 iv rv lv Q1 ∧ ∀ v a b c, Q1 v a b c → ∃ Q2 : Int32 → zI → zR → zJ → Prop, Ci M2 d as2 a b c Q2 ∧ ∀ w a2 b2 c2, Q2 w a2 b2 c2 → v = w ∧ JK (t + 1) a2 b2 := by
  refine ⟨_, h1, ?_⟩
  rintro v a b c ⟨e1, e2, k1, f1⟩
  refine ⟨_, h2 a b c k1.1 (hm.low f1), ?_⟩
  rintro w a2 b2 c2 ⟨g1, g2, g3, g4⟩
  subst g2
  refine ⟨e1.trans g1.symm, S', hs.1, ?_, k1.low hs.1 g4, g3⟩
  rcases hs.2 with ⟨e, -⟩ | e <;> omega
