/-! THE REFERENCE: climbing. -/
theorem hsum_s {n : Nat} {v ρ : Nat → Nat} {h : Nat} : hsum (n + 1) v ρ h = hsum n v ρ h + wt (ρ n == h) (v n) := rfl
theorem y_sums0 {d k : Nat} {s : Sn} {ρ : Nat → Nat} {iv : zI} {rv : zR} {lv : zJ} (hT : zTop rv) (ms : MS iv 176 0 s) (vs : VS s) (hρ : ∀ i, i < s.1 → ρ i < 4) (hr : AR iv 181 s.1 ρ) :
    Cv mX11_sums0 (d + 1) [.ref 174, .int (nI k)] iv rv lv (fun a b c => b = rv ∧ c = lv ∧ AR a 182 4 (hsum s.1 s.2.2.1 ρ) ∧ ∀ p, p ≠ 182 → a p = iv p) := by
  have vn := vs.1
  have n1 : iv 176 0 = nI s.1 := ms.1
  refine eX11_sums0 _ (bX11_sums0_0 _ hT ?_)
  have main : ∀ w : zI, (∀ h, h < 4 → w 182 h = nI 0) → (∀ p, p ≠ 182 → w p = iv p) → Zv mX11_sums0 (d + 1) 22 [some (.ref 174), some (.int (nI k)), some (.int 0)] [] w rv lv (fun a b c => b = rv ∧ c = lv ∧ AR a 182 4 (hsum s.1 s.2.2.1 ρ) ∧ ∀ p, p ≠ 182 → a p = iv p) := by
    intro w g1 g2
    have key := zfor (c := s.1) (P := fun j => ∀ t : zI, AR t 182 4 (hsum j s.2.2.1 ρ) → (∀ p, p ≠ 182 → t p = iv p) → Zv mX11_sums0 (d + 1) 22 [some (.ref 174), some (.int (nI k)), some (.int (nI j))] [] t rv lv (fun a b c => b = rv ∧ c = lv ∧ AR a 182 4 (hsum s.1 s.2.2.1 ρ) ∧ ∀ p, p ≠ 182 → a p = iv p)) ?_ ?_
    · exact key 0 (by omega) w g1 g2
    · intro t b1 b2
      have c0 : t 176 0 = nI s.1 := by rw [b2 176 (by omega)]; exact n1
      exact bX11_sums0_22 _ _ hT ⟨fun _ => ⟨rfl, rfl, b1, b2⟩, fun z => absurd (by rw [c0]; exact nI_le (by omega) (by omega)) z⟩
    · intro j hj ih t b1 b2
      have c0 : t 176 0 = nI s.1 := by rw [b2 176 (by omega)]; exact n1
      have cr : t 181 j = nI (ρ j) := by rw [b2 181 (by omega)]; exact hr j hj
      have hρj := hρ j hj
      refine bX11_sums0_22 _ _ hT ⟨fun z => ?_, fun _ => ?_⟩
      · rw [c0] at z
        exact absurd z (nI_ge hj (by omega))
      · rw [nI_clamp (show j < 2 ^ 31 by omega), cr, nI_clamp (show ρ j < 2 ^ 31 by omega), b1 _ hρj]
        refine ⟨vp_in_nI (by omega) (by decide), vp_in_nI (by omega) (by decide), zcall (y_value (n := s.1) (v := s.2.2.1) hT (fun q hq => by rw [b2 176 (by omega)]; exact ms.vals q hq) vn.2 hj) hT (fun t1 e1 => ?_)⟩
        rw [nI_add] at e1
        rw [nI_1]
        refine ih t1 (fun h hh => ?_) (fun p hp => by rw [e1, zu_row hp]; exact b2 p hp)
        rw [hsum_s, e1]
        by_cases c : h = ρ j
        · rw [c, zu_eq, beq_self_eq_true]
          rfl
        · have c2 : (ρ j == h) = false := beq_eq_false_iff_ne.mpr (fun q => c q.symm)
          rw [zu_k c, c2, b1 h hh]
          rfl
  have key := zfor (c := 4) (P := fun j => ∀ w : zI, (∀ h, h < j → w 182 h = nI 0) → (∀ p, p ≠ 182 → w p = iv p) → Zv mX11_sums0 (d + 1) 2 [some (.ref 174), some (.int (nI k)), some (.int (nI j))] [] w rv lv (fun a b c => b = rv ∧ c = lv ∧ AR a 182 4 (hsum s.1 s.2.2.1 ρ) ∧ ∀ p, p ≠ 182 → a p = iv p)) ?_ ?_
  · exact key 0 (by omega) iv (fun h hh => absurd hh (Nat.not_lt_zero _)) (fun _ _ => rfl)
  · intro w g1 g2
    exact bX11_sums0_2 _ _ hT ⟨fun _ => main w g1 g2, fun z => absurd (by decide) z⟩
  · intro j hj ih w g1 g2
    refine bX11_sums0_2 _ _ hT ⟨fun z => absurd z (show ¬ nI 4 ≤ nI j from nI_ge hj (by omega)), fun _ => ⟨vp_in_nI hj (by decide), fun w1 e1 => ?_⟩⟩
    rw [nI_clamp (by omega)] at e1
    subst e1
    rw [nI_1]
    refine ih _ (fun h hh => ?_) (fun p hp => by rw [zu_row hp]; exact g2 p hp)
    by_cases c : h = j
    · rw [c, zu_eq]; rfl
    · rw [zu_k c]; exact g1 h (by omega)
theorem y_spreadNow {d k : Nat} {s : Sn} {ρ : Nat → Nat} {iv : zI} {rv : zR} {lv : zJ} (hT : zTop rv) (ms : MS iv 176 0 s) (vs : VS s) (hk : 2 ≤ k) (hk4 : k ≤ 4) (hρ : ∀ i, i < s.1 → ρ i < k) (hr : AR iv 181 s.1 ρ) :
    Ci mX11_spreadNow (d + 2) [.ref 174, .int (nI k)] iv rv lv (fun y a b c => y = nI (fS s.1 k s.2.2.1 ρ) ∧ b = rv ∧ c = lv ∧ ∀ p, p ≠ 182 → a p = iv p) := by
  refine eX11_spreadNow _ (bX11_spreadNow_0 _ hT (zcallV (y_sums0 (ρ := ρ) hT ms vs (fun i hi => by have := hρ i hi; omega) hr) ?_))
  rintro a _ _ ⟨rfl, rfl, g1, g2⟩
  exact ⟨hT, zcall (y_spread hT (by omega) hk4 (fun h hh => g1 h (by omega)) (fun g _ => vs.hb _ g)) hT ⟨rfl, rfl, rfl, g2⟩⟩
def mvOf (st : Bs) : Bool := match st.2 with
  | none => true
  | some c => c.1
def oneOf (st : Bs) : Int32 := match st.2 with
  | none => -1
  | some c => nI c.2.1
def toOf (st : Bs) : Int32 := match st.2 with
  | none => -1
  | some c => nI c.2.2
theorem tr1_mv {f : (Nat → Nat) → Nat} {ρ : Nat → Nat} {st : Bs} {c : Bool × Nat × Nat} (hc : c.1 = true) (h : mvOf st = true) : mvOf (tr1 f ρ st c) = true := by
  unfold tr1
  split
  · exact hc
  · exact h
theorem mvH_mv {f : (Nat → Nat) → Nat} {ρ : Nat → Nat} {st : Bs} {i : Nat} (h : mvOf st = true) : ∀ m, mvOf (mvH f ρ st i m) = true
  | 0 => h
  | m + 1 => tr1_mv rfl (mvH_mv h m)
theorem mvI_mv {f : (Nat → Nat) → Nat} {ρ : Nat → Nat} {k : Nat} : ∀ m, mvOf (mvI f ρ k m) = true
  | 0 => rfl
  | m + 1 => mvH_mv (mvI_mv m) k
theorem y_exch {d n i j : Nat} {ρ : Nat → Nat} {iv : zI} {rv : zR} {lv : zJ} (hT : zTop rv) (hn : n ≤ 10) (hi : i < n) (hj : j < n) (hr : AR iv 181 n ρ) : Cv mX11_exchanges d [.ref 174, .int (nI i), .int (nI j)] iv rv lv (fun a b c => b = rv ∧ c = lv ∧ AR a 181 n (app ρ (false, i, j)) ∧ ∀ p, p ≠ 181 → a p = iv p) := by
  refine eX11_exchanges _ _ (bX11_exchanges_0 _ _ hT ?_)
  rw [nI_clamp (by omega), nI_clamp (by omega), hr i hi, hr j hj]
  refine ⟨vp_in_nI (by omega) (by decide), vp_in_nI (by omega) (by decide), fun w1 e1 w2 e2 => ⟨rfl, rfl, fun q hq => ?_, fun p hp => by rw [e2, zu_row hp, e1, zu_row hp]⟩⟩
  show w2 181 q = nI (up (up ρ i (ρ j)) j (ρ i) q)
  rw [e2]
  by_cases c : q = j
  · rw [c, zu_eq, up_eq]
  · rw [zu_k c, up_ne c, e1]
    by_cases c2 : q = i
    · rw [c2, zu_eq, up_eq]
    · rw [zu_k c2, up_ne c2]; exact hr q hq
theorem app_back {ρ : Nat → Nat} {i j : Nat} (hij : i ≠ j) : app (app ρ (false, i, j)) (false, i, j) = ρ := by
  unfold app
  simp only [Bool.false_eq_true, if_false]
  funext q
  have e1 : up (up ρ i (ρ j)) j (ρ i) j = ρ i := up_eq
  have e2 : up (up ρ i (ρ j)) j (ρ i) i = ρ j := by rw [up_ne hij, up_eq]
  by_cases c : q = j
  · rw [c, up_eq, e2]
  · rw [up_ne c]
    by_cases c2 : q = i
    · rw [c2, up_eq, e1]
    · rw [up_ne c2, up_ne c, up_ne c2]
/-- what a turn of the climb leaves behind -/
def CQ (n : Nat) (ρ : Nat → Nat) (st : Bs) (iv : zI) (rv : zR) (lv : zJ) : Int32 → zI → zR → zJ → Prop := fun y a b c => b = rv ∧ c = lv ∧ (∀ p, p ≠ 181 → p ≠ 182 → a p = iv p) ∧ (st.2 = none → y = 0 ∧ AR a 181 n ρ) ∧ ∀ c0, st.2 = some c0 → y = 1 ∧ AR a 181 n (app ρ c0)
theorem y_climbs {d k : Nat} {s : Sn} {ρ : Nat → Nat} {iv : zI} {rv : zR} {lv : zJ} (hT : zTop rv) (ms : MS iv 176 0 s) (vs : VS s) (hk : 2 ≤ k) (hk4 : k ≤ 4) (hρ : ∀ i, i < s.1 → ρ i < k) (hr : AR iv 181 s.1 ρ) :
    Ci mX11_climbs (d + 3) [.ref 174, .int (nI k)] iv rv lv (CQ s.1 ρ (exI (fS s.1 k s.2.2.1) ρ s.1 k s.1) iv rv lv) := by
  have vn := vs.1
  have vv : ∀ i, i < s.1 → s.2.2.1 i ≤ 9999 := fun i hi => (vs.2.2.1 i hi).2
  have n1 : iv 176 0 = nI s.1 := ms.1
  have ms' : ∀ w : zI, (∀ p, p ≠ 181 → p ≠ 182 → w p = iv p) → MS w 176 0 s := fun w hw => by
    unfold MS at ms ⊢
    rw [hw 176 (by omega) (by omega)]
    exact ms
  have sb : ∀ st : Bs, BsOk (fS s.1 k s.2.2.1) ρ s.1 k st → st.1 < 2 ^ 31 := fun st h => by
    have h1 := h.1
    have h2 := fS_b (k := k) vn.2 vv ρ
    omega
  have fb : ∀ σ, fS s.1 k s.2.2.1 σ < 2 ^ 31 := fun σ => by
    have h2 := fS_b (k := k) vn.2 vv σ
    omega
  refine eX11_climbs _ (bX11_climbs_0 _ hT (zcallQ (y_spreadNow hT ms vs hk hk4 hρ hr) ?_))
  rintro _ w0 rv1 lv1 ⟨rfl, q1, q2, g0⟩
  have q1 := q1.symm
  have q2 := q2.symm
  subst q1 q2
  refine ⟨hT, ?_⟩
  -- the exchanges
  have ex : ∀ w : zI, (∀ p, p ≠ 181 → p ≠ 182 → w p = iv p) → AR w 181 s.1 ρ → Zi mX11_climbs (d + 3) 109 [some (.ref 174), some (.int (nI k)), some (.int (nI (fS s.1 k s.2.2.1 ρ))), some (.int (nI (mvI (fS s.1 k s.2.2.1) ρ k s.1).1)), some (.int (oneOf (mvI (fS s.1 k s.2.2.1) ρ k s.1))), some (.int (toOf (mvI (fS s.1 k s.2.2.1) ρ k s.1))), some (.int (bI (mvOf (mvI (fS s.1 k s.2.2.1) ρ k s.1)))), some (.int 0), none, none, none] [] w rv lv (CQ s.1 ρ (exI (fS s.1 k s.2.2.1) ρ s.1 k s.1) iv rv lv) := by
    intro w a1 a2
    have key := zfor (c := s.1) (P := fun i => ∀ w : zI, (∀ p, p ≠ 181 → p ≠ 182 → w p = iv p) → AR w 181 s.1 ρ → Zi mX11_climbs (d + 3) 109 [some (.ref 174), some (.int (nI k)), some (.int (nI (fS s.1 k s.2.2.1 ρ))), some (.int (nI (exI (fS s.1 k s.2.2.1) ρ s.1 k i).1)), some (.int (oneOf (exI (fS s.1 k s.2.2.1) ρ s.1 k i))), some (.int (toOf (exI (fS s.1 k s.2.2.1) ρ s.1 k i))), some (.int (bI (mvOf (exI (fS s.1 k s.2.2.1) ρ s.1 k i)))), some (.int (nI i)), none, none, none] [] w rv lv (CQ s.1 ρ (exI (fS s.1 k s.2.2.1) ρ s.1 k s.1) iv rv lv)) ?_ ?_
    · exact key 0 (by omega) w a1 a2
    · intro w a1 a2
      have c0 : w 176 0 = nI s.1 := by rw [a1 176 (by omega) (by omega)]; exact n1
      refine bX11_climbs_109 _ _ _ _ _ _ _ hT ⟨fun _ => ?_, fun z => absurd (by rw [c0]; exact nI_le (by omega) (by omega)) z⟩
      have ok := exI_ok (f := fS s.1 k s.2.2.1) (ρ := ρ) (n := s.1) (k := k) s.1 (Nat.le_refl _)
      unfold oneOf toOf mvOf
      generalize exI (fS s.1 k s.2.2.1) ρ s.1 k s.1 = st at *
      obtain ⟨b, o⟩ := st
      cases o with
      | none => exact ⟨fun q => absurd rfl q, fun _ => ⟨rfl, rfl, a1, fun _ => ⟨rfl, a2⟩, fun c q => (by cases q)⟩⟩
      | some c =>
        obtain ⟨o1, o2, o3, o4, o5⟩ := ok.2 c rfl
        obtain ⟨bb, i, j⟩ := c
        have o3 : i < s.1 := o3
        have ni : ¬ nI i = -1 := fun q => by
          have : nI i < 0 := by rw [q]; decide
          exact absurd this (nI_pos (by omega))
        refine ⟨fun _ => ?_, fun q => absurd q ni⟩
        cases bb with
        | true =>
          refine ⟨fun q => absurd (show (1 : Int32) = 0 from q) (by decide), fun _ => ?_⟩
          show vp_in (nI i) 10 ∧ ∀ w1 : zI, w1 = zu w 181 (nI i).toNatClampNeg (nI j) → _
          rw [nI_clamp (show i < 2 ^ 31 by omega)]
          refine ⟨vp_in_nI (by omega) (by decide), fun w1 e1 => ⟨rfl, rfl, fun p p1 p2 => by rw [e1, zu_row p1]; exact a1 p p1 p2, fun q => (by cases q), fun c q => ?_⟩⟩
          have q : some (true, i, j) = some c := q
          cases q
          refine ⟨rfl, fun t ht => ?_⟩
          show w1 181 t = nI (up ρ i j t)
          rw [e1]
          by_cases c : t = i
          · rw [c, zu_eq, up_eq]
          · rw [zu_k c, up_ne c]; exact a2 t ht
        | false =>
          refine ⟨fun _ => ?_, fun q => absurd rfl q⟩
          have oj : j < s.1 := (o5 rfl).2
          refine zcallV (y_exch (ρ := ρ) hT vn.2 o3 oj a2) ?_
          rintro w1 _ _ ⟨rfl, rfl, b1, b2⟩
          refine ⟨hT, rfl, rfl, fun p p1 p2 => by rw [b2 p p1]; exact a1 p p1 p2, fun q => (by cases q), fun c q => ?_⟩
          have q : some (false, i, j) = some c := q
          cases q
          exact ⟨rfl, b1⟩
    · intro i hi ih w a1 a2
      have c0 : w 176 0 = nI s.1 := by rw [a1 176 (by omega) (by omega)]; exact n1
      refine bX11_climbs_109 _ _ _ _ _ _ _ hT ⟨fun z => ?_, fun _ => ?_⟩
      · rw [c0] at z
        exact absurd z (nI_ge hi (by omega))
      · have ok1 := exI_ok (f := fS s.1 k s.2.2.1) (ρ := ρ) (n := s.1) (k := k) i (by omega)
        have k2 := zfor (c := s.1 - (i + 1)) (P := fun m => ∀ w : zI, (∀ p, p ≠ 181 → p ≠ 182 → w p = iv p) → AR w 181 s.1 ρ → Zi mX11_climbs (d + 3) 126 [some (.ref 174), some (.int (nI k)), some (.int (nI (fS s.1 k s.2.2.1 ρ))), some (.int (nI (exJ (fS s.1 k s.2.2.1) ρ (exI (fS s.1 k s.2.2.1) ρ s.1 k i) i m).1)), some (.int (oneOf (exJ (fS s.1 k s.2.2.1) ρ (exI (fS s.1 k s.2.2.1) ρ s.1 k i) i m))), some (.int (toOf (exJ (fS s.1 k s.2.2.1) ρ (exI (fS s.1 k s.2.2.1) ρ s.1 k i) i m))), some (.int (bI (mvOf (exJ (fS s.1 k s.2.2.1) ρ (exI (fS s.1 k s.2.2.1) ρ s.1 k i) i m)))), some (.int (nI i)), some (.int (nI (i + 1 + m))), none, none] [] w rv lv (CQ s.1 ρ (exI (fS s.1 k s.2.2.1) ρ s.1 k s.1) iv rv lv)) ?_ ?_
        · rw [nI_1]
          exact k2 0 (by omega) w a1 a2
        · intro w a1 a2
          have c0 : w 176 0 = nI s.1 := by rw [a1 176 (by omega) (by omega)]; exact n1
          refine bX11_climbs_126 _ _ _ _ _ _ _ _ hT ⟨fun _ => ?_, fun z => absurd (by rw [c0]; exact nI_le (by omega) (by omega)) z⟩
          rw [nI_1]
          exact ih w a1 a2
        · intro m hm ih2 w a1 a2
          have c0 : w 176 0 = nI s.1 := by rw [a1 176 (by omega) (by omega)]; exact n1
          have ok2 := exJ_ok ok1 hi m (by omega)
          have hj : i + 1 + m < s.1 := by omega
          refine bX11_climbs_126 _ _ _ _ _ _ _ _ hT ⟨fun z => ?_, fun _ => zcallV (y_exch (ρ := ρ) hT vn.2 hi hj a2) ?_⟩
          · rw [c0] at z
            exact absurd z (nI_ge hj (by omega))
          · rintro w1 rv1 lv1 ⟨q1, q2, b1, b2⟩
            have q1 := q1.symm
            have q2 := q2.symm
            subst q1 q2
            have f1 : ∀ p, p ≠ 181 → p ≠ 182 → w1 p = iv p := fun p p1 p2 => by rw [b2 p p1]; exact a1 p p1 p2
            refine ⟨hT, zcallQ (y_spreadNow hT (ms' w1 f1) vs hk hk4 (app_lt hρ hi (fun q => (by cases q)) (fun _ => ⟨by show i < i + 1 + m; omega, hj⟩)) b1) ?_⟩
            rintro _ w2 rv1 lv1 ⟨rfl, q1, q2, b3⟩
            have q1 := q1.symm
            have q2 := q2.symm
            subst q1 q2
            refine ⟨hT, zcallV (y_exch (ρ := app ρ (false, i, i + 1 + m)) hT vn.2 hi hj (fun t ht => by rw [b3 181 (by omega)]; exact b1 t ht)) ?_⟩
            rintro w3 rv1 lv1 ⟨q1, q2, b4, b5⟩
            have q1 := q1.symm
            have q2 := q2.symm
            subst q1 q2
            rw [app_back (by omega)] at b4
            have f3 : ∀ p, p ≠ 181 → p ≠ 182 → w3 p = iv p := fun p p1 p2 => by rw [b5 p p1, b3 p p2]; exact f1 p p1 p2
            have ih3 := ih2 w3 f3 b4
            rw [nI_ltI (fb _) (sb _ ok2), nI_1]
            refine ⟨hT, fun q => ?_, fun q => ?_⟩
            · simp only [exJ, tr1, q, if_true] at ih3
              exact ih3
            · simp only [exJ, tr1, q, if_false] at ih3
              exact ih3
  -- the moves
  have key := zfor (c := s.1) (P := fun i => ∀ w : zI, (∀ p, p ≠ 181 → p ≠ 182 → w p = iv p) → AR w 181 s.1 ρ → Zi mX11_climbs (d + 3) 20 [some (.ref 174), some (.int (nI k)), some (.int (nI (fS s.1 k s.2.2.1 ρ))), some (.int (nI (mvI (fS s.1 k s.2.2.1) ρ k i).1)), some (.int (oneOf (mvI (fS s.1 k s.2.2.1) ρ k i))), some (.int (toOf (mvI (fS s.1 k s.2.2.1) ρ k i))), some (.int (bI (mvOf (mvI (fS s.1 k s.2.2.1) ρ k i)))), some (.int (nI i)), none, none, none] [] w rv lv (CQ s.1 ρ (exI (fS s.1 k s.2.2.1) ρ s.1 k s.1) iv rv lv)) ?_ ?_
  · exact key 0 (by omega) w0 (fun p _ p2 => g0 p p2) (fun t ht => by rw [g0 181 (by omega)]; exact hr t ht)
  · intro w a1 a2
    have c0 : w 176 0 = nI s.1 := by rw [a1 176 (by omega) (by omega)]; exact n1
    exact bX11_climbs_20 _ _ _ _ _ _ _ hT ⟨fun _ => ex w a1 a2, fun z => absurd (by rw [c0]; exact nI_le (by omega) (by omega)) z⟩
  · intro i hi ih w a1 a2
    have c0 : w 176 0 = nI s.1 := by rw [a1 176 (by omega) (by omega)]; exact n1
    have ok1 := mvI_ok (f := fS s.1 k s.2.2.1) (ρ := ρ) (n := s.1) (k := k) i (by omega)
    have mv1 := mvI_mv (f := fS s.1 k s.2.2.1) (ρ := ρ) (k := k) i
    refine bX11_climbs_20 _ _ _ _ _ _ _ hT ⟨fun z => ?_, fun _ => ?_⟩
    · rw [c0] at z
      exact absurd z (nI_ge hi (by omega))
    · rw [nI_clamp (show i < 2 ^ 31 by omega), a2 i hi]
      refine ⟨vp_in_nI (by omega) (by decide), ?_⟩
      have k2 := zfor (c := k) (P := fun h => ∀ w : zI, (∀ p, p ≠ 181 → p ≠ 182 → w p = iv p) → (∀ t, t < s.1 → t ≠ i → w 181 t = nI (ρ t)) → Zi mX11_climbs (d + 3) 43 [some (.ref 174), some (.int (nI k)), some (.int (nI (fS s.1 k s.2.2.1 ρ))), some (.int (nI (mvH (fS s.1 k s.2.2.1) ρ (mvI (fS s.1 k s.2.2.1) ρ k i) i h).1)), some (.int (oneOf (mvH (fS s.1 k s.2.2.1) ρ (mvI (fS s.1 k s.2.2.1) ρ k i) i h))), some (.int (toOf (mvH (fS s.1 k s.2.2.1) ρ (mvI (fS s.1 k s.2.2.1) ρ k i) i h))), some (.int (bI (mvOf (mvH (fS s.1 k s.2.2.1) ρ (mvI (fS s.1 k s.2.2.1) ρ k i) i h)))), some (.int (nI i)), some (.int (nI (ρ i))), some (.int (nI h)), none] [] w rv lv (CQ s.1 ρ (exI (fS s.1 k s.2.2.1) ρ s.1 k s.1) iv rv lv)) ?_ ?_
      · exact k2 0 (by omega) w a1 (fun t ht _ => a2 t ht)
      · intro w a1 a2
        refine bX11_climbs_43 _ _ _ _ _ _ _ _ _ hT ⟨fun _ => ?_, fun z => absurd (nI_le (by omega) (by omega)) z⟩
        rw [nI_clamp (show i < 2 ^ 31 by omega), nI_1]
        refine ⟨vp_in_nI (by omega) (by decide), fun w1 e1 => ih w1 (fun p p1 p2 => by rw [e1, zu_row p1]; exact a1 p p1 p2) (fun t ht => ?_)⟩
        rw [e1]
        by_cases c : t = i
        · rw [c, zu_eq]
        · rw [zu_k c]; exact a2 t ht c
      · intro h hh ih2 w a1 a2
        have ok2 := mvH_ok ok1 hi h (by omega)
        have mv2 := mvH_mv (f := fS s.1 k s.2.2.1) (ρ := ρ) (i := i) mv1 h
        refine bX11_climbs_43 _ _ _ _ _ _ _ _ _ hT ⟨fun z => absurd z (nI_ge hh (by omega)), fun _ => ?_⟩
        rw [nI_clamp (show i < 2 ^ 31 by omega), nI_1]
        refine ⟨vp_in_nI (by omega) (by decide), fun w1 e1 => ?_⟩
        have f1 : ∀ p, p ≠ 181 → p ≠ 182 → w1 p = iv p := fun p p1 p2 => by rw [e1, zu_row p1]; exact a1 p p1 p2
        have ar : AR w1 181 s.1 (app ρ (true, i, h)) := fun t ht => by
          show w1 181 t = nI (up ρ i h t)
          rw [e1]
          by_cases c : t = i
          · rw [c, zu_eq, up_eq]
          · rw [zu_k c, up_ne c]; exact a2 t ht c
        refine zcallQ (y_spreadNow hT (ms' w1 f1) vs hk hk4 (app_lt hρ hi (fun _ => hh) (fun q => (by cases q))) ar) ?_
        rintro _ w2 rv1 lv1 ⟨rfl, q1, q2, b3⟩
        have q1 := q1.symm
        have q2 := q2.symm
        subst q1 q2
        have ih3 := ih2 w2 (fun p p1 p2 => by rw [b3 p p2]; exact f1 p p1 p2) (fun t ht hti => by rw [b3 181 (by omega), e1, zu_k hti]; exact a2 t ht hti)
        rw [nI_ltI (fb _) (sb _ ok2)]
        refine ⟨hT, fun q => ?_, fun q => ?_⟩
        · rw [mv2]
          simp only [mvH, tr1, q, if_true] at ih3
          exact ih3
        · simp only [mvH, tr1, q, if_false] at ih3
          exact ih3
theorem y_climbsAll7 {d k : Nat} {s : Sn} {iv0 : zI} {rv : zR} {lv : zJ} (hT : zTop rv) (ms : MS iv0 176 0 s) (vs : VS s) (hk : 2 ≤ k) (hk4 : k ≤ 4) :
    ∀ (F : Nat) (ρ : Nat → Nat), (∀ i, i < s.1 → ρ i < k) → fS s.1 k s.2.2.1 ρ < F → ∀ (c0 : Nat) (w : zI), (∀ p, p ≠ 181 → p ≠ 182 → w p = iv0 p) → AR w 181 s.1 ρ → Zi mX11_climbsAll (d + 4) 7 [some (.ref 174), some (.int (nI k)), some (.int (nI c0))] [] w rv lv (fun y a b c' => b = rv ∧ c' = lv ∧ y = nI (c0 + (cl (fS s.1 k s.2.2.1) s.1 k F ρ).1) ∧ (∀ p, p ≠ 181 → p ≠ 182 → a p = iv0 p) ∧ AR a 181 s.1 (cl (fS s.1 k s.2.2.1) s.1 k F ρ).2)
  | 0, ρ, _, hF, _, _, _, _ => absurd hF (Nat.not_lt_zero _)
  | F + 1, ρ, hρ, hF, c0, w, g1, g2 => by
    have ms' : MS w 176 0 s := by
      unfold MS at ms ⊢
      rw [g1 176 (by omega) (by omega)]
      exact ms
    refine bX11_climbsAll_7 _ _ hT (zcallQ (y_climbs hT ms' vs hk hk4 hρ g2) ?_)
    rintro y a rv1 lv1 ⟨q1, q2, h1, h2, h3⟩
    have q1 := q1.symm
    have q2 := q2.symm
    subst q1 q2
    have ok := exI_ok (f := fS s.1 k s.2.2.1) (ρ := ρ) (n := s.1) (k := k) s.1 (Nat.le_refl _)
    rw [cl]
    refine ⟨hT, ?_⟩
    cases e : (exI (fS s.1 k s.2.2.1) ρ s.1 k s.1).2 with
    | none =>
      obtain ⟨rfl, h4⟩ := h2 e
      exact ⟨fun _ => ⟨rfl, rfl, rfl, fun p p1 p2 => by rw [h1 p p1 p2]; exact g1 p p1 p2, h4⟩, fun q => absurd rfl q⟩
    | some c =>
      obtain ⟨rfl, h4⟩ := h3 c e
      obtain ⟨o1, o2, o3, o4, o5⟩ := ok.2 c e
      refine ⟨fun q => absurd q (by decide), fun _ => ?_⟩
      rw [nI_1]
      have := y_climbsAll7 (d := d) (lv := lv) hT ms vs hk hk4 F (app ρ c) (app_lt hρ o3 o4 o5) (by omega) (c0 + 1) a (fun p p1 p2 => by rw [h1 p p1 p2]; exact g1 p p1 p2) h4
      simp only [show c0 + ((cl (fS s.1 k s.2.2.1) s.1 k F (app ρ c)).1 + 1) = c0 + 1 + (cl (fS s.1 k s.2.2.1) s.1 k F (app ρ c)).1 by omega]
      exact this
theorem y_climbsAll {d k : Nat} {s : Sn} {iv : zI} {rv : zR} {lv : zJ} (hT : zTop rv) (ms : MS iv 176 0 s) (vs : VS s) (hk : 2 ≤ k) (hk4 : k ≤ 4) :
    Ci mX11_climbsAll (d + 4) [.ref 174, .int (nI k)] iv rv lv (fun y a b c' => b = rv ∧ c' = lv ∧ y = nI (clS s k).1 ∧ (∀ p, p ≠ 181 → p ≠ 182 → a p = iv p) ∧ AR a 181 s.1 (clS s k).2) := by
  have vv : ∀ i, i < s.1 → s.2.2.1 i ≤ 9999 := fun i hi => (vs.2.2.1 i hi).2
  refine eX11_climbsAll _ (bX11_climbsAll_0 _ hT (zcallV (y_fills hT ms vs hk hk4) ?_))
  rintro w rv1 lv1 ⟨q1, q2, g2, g3, g4⟩
  have q1 := q1.symm
  have q2 := q2.symm
  subst q1 q2
  refine ⟨hT, ?_⟩
  have := y_climbsAll7 (d := d) (lv := lv) hT ms vs hk hk4 100000 (gr s.1 k s.2.2.1) (fun i _ => fl_lt (by omega) _ i) (fS_b vs.1.2 vv _) 0 w g4 g2
  rw [Nat.zero_add] at this
  exact this
theorem y_climb {d : Nat} {S : St} {k w : Int32} {iv : zI} {rv : zR} {lv : zJ} (hT : zTop rv) (h : MB S iv) (hv : VT S) : Ci mX11_climb (d + 9) [.ref 174, .int k, .int w] iv rv lv (YR (F_climb S k w).2 (F_climb S k w).1 iv rv lv) := by
  refine eX11_climb k w (bX11_climb_0 k w hT ?_)
  intro w0 e0
  have h0 : MB S w0 := e0 ▸ h.th
  have f0 : FM iv w0 := e0 ▸ FM.th
  unfold F_climb
  rw [h0.txt]
  cases e : S.2.1 with
  | none => exact ⟨fun _ => zcall (y_refused hT) hT (YR.tr' rfl h0 f0), fun q => absurd rfl q⟩
  | some s =>
    have ms := h0.2.1.2 s e
    have vs := hv.2.1 s e
    refine ⟨fun q => absurd (show (1 : Int32) = 0 from q) (by decide), fun _ => zcall (y_in hT) hT ?_⟩
    by_cases hw : w < 0 ∨ 1 < w
    · rw [in_f hw]
      simp only [hw, if_true]
      exact ⟨fun q => absurd rfl q, fun _ => zcall (y_refused hT) hT (YR.tr' rfl h0 f0)⟩
    · rw [in_t (fun q => hw (Or.inl q)) (fun q => hw (Or.inr q))]
      simp only [hw, if_false]
      refine ⟨fun _ => zcall (y_isK hT) hT ?_, fun q => absurd (show (1 : Int32) = 0 from q) (by decide)⟩
      by_cases hx : k < 2 ∨ 4 < k
      · rw [in_f hx]
        simp only [hx, if_true]
        exact ⟨fun q => absurd rfl q, fun _ => zcall (y_refused hT) hT (YR.tr' rfl h0 f0)⟩
      · rw [in_t (fun q => hx (Or.inl q)) (fun q => hx (Or.inr q))]
        simp only [hx, if_false]
        obtain ⟨j, j1, j2, rfl⟩ := of_k hx
        refine ⟨fun _ => zcallQ (y_climbsAll hT ms vs j1 j2) ?_, fun q => absurd (show (1 : Int32) = 0 from q) (by decide)⟩
        rintro _ a _ _ ⟨rfl, rfl, rfl, g3, g4⟩
        rw [nI_clamp (by omega)]
        have fn : FN w0 a := FN.of (fun p hp => g3 p (by omega) (by omega))
        have ms2 : MS a 176 0 s := by
          unfold MS at ms ⊢
          rw [g3 176 (by omega) (by omega)]
          exact ms
        refine ⟨hT, fun q => ?_, fun q => ?_⟩
        · rw [if_neg q]
          exact zcall (y_good hT) hT (YR.fn rfl h0 f0 fn)
        · rw [if_pos q]
          refine zcallQ (y_spreadNow hT ms2 vs j1 j2 (cl_lt _ _ _ _ _ (fun i _ => fl_lt (by omega) _ i)) g4) ?_
          rintro _ b _ _ ⟨rfl, rfl, rfl, g5⟩
          exact ⟨hT, zcall (y_good hT) hT (YR.fn rfl h0 f0 (fn.trans (FN.of (fun p hp => g5 p (by omega)))))⟩
theorem y_climbOf {d : Nat} {S : St} {k x : Int32} {iv : zI} {rv : zR} {lv : zJ} (hT : zTop rv) (h : MB S iv) (hv : VT S) : Ci mX11_climbOf (d + 9) [.ref 174, .int k, .int x] iv rv lv (YR (F_climbOf S k x).2 (F_climbOf S k x).1 iv rv lv) := by
  refine eX11_climbOf k x (bX11_climbOf_0 k x hT ?_)
  intro w0 e0
  have h0 : MB S w0 := e0 ▸ h.th
  have f0 : FM iv w0 := e0 ▸ FM.th
  unfold F_climbOf
  rcases nOf_cases S x hv with ⟨hn, hx⟩ | ⟨s, i, hn, es, hi, rfl⟩
  · rw [hn]
    exact zcall (y_isN0 hT h0 hv hx) hT ⟨fun q => absurd rfl q, fun _ => zcall (y_refused hT) hT (YR.tr' rfl h0 f0)⟩
  · rw [hn]
    have ms := h0.2.1.2 s es
    have vs := hv.2.1 s es
    have vn := vs.1
    simp only
    refine zcall (y_isN1 hT h0 hv es hi) hT ⟨fun _ => zcall (y_isK hT) hT ?_, fun q => absurd (show (1 : Int32) = 0 from q) (by decide)⟩
    by_cases hx : k < 2 ∨ 4 < k
    · rw [in_f hx]
      simp only [hx, if_true]
      exact ⟨fun q => absurd rfl q, fun _ => zcall (y_refused hT) hT (YR.tr' rfl h0 f0)⟩
    · rw [in_t (fun q => hx (Or.inl q)) (fun q => hx (Or.inr q))]
      simp only [hx, if_false]
      obtain ⟨j, j1, j2, rfl⟩ := of_k hx
      refine ⟨fun _ => zcallQ (y_climbsAll hT ms vs j1 j2) ?_, fun q => absurd (show (1 : Int32) = 0 from q) (by decide)⟩
      rintro _ a _ _ ⟨rfl, rfl, rfl, g3, g4⟩
      have cb : (clS s j).1 ≤ 100000 := cl_le _ _ _ _ _
      rw [nI_clamp (show j < 2 ^ 31 by omega), nI_clamp (show i < 2 ^ 31 by omega)]
      exact ⟨hT, fun _ => ⟨vp_in_nI (by omega) (by decide), zcall (y_good hT) hT (YR.fn (g4 i hi) h0 f0 (FN.of (fun p hp => g3 p (by omega) (by omega))))⟩, fun q => absurd (nI_pos' (by omega)) q⟩
