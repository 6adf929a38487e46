/-! TEXT: bounds. -/
theorem VU.k {s : Sn} {k : Nat} (h : VU s) (hk : 2 ≤ k ∧ k ≤ 4) : VU (sK s k) := ⟨h.1, hk, h.2.2⟩
theorem VU.kp {s : Sn} {i x : Nat} (h : VU s) (hx : x ≤ 4) : VU (sKp s i x) := by
  obtain ⟨h1, h2, h3, h4, h5, h6⟩ := h
  refine ⟨h1, h2, h3, fun j hj => ?_, h5, h6⟩
  show up s.2.2.2.1 i x j ≤ 4
  by_cases e : j = i
  · rw [e, up_eq]; exact hx
  · rw [up_ne e]; exact h4 j hj
theorem VU.pr {s : Sn} {i j : Nat} (h : VU s) (hi : i < s.1) (hj : j < s.1) (hij : i ≠ j) (ha : apb s.2.2.2.2 i j = false) (hl : s.2.2.2.2.length < 6) : VU (sPr s i j) := by
  obtain ⟨h1, h2, h3, h4, h5, h6⟩ := h
  refine ⟨h1, h2, h3, h4, VP_app hi hj hij h5 ha, ?_⟩
  show (s.2.2.2.2 ++ [(i, j)]).length ≤ 6
  rw [List.length_append]
  show _ + 1 ≤ 6
  omega
theorem wW_0 {st : PS} {lo c : Nat} (h : wW st lo c = 0) : st.1.1 = 2 ∧ lo ≤ st.1.2.2.2 ∧ st.1.2.2.2 < c := by
  unfold wW at h
  by_cases e : st.1.1 = 2
  · rw [if_pos e] at h
    by_cases z : st.1.2.2.2 < lo ∨ c ≤ st.1.2.2.2
    · rw [if_pos z] at h
      omega
    · omega
  · rw [if_neg e] at h
    omega
theorem wW_le (st : PS) (lo c : Nat) : wW st lo c ≤ 2 := by
  unfold wW
  repeat' split
  all_goals omega
theorem PO.set {n : Nat} {st : PS} {b : Bool} {s : Sn} (h : PO n st) (hs : VU s) : PO n (st.1, b, s) := ⟨h.1, h.2.1, h.2.2.1, h.2.2.2.1, hs⟩
/-- what a reader comes to is in bounds, and it goes on -/
def RO (n : Nat) (st : PS) (r : PR) : Prop := PO n r.2 ∧ st.1.2.2.1 ≤ r.2.1.2.2.1 ∧ r.1 ≤ 5
theorem rNum_O {tp : Nat → Nat} {n : Nat} : ∀ (f : Nat) (st : PS), PO n st → RO n st (rNum tp n f st)
  | 0, st, h => ⟨h, Nat.le_refl _, by show 1 ≤ 5; omega⟩
  | f + 1, st, h => by
    obtain ⟨h1, h2, h3⟩ := h.nx (tp := tp)
    have h4 : (nx tp n st).1.2.1 ≤ (nx tp n st).1.2.2.1 := h1.1
    rw [rNum]
    by_cases w : wW (nx tp n st) 1 10000 = 0
    · rw [if_pos w]
      by_cases c : 10 ≤ st.2.2.1
      · rw [if_pos c]
        exact ⟨h1, by show st.1.2.2.1 ≤ (nx tp n st).1.2.2.1; omega, by show 4 ≤ 5; omega⟩
      · rw [if_neg c]
        have wv := wW_0 w
        have hp : PO n ((nx tp n st).1, st.2.1, addS st.2.2 (nx tp n st).1.2.2.2) := h1.set (h.2.2.2.2.add (by omega) (by omega))
        obtain ⟨g1, g2, g3⟩ := hp.nx (tp := tp)
        have g4 := g1.1
        have g2 : (nx tp n st).1.2.2.1 ≤ (nx tp n ((nx tp n st).1, st.2.1, addS st.2.2 (nx tp n st).1.2.2.2)).1.2.1 := g2
        generalize nx tp n ((nx tp n st).1, st.2.1, addS st.2.2 (nx tp n st).1.2.2.2) = q at *
        by_cases k : q.1.1 = 4
        · rw [if_pos k]
          obtain ⟨r1, r2, r3⟩ := rNum_O (tp := tp) f q g1
          exact ⟨r1, by omega, r3⟩
        · rw [if_neg k]
          exact ⟨g1, by show st.1.2.2.1 ≤ q.1.2.2.1; omega, by show 0 ≤ 5; omega⟩
    · rw [if_neg w]
      have := wW_le (nx tp n st) 1 10000
      exact ⟨h1, by show st.1.2.2.1 ≤ (nx tp n st).1.2.2.1; omega, by show wW (nx tp n st) 1 10000 ≤ 5; omega⟩
theorem rHps_O {tp : Nat → Nat} {n : Nat} {st : PS} (h : PO n st) : RO n st (rHps tp n st) := by
  unfold rHps
  by_cases q : st.2.1 = true
  · rw [if_pos q]
    exact ⟨h, Nat.le_refl _, by show 3 ≤ 5; omega⟩
  · rw [if_neg q]
    obtain ⟨h1, h2, h3⟩ := PO.nx (tp := tp) (h.set (b := true) h.2.2.2.2)
    have h4 := h1.1
    have h2 : st.1.2.2.1 ≤ (nx tp n (st.1, true, st.2.2)).1.2.1 := h2
    generalize ea : nx tp n (st.1, true, st.2.2) = a at *
    by_cases w : wW a 2 5 = 0
    · rw [if_pos w]
      have wv := wW_0 w
      obtain ⟨g1, g2, g3⟩ := PO.nx (tp := tp) (h1.set (b := true) (s := sK st.2.2 a.1.2.2.2) (h.2.2.2.2.k (by omega)))
      have g4 := g1.1
      have g2 : a.1.2.2.1 ≤ (nx tp n (a.1, true, sK st.2.2 a.1.2.2.2)).1.2.1 := g2
      exact ⟨g1, by show st.1.2.2.1 ≤ (nx tp n (a.1, true, sK st.2.2 a.1.2.2.2)).1.2.2.1; omega, by show 0 ≤ 5; omega⟩
    · rw [if_neg w]
      have := wW_le a 2 5
      exact ⟨h1, by show st.1.2.2.1 ≤ a.1.2.2.1; omega, by show wW a 2 5 ≤ 5; omega⟩
theorem rKeep_O {tp : Nat → Nat} {n : Nat} {st : PS} (h : PO n st) : RO n st (rKeep tp n st) := by
  unfold rKeep
  obtain ⟨a1, a2, a3⟩ := h.nx (tp := tp)
  have a4 := a1.1
  generalize nx tp n st = a at *
  obtain ⟨b1, b2, b3⟩ := a1.nx (tp := tp)
  have b4 := b1.1
  generalize nx tp n a = b at *
  obtain ⟨c1, c2, c3⟩ := b1.nx (tp := tp)
  have c4 := c1.1
  generalize nx tp n b = c at *
  by_cases w : wW a 0 st.2.2.1 = 0
  · rw [if_pos w]
    by_cases k : st.2.2.2.2.2.1 a.1.2.2.2 = 0
    · rw [if_pos k]
      by_cases i : tw tp b.1 wIn = true
      · rw [if_pos i]
        by_cases w2 : wW c 0 4 = 0
        · rw [if_pos w2]
          have wv := wW_0 w2
          obtain ⟨g1, g2, g3⟩ := PO.nx (tp := tp) (c1.set (b := st.2.1) (s := sKp st.2.2 a.1.2.2.2 (c.1.2.2.2 + 1)) (h.2.2.2.2.kp (by omega)))
          have g4 := g1.1
          have g2 : c.1.2.2.1 ≤ (nx tp n (c.1, st.2.1, sKp st.2.2 a.1.2.2.2 (c.1.2.2.2 + 1))).1.2.1 := g2
          exact ⟨g1, by show st.1.2.2.1 ≤ (nx tp n (c.1, st.2.1, sKp st.2.2 a.1.2.2.2 (c.1.2.2.2 + 1))).1.2.2.1; omega, by show 0 ≤ 5; omega⟩
        · rw [if_neg w2]
          have := wW_le c 0 4
          exact ⟨c1, by show st.1.2.2.1 ≤ c.1.2.2.1; omega, by show wW c 0 4 ≤ 5; omega⟩
      · rw [if_neg i]
        exact ⟨b1, by show st.1.2.2.1 ≤ b.1.2.2.1; omega, by show 1 ≤ 5; omega⟩
    · rw [if_neg k]
      exact ⟨a1, by show st.1.2.2.1 ≤ a.1.2.2.1; omega, by show 3 ≤ 5; omega⟩
  · rw [if_neg w]
    have := wW_le a 0 st.2.2.1
    exact ⟨a1, by show st.1.2.2.1 ≤ a.1.2.2.1; omega, by show wW a 0 st.2.2.1 ≤ 5; omega⟩
theorem rApt_O {tp : Nat → Nat} {n : Nat} {st : PS} (h : PO n st) : RO n st (rApt tp n st) := by
  unfold rApt
  obtain ⟨a1, a2, a3⟩ := h.nx (tp := tp)
  have a4 := a1.1
  generalize nx tp n st = a at *
  obtain ⟨b1, b2, b3⟩ := a1.nx (tp := tp)
  have b4 := b1.1
  generalize nx tp n a = b at *
  by_cases l : 6 ≤ st.2.2.2.2.2.2.length
  · rw [if_pos l]
    exact ⟨h, Nat.le_refl _, by show 4 ≤ 5; omega⟩
  · rw [if_neg l]
    by_cases w : wW a 0 st.2.2.1 = 0
    · rw [if_pos w]
      by_cases w2 : wW b 0 st.2.2.1 = 0
      · rw [if_pos w2]
        by_cases x : b.1.2.2.2 = a.1.2.2.2 ∨ apb st.2.2.2.2.2.2 a.1.2.2.2 b.1.2.2.2 = true
        · rw [if_pos x]
          exact ⟨b1, by show st.1.2.2.1 ≤ b.1.2.2.1; omega, by show 3 ≤ 5; omega⟩
        · rw [if_neg x]
          have wv := wW_0 w
          have wv2 := wW_0 w2
          have na : apb st.2.2.2.2.2.2 a.1.2.2.2 b.1.2.2.2 = false := by
            cases z : apb st.2.2.2.2.2.2 a.1.2.2.2 b.1.2.2.2 with
            | false => rfl
            | true => exact absurd (Or.inr z) x
          obtain ⟨g1, g2, g3⟩ := PO.nx (tp := tp) (b1.set (b := st.2.1) (s := sPr st.2.2 a.1.2.2.2 b.1.2.2.2) (h.2.2.2.2.pr (by omega) (by omega) (fun z => x (Or.inl z.symm)) na (by omega)))
          have g4 := g1.1
          have g2 : b.1.2.2.1 ≤ (nx tp n (b.1, st.2.1, sPr st.2.2 a.1.2.2.2 b.1.2.2.2)).1.2.1 := g2
          exact ⟨g1, by show st.1.2.2.1 ≤ (nx tp n (b.1, st.2.1, sPr st.2.2 a.1.2.2.2 b.1.2.2.2)).1.2.2.1; omega, by show 0 ≤ 5; omega⟩
      · rw [if_neg w2]
        have := wW_le b 0 st.2.2.1
        exact ⟨b1, by show st.1.2.2.1 ≤ b.1.2.2.1; omega, by show wW b 0 st.2.2.1 ≤ 5; omega⟩
    · rw [if_neg w]
      have := wW_le a 0 st.2.2.1
      exact ⟨a1, by show st.1.2.2.1 ≤ a.1.2.2.1; omega, by show wW a 0 st.2.2.1 ≤ 5; omega⟩
theorem rLine_O {tp : Nat → Nat} {n : Nat} {st : PS} (h : PO n st) : RO n st (rLine tp n st) := by
  unfold rLine
  split
  · exact rNum_O _ _ h
  · split
    · exact rHps_O h
    · split
      · exact rKeep_O h
      · split
        · exact rApt_O h
        · exact ⟨h, Nat.le_refl _, by show 1 ≤ 5; omega⟩
theorem rLines_O {tp : Nat → Nat} {n : Nat} : ∀ (f : Nat) (st : PS), PO n st → PO n (rLines tp n f st).2 ∧ (rLines tp n f st).1 ≤ 5 ∧ ((rLines tp n f st).1 = 0 → 0 < (rLines tp n f st).2.2.2.1)
  | 0, st, h => ⟨h, by show 1 ≤ 5; omega, fun z => by cases z⟩
  | f + 1, st, h => by
    obtain ⟨l1, l2, l3⟩ := rLine_O (tp := tp) h
    rw [rLines]
    generalize rLine tp n st = r at *
    by_cases q : r.1 = 0
    · rw [if_pos q]
      by_cases k : r.2.1.1 = 0
      · rw [if_pos k]
        by_cases c : 0 < r.2.2.2.1
        · rw [if_pos c]
          exact ⟨l1, l3, fun _ => c⟩
        · rw [if_neg c]
          exact ⟨l1, by show 5 ≤ 5; omega, fun z => by cases z⟩
      · rw [if_neg k]
        by_cases k3 : r.2.1.1 = 3
        · rw [if_pos k3]
          exact rLines_O f _ (l1.nx).1
        · rw [if_neg k3]
          exact ⟨l1, by show 1 ≤ 5; omega, fun z => by cases z⟩
    · rw [if_neg q]
      exact ⟨l1, l3, fun z => absurd z q⟩
