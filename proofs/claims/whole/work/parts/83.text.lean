/-! TEXT: what is meant. -/
def rn (p : Nat → Bool) (n : Nat) : Nat → Nat → Nat
  | 0, a => a
  | f + 1, a => if decide (a < n) && p a then rn p n f (a + 1) else a
def rr (p : Nat → Bool) (n a : Nat) : Nat := rn p n (n - a) a
theorem rr_s {p : Nat → Bool} {n a : Nat} (h : a < n) (hp : p a = true) : rr p n a = rr p n (a + 1) := by
  unfold rr
  obtain ⟨f, hf⟩ : ∃ f, n - a = f + 1 := ⟨n - a - 1, by omega⟩
  rw [hf, rn, decide_eq_true h, hp, show n - (a + 1) = f by omega]
  rfl
theorem rr_e {p : Nat → Bool} {n a : Nat} (h : ¬ a < n ∨ p a = false) : rr p n a = a := by
  unfold rr
  cases hf : n - a with
  | zero => rfl
  | succ f =>
    rw [rn]
    rcases h with h | h
    · rw [decide_eq_false h]
      rfl
    · rw [h, Bool.and_false]
      rfl
theorem rr_ok {p : Nat → Bool} {n : Nat} : ∀ (m a : Nat), n - a = m → a ≤ rr p n a ∧ (a ≤ n → rr p n a ≤ n) ∧ (∀ j, a ≤ j → j < rr p n a → p j = true) ∧ (rr p n a < n → p (rr p n a) = false)
  | 0, a, h => by
    rw [rr_e (Or.inl (by omega))]
    exact ⟨Nat.le_refl _, id, fun j j1 j2 => by omega, fun z => by omega⟩
  | m + 1, a, h => by
    cases q : p a with
    | true =>
      rw [rr_s (by omega) q]
      obtain ⟨i1, i2, i3, i4⟩ := rr_ok (p := p) (n := n) m (a + 1) (by omega)
      refine ⟨by omega, fun _ => i2 (by omega), fun j j1 j2 => ?_, i4⟩
      by_cases e : j = a
      · rw [e]; exact q
      · exact i3 j (by omega) j2
    | false =>
      rw [rr_e (Or.inr q)]
      exact ⟨Nat.le_refl _, id, fun j j1 j2 => by omega, fun _ => q⟩
def isL (b : Nat) : Bool := decide (97 ≤ b ∧ b ≤ 122)
def isD (b : Nat) : Bool := decide (48 ≤ b ∧ b ≤ 57)
def dvl (tp : Nat → Nat) (s : Nat) : Nat → Nat
  | 0 => 0
  | m + 1 => dvl tp s m * 10 + (tp (s + m) - 48)
/-- kind, start, at, value -/
abbrev Tk : Type := Nat × Nat × Nat × Nat
def tkn (tp : Nat → Nat) (n a v : Nat) : Tk :=
  if rr (fun j => tp j == 32) n a < n then
    if isL (tp (rr (fun j => tp j == 32) n a)) then (if rr (fun j => isL (tp j)) n (rr (fun j => tp j == 32) n a) - rr (fun j => tp j == 32) n a ≤ 6 then 1 else 5, rr (fun j => tp j == 32) n a, rr (fun j => isL (tp j)) n (rr (fun j => tp j == 32) n a), v)
    else if isD (tp (rr (fun j => tp j == 32) n a)) then (if rr (fun j => isD (tp j)) n (rr (fun j => tp j == 32) n a) - rr (fun j => tp j == 32) n a ≤ 4 then 2 else 5, rr (fun j => tp j == 32) n a, rr (fun j => isD (tp j)) n (rr (fun j => tp j == 32) n a), dvl tp (rr (fun j => tp j == 32) n a) (min 4 (rr (fun j => isD (tp j)) n (rr (fun j => tp j == 32) n a) - rr (fun j => tp j == 32) n a)))
    else (if tp (rr (fun j => tp j == 32) n a) = 59 then 3 else if tp (rr (fun j => tp j == 32) n a) = 44 then 4 else 5, rr (fun j => tp j == 32) n a, rr (fun j => tp j == 32) n a + 1, v)
  else (0, rr (fun j => tp j == 32) n a, rr (fun j => tp j == 32) n a, v)
theorem dvl_b {tp : Nat → Nat} {s : Nat} : ∀ m, (∀ j, j < m → isD (tp (s + j)) = true) → dvl tp s m < 10 ^ m
  | 0, _ => by show 0 < 1; omega
  | m + 1, h => by
    have ih := dvl_b m (fun j hj => h j (by omega))
    have d := of_decide_eq_true (h m (by omega))
    rw [dvl, Nat.pow_succ]
    omega
/-- a token is in its bounds, and goes on -/
def tkO (n a : Nat) (t : Tk) : Prop := a ≤ t.2.1 ∧ t.2.1 ≤ t.2.2.1 ∧ t.2.2.1 ≤ n ∧ t.1 ≤ 5 ∧ t.2.2.2 ≤ 9999 ∧ (t.1 ≠ 0 → t.2.1 < t.2.2.1)
theorem tkn_O {tp : Nat → Nat} {n a v : Nat} (ha : a ≤ n) (hv : v ≤ 9999) : tkO n a (tkn tp n a v) := by
  obtain ⟨s1, s2, s3, s4⟩ := rr_ok (p := fun j => tp j == 32) (n := n) (n - a) a rfl
  have s2 := s2 ha
  unfold tkn
  generalize rr (fun j => tp j == 32) n a = s at *
  by_cases h : s < n
  · rw [if_pos h]
    by_cases hl : isL (tp s) = true
    · rw [if_pos hl]
      obtain ⟨e1, e2, e3, e4⟩ := rr_ok (p := fun j => isL (tp j)) (n := n) (n - s) s rfl
      have e5 := rr_s (p := fun j => isL (tp j)) h hl
      have e6 := (rr_ok (p := fun j => isL (tp j)) (n := n) (n - (s + 1)) (s + 1) rfl).1
      generalize rr (fun j => isL (tp j)) n s = e at *
      refine ⟨s1, e1, e2 (by omega), ?_, hv, fun _ => ?_⟩
      · show (if e - s ≤ 6 then 1 else 5) ≤ 5
        split <;> omega
      · show s < e
        omega
    · rw [if_neg hl]
      by_cases hd : isD (tp s) = true
      · rw [if_pos hd]
        obtain ⟨e1, e2, e3, e4⟩ := rr_ok (p := fun j => isD (tp j)) (n := n) (n - s) s rfl
        have e5 := rr_s (p := fun j => isD (tp j)) h hd
        have e6 := (rr_ok (p := fun j => isD (tp j)) (n := n) (n - (s + 1)) (s + 1) rfl).1
        generalize rr (fun j => isD (tp j)) n s = e at *
        refine ⟨s1, e1, e2 (by omega), ?_, ?_, fun _ => ?_⟩
        · show (if e - s ≤ 4 then 2 else 5) ≤ 5
          split <;> omega
        · show dvl tp s (min 4 (e - s)) ≤ 9999
          have := dvl_b (tp := tp) (s := s) (min 4 (e - s)) (fun j hj => e3 (s + j) (by omega) (by omega))
          have p4 : 10 ^ (min 4 (e - s)) ≤ 10 ^ 4 := Nat.pow_le_pow_right (by omega) (by omega)
          omega
        · show s < e
          omega
      · rw [if_neg hd]
        refine ⟨s1, by show s ≤ s + 1; omega, by show s + 1 ≤ n; omega, ?_, hv, fun _ => by show s < s + 1; omega⟩
        show (if tp s = 59 then 3 else if tp s = 44 then 4 else 5) ≤ 5
        repeat' split
        all_goals omega
  · rw [if_neg h]
    exact ⟨s1, Nat.le_refl _, s2, Nat.zero_le _, hv, fun z => absurd rfl z⟩
abbrev PS : Type := Tk × Bool × Sn
def nx (tp : Nat → Nat) (n : Nat) (st : PS) : PS := (tkn tp n st.1.2.2.1 0, st.2)
def wW (st : PS) (lo c : Nat) : Nat := if st.1.1 = 2 then (if st.1.2.2.2 < lo ∨ c ≤ st.1.2.2.2 then 2 else 0) else 1
/-- a word -/
def alB (tp : Nat → Nat) (s : Nat) (w : List Nat) : Nat → Bool
  | 0 => true
  | j + 1 => alB tp s w j && (tp (s + j) == w.getD j 0)
def tw (tp : Nat → Nat) (t : Tk) (w : List Nat) : Bool := t.1 == 1 && (t.2.2.1 - t.2.1 == w.length && alB tp t.2.1 w w.length)
def wNum : List Nat := [110, 117, 109, 98, 101, 114]
def wHps : List Nat := [104, 101, 97, 112, 115]
def wKp : List Nat := [107, 101, 101, 112]
def wIn : List Nat := [105, 110]
def wApt : List Nat := [97, 112, 97, 114, 116]
abbrev PR : Type := Nat × PS
def rNum (tp : Nat → Nat) (n : Nat) : Nat → PS → PR
  | 0, st => (1, st)
  | f + 1, st => if wW (nx tp n st) 1 10000 = 0 then (if 10 ≤ st.2.2.1 then (4, nx tp n st) else if (nx tp n ((nx tp n st).1, st.2.1, addS st.2.2 (nx tp n st).1.2.2.2)).1.1 = 4 then rNum tp n f (nx tp n ((nx tp n st).1, st.2.1, addS st.2.2 (nx tp n st).1.2.2.2)) else (0, nx tp n ((nx tp n st).1, st.2.1, addS st.2.2 (nx tp n st).1.2.2.2))) else (wW (nx tp n st) 1 10000, nx tp n st)
def sK (s : Sn) (k : Nat) : Sn := (s.1, k, s.2.2.1, s.2.2.2.1, s.2.2.2.2)
def sKp (s : Sn) (i h : Nat) : Sn := (s.1, s.2.1, s.2.2.1, up s.2.2.2.1 i h, s.2.2.2.2)
def sPr (s : Sn) (i j : Nat) : Sn := (s.1, s.2.1, s.2.2.1, s.2.2.2.1, s.2.2.2.2 ++ [(i, j)])
def rHps (tp : Nat → Nat) (n : Nat) (st : PS) : PR := if st.2.1 then (3, st) else if wW (nx tp n (st.1, true, st.2.2)) 2 5 = 0 then (0, nx tp n ((nx tp n (st.1, true, st.2.2)).1, true, sK st.2.2 (nx tp n (st.1, true, st.2.2)).1.2.2.2)) else (wW (nx tp n (st.1, true, st.2.2)) 2 5, nx tp n (st.1, true, st.2.2))
def rKeep (tp : Nat → Nat) (n : Nat) (st : PS) : PR :=
  if wW (nx tp n st) 0 st.2.2.1 = 0 then
    if st.2.2.2.2.2.1 (nx tp n st).1.2.2.2 = 0 then
      if tw tp (nx tp n (nx tp n st)).1 wIn then
        if wW (nx tp n (nx tp n (nx tp n st))) 0 4 = 0 then (0, nx tp n ((nx tp n (nx tp n (nx tp n st))).1, st.2.1, sKp st.2.2 (nx tp n st).1.2.2.2 ((nx tp n (nx tp n (nx tp n st))).1.2.2.2 + 1)))
        else (wW (nx tp n (nx tp n (nx tp n st))) 0 4, nx tp n (nx tp n (nx tp n st)))
      else (1, nx tp n (nx tp n st))
    else (3, nx tp n st)
  else (wW (nx tp n st) 0 st.2.2.1, nx tp n st)
def rApt (tp : Nat → Nat) (n : Nat) (st : PS) : PR :=
  if 6 ≤ st.2.2.2.2.2.2.length then (4, st)
  else if wW (nx tp n st) 0 st.2.2.1 = 0 then
    if wW (nx tp n (nx tp n st)) 0 st.2.2.1 = 0 then
      if (nx tp n (nx tp n st)).1.2.2.2 = (nx tp n st).1.2.2.2 ∨ apb st.2.2.2.2.2.2 (nx tp n st).1.2.2.2 (nx tp n (nx tp n st)).1.2.2.2 = true then (3, nx tp n (nx tp n st))
      else (0, nx tp n ((nx tp n (nx tp n st)).1, st.2.1, sPr st.2.2 (nx tp n st).1.2.2.2 (nx tp n (nx tp n st)).1.2.2.2))
    else (wW (nx tp n (nx tp n st)) 0 st.2.2.1, nx tp n (nx tp n st))
  else (wW (nx tp n st) 0 st.2.2.1, nx tp n st)
def rLine (tp : Nat → Nat) (n : Nat) (st : PS) : PR :=
  if tw tp st.1 wNum then rNum tp n (n + 1) st else if tw tp st.1 wHps then rHps tp n st else if tw tp st.1 wKp then rKeep tp n st else if tw tp st.1 wApt then rApt tp n st else (1, st)
def rLines (tp : Nat → Nat) (n : Nat) : Nat → PS → PR
  | 0, st => (1, st)
  | f + 1, st => if (rLine tp n st).1 = 0 then (if (rLine tp n st).2.1.1 = 0 then (if 0 < (rLine tp n st).2.2.2.1 then rLine tp n st else (5, (rLine tp n st).2)) else if (rLine tp n st).2.1.1 = 3 then rLines tp n f (nx tp n (rLine tp n st).2) else (1, (rLine tp n st).2)) else rLine tp n st
def s00 : Sn := (0, 2, fun _ => 0, fun _ => 0, [])
def rTxt (tp : Nat → Nat) (n : Nat) : PR := rLines tp n (n + 1) (nx tp n ((0, 0, 0, 0), false, s00))
/-- what is told so far -/
def VU (s : Sn) : Prop := s.1 ≤ 10 ∧ (2 ≤ s.2.1 ∧ s.2.1 ≤ 4) ∧ (∀ i, i < s.1 → 1 ≤ s.2.2.1 i ∧ s.2.2.1 i ≤ 9999) ∧ (∀ i, i < s.1 → s.2.2.2.1 i ≤ 4) ∧ VP s.1 s.2.2.2.2 ∧ s.2.2.2.2.length ≤ 6
def PO (n : Nat) (st : PS) : Prop := st.1.2.1 ≤ st.1.2.2.1 ∧ st.1.2.2.1 ≤ n ∧ st.1.1 ≤ 5 ∧ st.1.2.2.2 ≤ 9999 ∧ VU st.2.2
theorem PO.nx {tp : Nat → Nat} {n : Nat} {st : PS} (h : PO n st) : PO n (nx tp n st) ∧ st.1.2.2.1 ≤ (nx tp n st).1.2.1 ∧ ((nx tp n st).1.1 ≠ 0 → st.1.2.2.1 < (nx tp n st).1.2.2.1) := by
  obtain ⟨h1, h2, h3, h4, h5⟩ := h
  obtain ⟨t1, t2, t3, t4, t5, t6⟩ := tkn_O (tp := tp) h2 (Nat.zero_le 9999)
  refine ⟨⟨t2, t3, t4, t5, h5⟩, t1, fun z => ?_⟩
  have := t6 z
  show st.1.2.2.1 < (tkn tp n st.1.2.2.1 0).2.2.1
  omega
theorem VU.add {s : Sn} {x : Nat} (h : VU s) (hn : s.1 < 10) (hx : 1 ≤ x ∧ x ≤ 9999) : VU (addS s x) := by
  obtain ⟨h1, h2, h3, h4, h5, h6⟩ := h
  refine ⟨by show s.1 + 1 ≤ 10; omega, h2, fun i hi => ?_, fun i hi => ?_, VP_up (Nat.le_succ _) h5, h6⟩
  · have hi : i < s.1 + 1 := hi
    show 1 ≤ (if i = s.1 then x else s.2.2.1 i) ∧ (if i = s.1 then x else s.2.2.1 i) ≤ 9999
    split
    · exact hx
    · exact h3 i (by omega)
  · have hi : i < s.1 + 1 := hi
    show (if i = s.1 then 0 else s.2.2.2.1 i) ≤ 4
    split
    · omega
    · exact h4 i (by omega)
