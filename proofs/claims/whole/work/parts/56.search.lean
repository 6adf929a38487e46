/-! THE SEARCH: what is meant. (visited, leaves, finds, their values, their places, the least, its side, perfect) -/
abbrev SS : Type := Nat × Nat × Nat × (Nat → Nat) × (Nat → Nat) × Nat × Nat × Bool
abbrev sVis (st : SS) : Nat := st.1
abbrev sLea (st : SS) : Nat := st.2.1
abbrev sFin (st : SS) : Nat := st.2.2.1
abbrev sFo (st : SS) : Nat → Nat := st.2.2.2.1
abbrev sFa (st : SS) : Nat → Nat := st.2.2.2.2.1
abbrev sLst (st : SS) : Nat := st.2.2.2.2.2.1
abbrev sSid (st : SS) : Nat := st.2.2.2.2.2.2.1
abbrev sPrf (st : SS) : Bool := st.2.2.2.2.2.2.2
def lf (tp : Nat) (st : SS) (v side : Nat) : SS := if sFin st = 0 ∨ v < sLst st then (sVis st, sLea st + 1, sFin st + 1, up (sFo st) (sFin st) v, up (sFa st) (sFin st) (sVis st), v, side, v == tp) else (sVis st, sLea st + 1, sFin st, sFo st, sFa st, sLst st, sSid st, v == tp)
def oth (f : Nat → It) (c : Nat) : Nat := sm (fun k => (f (k + 1)).1) c
def sd (f : Nat → It) : Nat → Nat
  | 0 => (f 0).2.1
  | k + 1 => sd f k ||| (f (k + 1)).2.2
def vs1 (st : SS) : SS := (sVis st + 1, st.2)
def sv (tp : Nat) : Nat → (Nat → It) → SS → SS
  | 0, _, st => st
  | c + 1, f, st => if sPrf st then st else if c = 0 ∨ oth f c ≤ (f 0).1 then lf tp (vs1 st) ((f 0).1 - oth f c) (sd f c) else sv tp c (jn f (c + 1) false) (sv tp c (jn f (c + 1) true) (vs1 st))
def SI (tp : Nat) (st : SS) : Prop := sFin st ≤ sLea st ∧ (sFin st = 0 → sLea st = 0 ∧ sPrf st = false) ∧ (0 < sFin st → sLst st % 2 = tp ∧ sPrf st = (sLst st == tp))
theorem sm_h {g : Nat → Nat} : ∀ c, sm g (c + 1) = g 0 + sm (fun k => g (k + 1)) c
  | 0 => by simp [sm]
  | c + 1 => by
    rw [sm, sm_h c]
    simp only [sm]
    omega
theorem vsum_o {f : Nat → It} {c : Nat} : vsum f (c + 1) = (f 0).1 + oth f c := sm_h c
theorem lf_SI {tp : Nat} {st : SS} {v side : Nat} (ht : tp < 2) (h : SI tp st) (hp : sPrf st = false) (hv : v % 2 = tp) : SI tp (lf tp st v side) := by
  obtain ⟨h1, h2, h3⟩ := h
  unfold lf
  by_cases q : sFin st = 0 ∨ v < sLst st
  · rw [if_pos q]
    refine ⟨by show sFin st + 1 ≤ sLea st + 1; omega, fun z => absurd z (Nat.succ_ne_zero _), fun _ => ⟨hv, rfl⟩⟩
  · rw [if_neg q]
    have q1 : 0 < sFin st := by omega
    have q2 : sLst st ≤ v := by omega
    obtain ⟨h4, h5⟩ := h3 q1
    rw [hp] at h5
    have h6 : sLst st ≠ tp := fun e => by
      rw [beq_iff_eq.mpr e] at h5
      cases h5
    refine ⟨by show sFin st ≤ sLea st + 1; omega, fun z => absurd z (by show ¬ sFin st = 0; omega), fun _ => ⟨h4, ?_⟩⟩
    show (v == tp) = (sLst st == tp)
    rw [beq_eq_false_iff_ne.mpr h6, beq_eq_false_iff_ne.mpr (by omega)]
theorem vs1_SI {tp : Nat} {st : SS} (h : SI tp st) : SI tp (vs1 st) := h
theorem sv_SI {tp : Nat} (ht : tp < 2) : ∀ (c : Nat) (f : Nat → It) (st : SS), srt f c → vsum f c % 2 = tp → SI tp st → SI tp (sv tp c f st)
  | 0, _, _, _, _, h => h
  | c + 1, f, st, hs, hm, h => by
    rw [sv]
    cases hp : sPrf st with
    | true =>
      rw [if_pos rfl]
      exact h
    | false =>
      rw [if_neg (by simp)]
      by_cases q : c = 0 ∨ oth f c ≤ (f 0).1
      · rw [if_pos q]
        refine lf_SI ht (vs1_SI h) hp ?_
        rw [vsum_o] at hm
        have : oth f c ≤ (f 0).1 := by
          rcases q with q | q
          · subst q
            simp [oth, sm]
          · exact q
        omega
      · rw [if_neg q]
        have hc : 2 ≤ c + 1 := by omega
        have e1 := jn_s true hs hc
        have e2 := jn_s false hs hc
        have p1 := jn_par true hs hc
        have p2 := jn_par false hs hc
        rw [Nat.add_sub_cancel] at e1 e2 p1 p2
        exact sv_SI ht c _ _ e2 (by rw [p2]; exact hm) (sv_SI ht c _ _ e1 (by rw [p1]; exact hm) (vs1_SI h))
theorem lf_lea {tp : Nat} {st : SS} {v side : Nat} : sLea (lf tp st v side) = sLea st + 1 := by
  unfold lf
  split <;> rfl
theorem lf_vis {tp : Nat} {st : SS} {v side : Nat} : sVis (lf tp st v side) = sVis st := by
  unfold lf
  split <;> rfl
theorem sv_lea {tp : Nat} : ∀ (c : Nat) (f : Nat → It) (st : SS), sLea (sv tp (c + 1) f st) ≤ sLea st + 2 ^ c ∧ sVis (sv tp (c + 1) f st) + 1 ≤ sVis st + 2 ^ (c + 1) ∧ (sPrf st = false → sLea st < sLea (sv tp (c + 1) f st))
  | c, f, st => by
    have p1 : 0 < 2 ^ c := Nat.two_pow_pos c
    have p2 : 2 ^ (c + 1) = 2 * 2 ^ c := by rw [Nat.pow_succ]; omega
    rw [sv]
    cases hp : sPrf st with
    | true =>
      rw [if_pos rfl]
      exact ⟨by omega, by omega, fun z => (by cases z)⟩
    | false =>
      rw [if_neg (by simp)]
      by_cases q : c = 0 ∨ oth f c ≤ (f 0).1
      · rw [if_pos q, lf_lea, lf_vis]
        refine ⟨?_, ?_, fun _ => ?_⟩
        · show sLea st + 1 ≤ _; omega
        · show sVis st + 1 + 1 ≤ _; omega
        · show sLea st < sLea st + 1; omega
      · rw [if_neg q]
        cases c with
        | zero => exact absurd (Or.inl rfl) q
        | succ c =>
          obtain ⟨a1, a2, a3⟩ := sv_lea (tp := tp) c (jn f (c + 1 + 1) true) (vs1 st)
          obtain ⟨b1, b2, b3⟩ := sv_lea (tp := tp) c (jn f (c + 1 + 1) false) (sv tp (c + 1) (jn f (c + 1 + 1) true) (vs1 st))
          have p3 : 2 ^ (c + 1) = 2 * 2 ^ c := by rw [Nat.pow_succ]; omega
          have a1 : _ ≤ sLea st + 2 ^ c := a1
          have a2 : _ ≤ sVis st + 1 + 2 ^ (c + 1) := a2
          have a3 : sPrf st = false → sLea st < _ := a3
          refine ⟨by omega, by omega, fun _ => ?_⟩
          have := a3 hp
          have mono : sLea (sv tp (c + 1) (jn f (c + 1 + 1) true) (vs1 st)) ≤ sLea (sv tp (c + 1) (jn f (c + 1 + 1) false) (sv tp (c + 1) (jn f (c + 1 + 1) true) (vs1 st))) := by
            cases hq : sPrf (sv tp (c + 1) (jn f (c + 1 + 1) true) (vs1 st)) with
            | false => exact Nat.le_of_lt (b3 hq)
            | true =>
              rw [show sv tp (c + 1) (jn f (c + 1 + 1) false) (sv tp (c + 1) (jn f (c + 1 + 1) true) (vs1 st)) = sv tp (c + 1) (jn f (c + 1 + 1) true) (vs1 st) by
                rw [sv, hq, if_pos rfl]]
              exact Nat.le_refl _
          omega
/-- the whole search -/
def st0 : SS := (0, 0, 0, fun _ => 0, fun _ => 0, 0, 0, false)
def srch (s : Sn) : SS := sv (sm s.2.2.1 s.1 % 2) s.1 (tk s.2.2.1 s.1) st0
theorem st0_SI (tp : Nat) : SI tp st0 := ⟨Nat.le_refl _, fun _ => ⟨rfl, rfl⟩, fun z => absurd z (Nat.lt_irrefl _)⟩
theorem srch_ok {s : Sn} (vs : VS s) : SI (sm s.2.2.1 s.1 % 2) (srch s) ∧ sLea (srch s) ≤ 512 ∧ sVis (srch s) ≤ 1024 ∧ 0 < sFin (srch s) := by
  have vn := vs.1
  have h1 := sv_SI (tp := sm s.2.2.1 s.1 % 2) (by omega) s.1 (tk s.2.2.1 s.1) st0 (tk_s _ _) (by rw [tk_sum]) (st0_SI _)
  obtain ⟨m, hm⟩ : ∃ m, s.1 = m + 1 := ⟨s.1 - 1, by omega⟩
  have h2 := sv_lea (tp := sm s.2.2.1 s.1 % 2) m (tk s.2.2.1 s.1) st0
  rw [← hm] at h2
  have p1 : 2 ^ m ≤ 2 ^ 9 := Nat.pow_le_pow_right (by omega) (by omega)
  have p2 : 2 ^ s.1 ≤ 2 ^ 10 := Nat.pow_le_pow_right (by omega) vn.2
  obtain ⟨a1, a2, a3⟩ := h2
  have a1 : sLea (srch s) ≤ 0 + 2 ^ m := a1
  have a2 : sVis (srch s) + 1 ≤ 0 + 2 ^ s.1 := a2
  have a3 := a3 rfl
  have a3 : 0 < sLea (srch s) := a3
  refine ⟨h1, by omega, by omega, ?_⟩
  rcases Nat.eq_zero_or_pos (sFin (srch s)) with z | z
  · have := (h1.2.1 z).1
    have this : sLea (srch s) = 0 := this
    omega
  · exact z
theorem sd_b {f : Nat → It} {c B : Nat} (h : BI f (c + 1) B) : ∀ k, k ≤ c → sd f k < 1024
  | 0, _ => (h 0 (by omega)).2.1
  | k + 1, hk => or_10 (sd_b h k (by omega)) (h (k + 1) (by omega)).2.2
theorem oth_b {f : Nat → It} {c B : Nat} (h : BI f (c + 1) B) : ∀ k, k ≤ c → oth f k ≤ B * k := fun k hk => sm_le k (fun i hi => (h (i + 1) (by omega)).1)
theorem lf_sid {tp : Nat} {st : SS} {v side : Nat} (h : sSid st < 1024) (h2 : side < 1024) : sSid (lf tp st v side) < 1024 := by
  unfold lf
  split
  · exact h2
  · exact h
theorem sv_sid {tp : Nat} : ∀ (c : Nat) (f : Nat → It) (st : SS) (B : Nat), BI f c B → sSid st < 1024 → sSid (sv tp c f st) < 1024
  | 0, _, _, _, _, h => h
  | c + 1, f, st, B, hb, h => by
    rw [sv]
    cases hp : sPrf st with
    | true =>
      rw [if_pos rfl]
      exact h
    | false =>
      rw [if_neg (by simp)]
      by_cases q : c = 0 ∨ oth f c ≤ (f 0).1
      · rw [if_pos q]
        exact lf_sid h (sd_b hb c (Nat.le_refl _))
      · rw [if_neg q]
        have hc : 2 ≤ c + 1 := by omega
        have b1 := jn_b true hb hc
        have b2 := jn_b false hb hc
        rw [Nat.add_sub_cancel] at b1 b2
        exact sv_sid c _ _ _ b2 (sv_sid c _ _ _ b1 h)
theorem srch_sid {s : Sn} (vs : VS s) : sSid (srch s) < 1024 := sv_sid s.1 _ _ 9999 (tk_b s.1 vs.1.2 (fun i hi => (vs.2.2.1 i hi).2)) (by show 0 < 1024; omega)
