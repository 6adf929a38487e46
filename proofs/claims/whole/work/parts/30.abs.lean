/-! WHAT BOTH SIDES SPEAK OF. Sn: numbers n, heaps k, values v, kept kp (0: not), apart ap. St: (tape: how many, bytes), the numbers now, those ahead of the latest acts (the latest first), the images, (fault, where, trouble), what was written, how often the numbers changed. -/
abbrev Sn : Type := Nat × Nat × (Nat → Nat) × (Nat → Nat) × List (Nat × Nat)
abbrev St : Type := (Nat × (Nat → Nat)) × Option Sn × List Sn × (Nat → Option Sn) × (Nat × Int32 × Nat) × List Nat × Nat
def d0 : Sn := (0, 0, fun _ => 0, fun _ => 0, [])
def CS (iv : zI) (o : Nat) (s : Sn) : Prop := iv o 0 = nI s.1 ∧ iv o 1 = nI s.2.1 ∧ (∀ i, i < s.1 → iv (o + 1) i = nI (s.2.2.1 i)) ∧ (∀ i, i < s.1 → iv (o + 2) i = kpI (s.2.2.2.1 i)) ∧ ∀ i, i < s.1 → iv (o + 3) i = nI (mk (apb s.2.2.2.2 i) s.1)
def VS (s : Sn) : Prop := (1 ≤ s.1 ∧ s.1 ≤ 10) ∧ (2 ≤ s.2.1 ∧ s.2.1 ≤ 4) ∧ (∀ i, i < s.1 → 1 ≤ s.2.2.1 i ∧ s.2.2.1 i ≤ 9999) ∧ (∀ i, i < s.1 → s.2.2.2.1 i ≤ 4) ∧ VP s.1 s.2.2.2.2 ∧ s.2.2.2.2.length ≤ 6
def MS (iv : zI) (a off : Nat) (s : Sn) : Prop := iv a off = nI s.1 ∧ iv a (off + 1) = nI s.2.1 ∧ (∀ i, i < s.1 → iv a (off + 2 + i) = nI (s.2.2.1 i)) ∧ (∀ i, i < s.1 → iv a (off + 12 + i) = nI (s.2.2.2.1 i)) ∧ iv a (off + 22) = nI s.2.2.2.2.length ∧ ∀ p, p < s.2.2.2.2.length → iv a (off + 23 + 2 * p) = nI (s.2.2.2.2.getD p (0, 0)).1 ∧ iv a (off + 24 + 2 * p) = nI (s.2.2.2.2.getD p (0, 0)).2
theorem CS.fr {iv iv' : zI} {o : Nat} {s : Sn} (h : CS iv o s) (hf : ∀ t, t ≤ 3 → iv' (o + t) = iv (o + t)) : CS iv' o s := by
  have h0 : iv' o = iv o := hf 0 (by omega)
  obtain ⟨a1, a2, a3, a4, a5⟩ := h
  exact ⟨by rw [h0]; exact a1, by rw [h0]; exact a2, fun i hi => by rw [hf 1 (by omega)]; exact a3 i hi, fun i hi => by rw [hf 2 (by omega)]; exact a4 i hi, fun i hi => by rw [hf 3 (by omega)]; exact a5 i hi⟩
theorem CS.copy {iv iv' : zI} {o p : Nat} {s : Sn} (h : CS iv p s) (hn : s.1 ≤ 10) (h01 : iv' o 0 = iv p 0 ∧ iv' o 1 = iv p 1) (ht : ∀ t, 1 ≤ t → t ≤ 4 → ∀ j, j < 10 → iv' (o + t) j = iv (p + t) j) : CS iv' o s := by
  obtain ⟨a1, a2, a3, a4, a5⟩ := h
  exact ⟨by rw [h01.1]; exact a1, by rw [h01.2]; exact a2, fun i hi => by rw [ht 1 (by omega) (by omega) i (by omega)]; exact a3 i hi, fun i hi => by rw [ht 2 (by omega) (by omega) i (by omega)]; exact a4 i hi, fun i hi => by rw [ht 3 (by omega) (by omega) i (by omega)]; exact a5 i hi⟩
theorem MS.fr {iv iv' : zI} {a off : Nat} {s : Sn} (h : MS iv a off s) (hn : s.1 ≤ 10) (hl : s.2.2.2.2.length ≤ 6) (hf : ∀ j, j < 35 → iv' a (off + j) = iv a (off + j)) : MS iv' a off s := by
  obtain ⟨a1, a2, a3, a4, a5, a6⟩ := h
  refine ⟨?_, ?_, fun i hi => ?_, fun i hi => ?_, ?_, fun p hp => ⟨?_, ?_⟩⟩
  · rw [← a1]; exact hf 0 (by omega)
  · rw [← a2]; exact hf 1 (by omega)
  · rw [← a3 i hi, Nat.add_assoc]; exact hf (2 + i) (by omega)
  · rw [← a4 i hi, Nat.add_assoc]; exact hf (12 + i) (by omega)
  · rw [← a5]; exact hf 22 (by omega)
  · rw [← (a6 p hp).1, Nat.add_assoc]; exact hf (23 + 2 * p) (by omega)
  · rw [← (a6 p hp).2, Nat.add_assoc]; exact hf (24 + 2 * p) (by omega)
/-- a row of 35 is another row of 35 -/
theorem MS.copy {iv iv' : zI} {a off b off' : Nat} {s : Sn} (h : MS iv a off s) (hn : s.1 ≤ 10) (hl : s.2.2.2.2.length ≤ 6) (hf : ∀ j, j < 35 → iv' b (off' + j) = iv a (off + j)) : MS iv' b off' s := by
  obtain ⟨a1, a2, a3, a4, a5, a6⟩ := h
  refine ⟨?_, ?_, fun i hi => ?_, fun i hi => ?_, ?_, fun p hp => ⟨?_, ?_⟩⟩
  · rw [← a1]; exact hf 0 (by omega)
  · rw [← a2]; exact hf 1 (by omega)
  · rw [← a3 i hi, Nat.add_assoc, Nat.add_assoc]; exact hf (2 + i) (by omega)
  · rw [← a4 i hi, Nat.add_assoc, Nat.add_assoc]; exact hf (12 + i) (by omega)
  · rw [← a5]; exact hf 22 (by omega)
  · rw [← (a6 p hp).1, Nat.add_assoc, Nat.add_assoc]; exact hf (23 + 2 * p) (by omega)
  · rw [← (a6 p hp).2, Nat.add_assoc, Nat.add_assoc]; exact hf (24 + 2 * p) (by omega)
/-- a byte as the class keeps it -/
def sbI (x : Nat) : Int32 := (nI x).toInt8.toInt32
def HB (iv : zI) (hist : List Sn) : Prop := ∃ nx, nx < 10 ∧ iv 13 1 = nI nx ∧ iv 13 2 = nI hist.length ∧ ∀ j, j < hist.length → CS iv (16 + 5 * ((nx + 9 - j) % 10)) (hist.getD j d0)
def NB (iv : zI) (cur : Option Sn) : Prop := match cur with
  | none => iv 8 0 = nI 0
  | some s => CS iv 8 s ∧ ∀ j, j < s.1 → iv 12 j = nI (un s.1 s.2.2.1 j)
def IB (iv : zI) (im : Nat → Option Sn) : Prop := ∀ i, i < 2 → match im i with
  | none => iv (66 + 5 * i) 0 = nI 0
  | some s => CS iv (66 + 5 * i) s
/-- the class's memory holds S -/
def CB (S : St) (iv : zI) : Prop := (iv 1 0 = nI S.1.1 ∧ ∀ j, j < S.1.1 → iv 7 j = sbI (S.1.2 j)) ∧ NB iv S.2.1 ∧ HB iv S.2.2.1 ∧ IB iv S.2.2.2.1 ∧ (iv 0 13 = nI S.2.2.2.2.1.1 ∧ iv 0 14 = S.2.2.2.2.1.2.1 ∧ iv 0 12 = nI S.2.2.2.2.1.2.2) ∧ (iv 0 11 = nI S.2.2.2.2.2.1.length ∧ ∀ j, j < S.2.2.2.2.2.1.length → iv 158 j = nI (S.2.2.2.2.2.1.getD j 0)) ∧ iv 0 3 = nI S.2.2.2.2.2.2
/-- S is one that can be -/
def VT (S : St) : Prop := (S.1.1 ≤ 300 ∧ ∀ j, S.1.2 j < 256) ∧ (∀ s, S.2.1 = some s → VS s) ∧ (S.2.2.1.length ≤ 10 ∧ ∀ s ∈ S.2.2.1, VS s) ∧ (∀ i s, S.2.2.2.1 i = some s → VS s) ∧ (S.2.1 = none → S.2.2.1 = [] ∧ ∀ i, S.2.2.2.1 i = none) ∧ (S.2.2.2.2.1.1 ≤ 5 ∧ S.2.2.2.2.1.2.2 ≤ 6) ∧ (S.2.2.2.2.2.1.length ≤ 64 ∧ ∀ x ∈ S.2.2.2.2.2.1, x < 128)
/-- the reference's memory holds S -/
def MB (S : St) (iv : zI) : Prop := (iv 174 4 = nI S.1.1 ∧ ∀ j, j < S.1.1 → iv 175 j = nI (S.1.2 j)) ∧ (iv 174 19 = bI S.2.1.isSome ∧ ∀ s, S.2.1 = some s → MS iv 176 0 s) ∧ (iv 174 21 = nI S.2.2.1.length ∧ ∀ j, j < S.2.2.1.length → MS iv 178 (35 * (S.2.2.1.length - 1 - j)) (S.2.2.1.getD j d0)) ∧ (∀ i, i < 2 → iv 180 i = bI (S.2.2.2.1 i).isSome ∧ ∀ s, S.2.2.2.1 i = some s → MS iv 179 (35 * i) s) ∧ (iv 174 7 = nI S.2.2.2.2.1.1 ∧ iv 174 2 = S.2.2.2.2.1.2.1 ∧ iv 174 1 = nI S.2.2.2.2.1.2.2) ∧ (iv 174 51 = nI S.2.2.2.2.2.1.length ∧ ∀ j, j < S.2.2.2.2.2.1.length → iv 198 j = nI (S.2.2.2.2.2.1.getD j 0))
/-- refused by t, or not (0) -/
def sT (S : St) (t : Nat) : St := (S.1, S.2.1, S.2.2.1, S.2.2.2.1, (S.2.2.2.2.1.1, -1, t), S.2.2.2.2.2)
/-- the numbers become s' by an act -/
def sA (S : St) (s s' : Sn) : St := (S.1, some s', (s :: S.2.2.1).take 10, S.2.2.2.1, (S.2.2.2.2.1.1, -1, 0), S.2.2.2.2.2.1, S.2.2.2.2.2.2 + 1)
theorem NB.fr {iv iv' : zI} {cur : Option Sn} (h : NB iv cur) (hf : ∀ a, 8 ≤ a → a ≤ 12 → iv' a = iv a) : NB iv' cur := by
  cases cur with
  | none =>
    show iv' 8 0 = _
    rw [hf 8 (by omega) (by omega)]
    exact h
  | some s => exact ⟨h.1.fr (fun t ht => hf (8 + t) (by omega) (by omega)), fun j hj => by rw [hf 12 (by omega) (by omega)]; exact h.2 j hj⟩
theorem HB.fr {iv iv' : zI} {hist : List Sn} (h : HB iv hist) (hf : ∀ a, 13 ≤ a → a ≤ 65 → iv' a = iv a) : HB iv' hist := by
  obtain ⟨nx, h1, h2, h3, h4⟩ := h
  refine ⟨nx, h1, by rw [hf 13 (by omega) (by omega)]; exact h2, by rw [hf 13 (by omega) (by omega)]; exact h3, fun j hj => (h4 j hj).fr (fun t ht => hf _ (by omega) (by omega))⟩
theorem IB.fr {iv iv' : zI} {im : Nat → Option Sn} (h : IB iv im) (hf : ∀ a, 66 ≤ a → a ≤ 75 → iv' a = iv a) : IB iv' im := by
  intro i hi
  have h1 := h i hi
  cases e : im i with
  | none =>
    rw [e] at h1
    show iv' (66 + 5 * i) 0 = _
    rw [hf _ (by omega) (by omega)]
    exact h1
  | some s =>
    rw [e] at h1
    exact h1.fr (fun t ht => hf _ (by omega) (by omega))
theorem CB.tr {S : St} {iv : zI} {t : Nat} (h : CB S iv) : CB (sT S t) (zu (zu iv 0 12 (nI t)) 0 14 (-1)) := by
  obtain ⟨h1, h2, h3, h4, h5, h6, h7⟩ := h
  have r : ∀ a, a ≠ 0 → zu (zu iv 0 12 (nI t)) 0 14 (-1) a = iv a := fun a ha => by rw [zu_row ha, zu_row ha]
  refine ⟨?_, h2.fr (fun a _ _ => r a (by omega)), h3.fr (fun a _ _ => r a (by omega)), h4.fr (fun a _ _ => r a (by omega)), ⟨?_, zu_eq, ?_⟩, ?_, ?_⟩
  · rw [r 1 (by omega), r 7 (by omega)]; exact h1
  · rw [zu_k (by decide), zu_k (by decide)]; exact h5.1
  · rw [zu_k (by decide), zu_eq]; rfl
  · rw [zu_k (by decide), zu_k (by decide), r 158 (by omega)]; exact h6
  · rw [zu_k (by decide), zu_k (by decide)]; exact h7
theorem MB.tr {S : St} {iv : zI} {t : Nat} (h : MB S iv) : MB (sT S t) (zu (zu iv 174 1 (nI t)) 174 2 (-1)) := by
  obtain ⟨h1, h2, h3, h4, h5, h6⟩ := h
  have r : ∀ a, a ≠ 174 → zu (zu iv 174 1 (nI t)) 174 2 (-1) a = iv a := fun a ha => by rw [zu_row ha, zu_row ha]
  have m : ∀ {a off : Nat} {s : Sn}, a ≠ 174 → MS iv a off s → MS (zu (zu iv 174 1 (nI t)) 174 2 (-1)) a off s := fun ha hm => by
    unfold MS
    rw [r _ ha]
    exact hm
  refine ⟨?_, ⟨?_, fun s hs => m (by omega) (h2.2 s hs)⟩, ⟨?_, fun j hj => m (by omega) (h3.2 j hj)⟩, fun i hi => ⟨?_, fun s hs => m (by omega) ((h4 i hi).2 s hs)⟩, ⟨?_, zu_eq, ?_⟩, ?_⟩
  · rw [zu_k (by decide), zu_k (by decide), r 175 (by omega)]; exact h1
  · rw [zu_k (by decide), zu_k (by decide)]; exact h2.1
  · rw [zu_k (by decide), zu_k (by decide)]; exact h3.1
  · rw [r 180 (by omega)]; exact (h4 i hi).1
  · rw [zu_k (by decide), zu_k (by decide)]; exact h5.1
  · rw [zu_k (by decide), zu_eq]; rfl
  · rw [zu_k (by decide), zu_k (by decide), r 198 (by omega)]; exact h6
/-- 'thrown' is nothing that S speaks of -/
theorem MB.th {S : St} {iv : zI} {x : Int32} (h : MB S iv) : MB S (zu iv 174 0 x) := by
  obtain ⟨h1, h2, h3, h4, h5, h6⟩ := h
  have r : ∀ a, a ≠ 174 → zu iv 174 0 x a = iv a := fun a ha => zu_row ha
  have k : ∀ b, b ≠ 0 → zu iv 174 0 x 174 b = iv 174 b := fun b hb => zu_k hb
  have m : ∀ {a off : Nat} {s : Sn}, a ≠ 174 → MS iv a off s → MS (zu iv 174 0 x) a off s := fun ha hm => by
    unfold MS
    rw [r _ ha]
    exact hm
  refine ⟨?_, ⟨?_, fun s hs => m (by omega) (h2.2 s hs)⟩, ⟨?_, fun j hj => m (by omega) (h3.2 j hj)⟩, fun i hi => ⟨?_, fun s hs => m (by omega) ((h4 i hi).2 s hs)⟩, ?_, ?_⟩
  · rw [k 4 (by decide), r 175 (by omega)]; exact h1
  · rw [k 19 (by decide)]; exact h2.1
  · rw [k 21 (by decide)]; exact h3.1
  · rw [r 180 (by omega)]; exact (h4 i hi).1
  · rw [k 7 (by decide), k 2 (by decide), k 1 (by decide)]; exact h5
  · rw [k 51 (by decide), r 198 (by omega)]; exact h6
theorem VT.tr {S : St} {t : Nat} (h : VT S) (ht : t ≤ 6) : VT (sT S t) := ⟨h.1, h.2.1, h.2.2.1, h.2.2.2.1, h.2.2.2.2.1, ⟨h.2.2.2.2.2.1.1, ht⟩, h.2.2.2.2.2.2⟩
/-- the other side's rows, and all that is no one's, as they were -/
def FC (iv iv' : zI) : Prop := ∀ a, 76 ≤ a → a ≠ 158 → iv' a = iv a
def FM (iv iv' : zI) : Prop := ∀ a, a < 174 ∨ 199 ≤ a → iv' a = iv a
