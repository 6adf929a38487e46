/-! MULTI: what is meant. A row of parts is a function to items (value, members, 0). -/
abbrev Pa : Type := Nat → It
/-- the first m parts in order, the others as they were -/
def isr (f : Pa) : Nat → Pa
  | 0 => f
  | m + 1 => fun j => if j ≤ m then ins (f m) (isr f m) m j else f j
theorem isr_hi {f : Pa} : ∀ {m j : Nat}, m ≤ j → isr f m j = f j
  | 0, _, _ => rfl
  | m + 1, j, h => by
    show (if j ≤ m then _ else f j) = f j
    rw [if_neg (by omega)]
theorem isr_lo {f : Pa} {m j : Nat} (h : j ≤ m) : isr f (m + 1) j = ins (f m) (isr f m) m j := by
  show (if j ≤ m then _ else f j) = _
  rw [if_pos h]
theorem srt_cg {f g : Pa} {c : Nat} (h : srt f c) (e : ∀ j, j < c → g j = f j) : srt g c := fun j hj => by
  rw [e j (by omega), e (j + 1) hj]
  exact h j hj
theorem isr_s {f : Pa} : ∀ m, srt (isr f m) m
  | 0 => fun j hj => absurd hj (Nat.not_lt_zero _)
  | m + 1 => srt_cg (srt_ins (isr_s m)) (fun j hj => isr_lo (by omega))
/-- what holds of each part holds of each part in order -/
theorem ins_all {P : It → Prop} {x : It} {f : Pa} {c : Nat} (hx : P x) (h : ∀ j, j < c → P (f j)) : ∀ j, j < c + 1 → P (ins x f c j) := by
  intro j hj
  have hp := pos_le x f c
  unfold ins
  rcases Nat.lt_trichotomy j (pos x f c) with q | q | q
  · rw [put_lt q]; exact h j (by omega)
  · rw [q, put_eq]; exact hx
  · rw [put_gt q]; exact h (j - 1) (by omega)
theorem isr_all {P : It → Prop} {f : Pa} {c : Nat} (h : ∀ j, j < c → P (f j)) : ∀ m, m ≤ c → ∀ j, j < c → P (isr f m j)
  | 0, _, j, hj => h j hj
  | m + 1, hm, j, hj => by
    by_cases q : j ≤ m
    · rw [isr_lo q]
      exact ins_all (h m (by omega)) (fun i hi => isr_all h m (by omega) i (by omega)) j (by omega)
    · rw [isr_hi (by omega)]
      exact h j hj
/-- each part is among the parts in order -/
theorem ins_ex {P : It → Prop} {x : It} {f : Pa} {c : Nat} (h : P x ∨ ∃ j, j < c ∧ P (f j)) : ∃ j, j < c + 1 ∧ P (ins x f c j) := by
  have hp := pos_le x f c
  unfold ins
  rcases h with h | ⟨j, hj, h⟩
  · exact ⟨pos x f c, by omega, by rw [put_eq]; exact h⟩
  · by_cases q : j < pos x f c
    · exact ⟨j, by omega, by rw [put_lt q]; exact h⟩
    · exact ⟨j + 1, by omega, by rw [put_gt (by omega), Nat.add_sub_cancel]; exact h⟩
theorem isr_ex {P : It → Prop} {f : Pa} {c : Nat} (h : ∃ j, j < c ∧ P (f j)) : ∀ m, m ≤ c → ∃ j, j < c ∧ P (isr f m j)
  | 0, _ => h
  | m + 1, hm => by
    obtain ⟨j, hj, h1⟩ := isr_ex h m (by omega)
    by_cases q : j ≤ m
    · have : ∃ j, j < m + 1 ∧ P (ins (f m) (isr f m) m j) := by
        refine ins_ex ?_
        by_cases e : j = m
        · left
          rw [e, isr_hi (Nat.le_refl _)] at h1
          exact h1
        · exact Or.inr ⟨j, by omega, h1⟩
      obtain ⟨i, hi, h2⟩ := this
      exact ⟨i, by omega, by rw [isr_lo (by omega)]; exact h2⟩
    · refine ⟨j, hj, ?_⟩
      rw [isr_hi (by omega)] at h1 ⊢
      exact h1
theorem srt_v {f : Pa} {c : Nat} (h : srt f c) : ∀ j, j + 1 < c → (f (j + 1)).1 ≤ (f j).1 := fun j hj => by
  have := h j hj
  unfold ahead at this
  simp only [Bool.or_eq_false_iff, decide_eq_false_iff_not] at this
  omega
theorem srt_le {f : Pa} {c : Nat} (h : srt f c) : ∀ (n j : Nat), j + n < c → (f (j + n)).1 ≤ (f j).1
  | 0, _, _ => Nat.le_refl _
  | n + 1, j, hj => Nat.le_trans (srt_v h (j + n) (by omega)) (srt_le h n j (by omega))
theorem isr_id {f : Pa} : ∀ m, srt f m → ∀ j, isr f m j = f j
  | 0, _, _ => rfl
  | m + 1, h, j => by
    have ih := isr_id m (fun i hi => h i (by omega))
    by_cases q : j ≤ m
    · rw [isr_lo q]
      have pe : pos (f m) (isr f m) m = m := ins_end (by
        by_cases e : m = 0
        · exact Or.inl e
        · right
          rw [ih]
          have := h (m - 1) (by omega)
          rw [show m - 1 + 1 = m by omega] at this
          exact this)
      unfold ins
      rw [pe]
      by_cases e : j = m
      · rw [e, put_eq]
      · rw [put_lt (by omega), ih]
    · exact isr_hi (by omega)
/-- all members -/
def al (f : Pa) : Nat → Nat
  | 0 => 0
  | k + 1 => al f k ||| (f k).2.1
theorem al_bit {f : Pa} {i : Nat} : ∀ k, (al f k).testBit i = true ↔ ∃ p, p < k ∧ (f p).2.1.testBit i = true
  | 0 => by
    simp only [al, Nat.zero_testBit]
    constructor
    · intro h
      cases h
    · rintro ⟨p, hp, -⟩
      omega
  | k + 1 => by
    rw [al, Nat.testBit_or, Bool.or_eq_true, al_bit k]
    constructor
    · rintro (⟨p, hp, h⟩ | h)
      · exact ⟨p, by omega, h⟩
      · exact ⟨k, by omega, h⟩
    · rintro ⟨p, hp, h⟩
      by_cases e : p = k
      · right
        rw [← e]
        exact h
      · exact Or.inl ⟨p, by omega, h⟩
theorem al_lt {f : Pa} : ∀ k, (∀ p, p < k → (f p).2.1 < 1024) → al f k < 1024
  | 0, _ => by show 0 < 1024; omega
  | k + 1, h => or_10 (al_lt k (fun p hp => h p (by omega))) (h k (by omega))
theorem al_cg {f g : Pa} : ∀ k, (∀ p, p < k → (f p).2.1 = (g p).2.1) → al f k = al g k
  | 0, _ => rfl
  | k + 1, h => by rw [al, al, al_cg k (fun p hp => h p (by omega)), h k (by omega)]
/-- the order of items is that of their widths and all their members -/
def ky (k : Nat) (f : Pa) : It := ((f 0).1 - (f (k - 1)).1, al f k, 0)
def nrm (k : Nat) (f : Pa) : Pa := fun p => if p < k then ((f p).1 - (f (k - 1)).1, (f p).2.1, 0) else (0, 0, 0)
def mk2 (k : Nat) (f : Pa) : Pa := nrm k (isr f k)
def rw2 (k : Nat) (x y : Pa) : Pa := fun p => ((x p).1 + (y (k - 1 - p)).1, (x p).2.1 ||| (y (k - 1 - p)).2.1, 0)
def one (v : Nat → Nat) (i : Nat) : Pa := fun p => if p = 0 then (v i, 2 ^ i, 0) else (0, 0, 0)
abbrev Li : Type := Nat → Pa
def kys (k : Nat) (g : Li) : Nat → It := fun j => ky k (g j)
def putP (g : Li) (p : Nat) (x : Pa) : Li := fun j => if j < p then g j else if j = p then x else g (j - 1)
theorem putP_lt {f : Li} {p j : Nat} {x : Pa} (h : j < p) : putP f p x j = f j := by simp [putP, h]
theorem putP_eq {f : Li} {p : Nat} {x : Pa} : putP f p x p = x := by simp [putP]
theorem putP_gt {f : Li} {p j : Nat} {x : Pa} (h : p < j) : putP f p x j = f (j - 1) := by
  have h1 : ¬ j < p := by omega
  have h2 : ¬ j = p := by omega
  simp [putP, h1, h2]
def insP (k : Nat) (x : Pa) (g : Li) (c : Nat) : Li := putP g (pos (ky k x) (kys k g) c) x
theorem kys_ins {k c : Nat} {x : Pa} {g : Li} : kys k (insP k x g c) = ins (ky k x) (kys k g) c := by
  funext j
  unfold insP ins
  show ky k (putP g _ x j) = _
  rcases Nat.lt_trichotomy j (pos (ky k x) (kys k g) c) with q | q | q
  · rw [putP_lt q, put_lt q]; rfl
  · rw [q, putP_eq, put_eq]
  · rw [putP_gt q, put_gt q]; rfl
theorem insP_all {k c : Nat} {P : Pa → Prop} {x : Pa} {g : Li} (hx : P x) (h : ∀ j, j < c → P (g j)) : ∀ j, j < c + 1 → P (insP k x g c j) := by
  intro j hj
  have hp := pos_le (ky k x) (kys k g) c
  unfold insP
  rcases Nat.lt_trichotomy j (pos (ky k x) (kys k g) c) with q | q | q
  · rw [putP_lt q]; exact h j (by omega)
  · rw [q, putP_eq]; exact hx
  · rw [putP_gt q]; exact h (j - 1) (by omega)
theorem insP_ex {k c : Nat} {P : Pa → Prop} {x : Pa} {g : Li} (h : P x ∨ ∃ j, j < c ∧ P (g j)) : ∃ j, j < c + 1 ∧ P (insP k x g c j) := by
  have hp := pos_le (ky k x) (kys k g) c
  unfold insP
  rcases h with h | ⟨j, hj, h⟩
  · exact ⟨pos (ky k x) (kys k g) c, by omega, by rw [putP_eq]; exact h⟩
  · by_cases q : j < pos (ky k x) (kys k g) c
    · exact ⟨j, by omega, by rw [putP_lt q]; exact h⟩
    · exact ⟨j + 1, by omega, by rw [putP_gt (by omega), Nat.add_sub_cancel]; exact h⟩
def mtk (k : Nat) (v : Nat → Nat) : Nat → Li
  | 0 => fun _ _ => (0, 0, 0)
  | i + 1 => insP k (one v i) (mtk k v i) i
def mjn (k : Nat) (g : Li) (c : Nat) : Li := insP k (mk2 k (rw2 k (g 0) (g 1))) (fun j => g (j + 2)) (c - 2)
def ml (k : Nat) (v : Nat → Nat) (n : Nat) : Nat → Li
  | 0 => mtk k v n
  | m + 1 => mjn k (ml k v n m) (n - m)
/-- what each item is like -/
def IG (k B : Nat) (f : Pa) : Prop := (∀ p, p < k → (f p).1 ≤ B ∧ (f p).2.1 < 1024 ∧ (f p).2.2 = 0) ∧ (f (k - 1)).1 = 0 ∧ ∀ p, k ≤ p → f p = (0, 0, 0)
def hb (k i : Nat) (f : Pa) : Prop := ∃ p, p < k ∧ (f p).2.1.testBit i = true
theorem hb_al {k i : Nat} {f : Pa} : (al f k).testBit i = true ↔ hb k i f := al_bit k
/-- what a list of items is like -/
def MG (k n B c : Nat) (g : Li) : Prop := srt (kys k g) c ∧ (∀ j, j < c → IG k B (g j)) ∧ (∀ i, i < n → ∃ j, j < c ∧ hb k i (g j)) ∧ (∀ j, j < c → ∃ i, i < n ∧ hb k i (g j)) ∧ ∀ j j' i, j < c → j' < c → hb k i (g j) → hb k i (g j') → j = j'
theorem one_IG {k i B : Nat} {v : Nat → Nat} (hk : 2 ≤ k) (hi : i < 10) (hv : v i ≤ B) : IG k B (one v i) := by
  refine ⟨fun p hp => ?_, ?_, fun p hp => ?_⟩
  · unfold one
    split
    · exact ⟨hv, Nat.pow_lt_pow_right (by omega) (show i < 10 by omega), rfl⟩
    · exact ⟨Nat.zero_le _, by show 0 < 1024; omega, rfl⟩
  · unfold one
    rw [if_neg (by omega)]
  · unfold one
    rw [if_neg (by omega)]
theorem one_hb {k i a : Nat} {v : Nat → Nat} (hk : 2 ≤ k) : hb k a (one v i) ↔ a = i := by
  constructor
  · rintro ⟨p, hp, h⟩
    unfold one at h
    by_cases e : p = 0
    · rw [if_pos e] at h
      have h : (2 ^ i).testBit a = true := h
      rw [Nat.testBit_two_pow] at h
      have := of_decide_eq_true h
      omega
    · rw [if_neg e] at h
      have h : (0 : Nat).testBit a = true := h
      rw [Nat.zero_testBit] at h
      cases h
  · rintro rfl
    exact ⟨0, by omega, by unfold one; rw [if_pos rfl]; exact Nat.testBit_two_pow_self⟩
theorem mtk_at {k : Nat} {v : Nat → Nat} : ∀ n, ∃ σ : Nat → Nat, (∀ j, j < n → σ j < n) ∧ (∀ j j', j < n → j' < n → σ j = σ j' → j = j') ∧ (∀ a, a < n → ∃ j, j < n ∧ σ j = a) ∧ ∀ j, j < n → mtk k v n j = one v (σ j)
  | 0 => ⟨fun _ => 0, fun j hj => absurd hj (Nat.not_lt_zero _), fun j _ hj => absurd hj (Nat.not_lt_zero _), fun j hj => absurd hj (Nat.not_lt_zero _), fun j hj => absurd hj (Nat.not_lt_zero _)⟩
  | n + 1 => by
    obtain ⟨σ, h1, h2, h3, h4⟩ := mtk_at (k := k) (v := v) n
    have hp := pos_le (ky k (one v n)) (kys k (mtk k v n)) n
    generalize hP : pos (ky k (one v n)) (kys k (mtk k v n)) n = P at hp
    refine ⟨fun j => if j < P then σ j else if j = P then n else σ (j - 1), fun j hj => ?_, fun j j' hj hj' he => ?_, fun a ha => ?_, fun j hj => ?_⟩
    · show (if j < P then σ j else if j = P then n else σ (j - 1)) < n + 1
      split
      · have := h1 j (by omega); omega
      · split
        · omega
        · have := h1 (j - 1) (by omega); omega
    · have he : (if j < P then σ j else if j = P then n else σ (j - 1)) = (if j' < P then σ j' else if j' = P then n else σ (j' - 1)) := he
      rcases Nat.lt_trichotomy j P with q | q | q <;> rcases Nat.lt_trichotomy j' P with r | r | r
      · rw [if_pos q, if_pos r] at he
        exact h2 j j' (by omega) (by omega) he
      · rw [if_pos q, if_neg (by omega), if_pos r] at he
        have := h1 j (by omega); omega
      · rw [if_pos q, if_neg (by omega), if_neg (by omega)] at he
        have := h2 j (j' - 1) (by omega) (by omega) he
        omega
      · rw [if_neg (by omega), if_pos q, if_pos r] at he
        have := h1 j' (by omega); omega
      · omega
      · rw [if_neg (by omega), if_pos q, if_neg (by omega), if_neg (by omega)] at he
        have := h1 (j' - 1) (by omega); omega
      · rw [if_neg (by omega), if_neg (by omega), if_pos r] at he
        have := h2 (j - 1) j' (by omega) (by omega) he
        omega
      · rw [if_neg (by omega), if_neg (by omega), if_neg (by omega), if_pos r] at he
        have := h1 (j - 1) (by omega); omega
      · rw [if_neg (by omega), if_neg (by omega), if_neg (by omega), if_neg (by omega)] at he
        have := h2 (j - 1) (j' - 1) (by omega) (by omega) he
        omega
    · by_cases e : a = n
      · exact ⟨P, by omega, by show (if P < P then _ else if P = P then n else _) = a; rw [if_neg (Nat.lt_irrefl _), if_pos rfl, e]⟩
      · obtain ⟨j, hj, ej⟩ := h3 a (by omega)
        by_cases q : j < P
        · exact ⟨j, by omega, by show (if j < P then σ j else _) = a; rw [if_pos q, ej]⟩
        · exact ⟨j + 1, by omega, by show (if j + 1 < P then _ else if j + 1 = P then n else σ (j + 1 - 1)) = a; rw [if_neg (by omega), if_neg (by omega), Nat.add_sub_cancel, ej]⟩
    · show insP k (one v n) (mtk k v n) n j = one v (if j < P then σ j else if j = P then n else σ (j - 1))
      unfold insP
      rw [hP]
      rcases Nat.lt_trichotomy j P with q | q | q
      · rw [putP_lt q, if_pos q, h4 j (by omega)]
      · rw [q, putP_eq, if_neg (Nat.lt_irrefl _), if_pos rfl]
      · rw [putP_gt q, if_neg (by omega), if_neg (by omega), h4 (j - 1) (by omega)]
theorem mtk_s {k : Nat} {v : Nat → Nat} : ∀ n, srt (kys k (mtk k v n)) n
  | 0 => fun j hj => absurd hj (Nat.not_lt_zero _)
  | n + 1 => by
    rw [mtk, kys_ins]
    exact srt_ins (mtk_s n)
theorem mtk_MG {k n : Nat} {v : Nat → Nat} (hk : 2 ≤ k) (hn : n ≤ 10) (hv : ∀ i, i < n → v i ≤ 9999) : MG k n 9999 n (mtk k v n) := by
  obtain ⟨σ, h1, h2, h3, h4⟩ := mtk_at (k := k) (v := v) n
  refine ⟨mtk_s n, fun j hj => ?_, fun i hi => ?_, fun j hj => ?_, fun j j' i hj hj' ha hb => ?_⟩
  · rw [h4 j hj]
    have := h1 j hj
    exact one_IG hk (by omega) (hv _ this)
  · obtain ⟨j, hj, e⟩ := h3 i hi
    exact ⟨j, hj, by rw [h4 j hj, one_hb hk]; exact e.symm⟩
  · exact ⟨σ j, h1 j hj, by rw [h4 j hj, one_hb hk]⟩
  · rw [h4 j hj, one_hb hk] at ha
    rw [h4 j' hj', one_hb hk] at hb
    exact h2 j j' hj hj' (by omega)
theorem mk2_hb {k i : Nat} {f : Pa} : hb k i (mk2 k f) ↔ hb k i f := by
  have e : ∀ p, p < k → (mk2 k f p).2.1 = (isr f k p).2.1 := fun p hp => by
    unfold mk2 nrm
    rw [if_pos hp]
  constructor
  · rintro ⟨p, hp, h⟩
    rw [e p hp] at h
    by_cases q : hb k i f
    · exact q
    · exfalso
      have := isr_all (P := fun x => ¬ x.2.1.testBit i = true) (f := f) (c := k) (fun j hj h => q ⟨j, hj, h⟩) k (Nat.le_refl _) p hp
      exact this h
  · rintro ⟨p, hp, h⟩
    obtain ⟨j, hj, h2⟩ := isr_ex (P := fun x => x.2.1.testBit i = true) (f := f) (c := k) ⟨p, hp, h⟩ k (Nat.le_refl _)
    exact ⟨j, hj, by rw [e j hj]; exact h2⟩
theorem mk2_IG {k B : Nat} {f : Pa} (hk : 2 ≤ k) (h : ∀ p, p < k → (f p).1 ≤ B ∧ (f p).2.1 < 1024 ∧ (f p).2.2 = 0) : IG k B (mk2 k f) := by
  have h2 := isr_all (P := fun x => x.1 ≤ B ∧ x.2.1 < 1024 ∧ x.2.2 = 0) h k (Nat.le_refl _)
  refine ⟨fun p hp => ?_, ?_, fun p hp => ?_⟩
  · unfold mk2 nrm
    rw [if_pos hp]
    have := h2 p hp
    exact ⟨by show (isr f k p).1 - _ ≤ B; omega, this.2.1, rfl⟩
  · unfold mk2 nrm
    rw [if_pos (by omega)]
    show (isr f k (k - 1)).1 - (isr f k (k - 1)).1 = 0
    omega
  · unfold mk2 nrm
    rw [if_neg (by omega)]
theorem rw2_b {k B : Nat} {x y : Pa} (hx : IG k B x) (hy : IG k B y) : ∀ p, p < k → (rw2 k x y p).1 ≤ 2 * B ∧ (rw2 k x y p).2.1 < 1024 ∧ (rw2 k x y p).2.2 = 0 := fun p hp => by
  have a := hx.1 p hp
  have b := hy.1 (k - 1 - p) (by omega)
  exact ⟨by show (x p).1 + (y (k - 1 - p)).1 ≤ 2 * B; omega, or_10 a.2.1 b.2.1, rfl⟩
theorem rw2_hb {k i : Nat} {x y : Pa} : hb k i (rw2 k x y) ↔ hb k i x ∨ hb k i y := by
  constructor
  · rintro ⟨p, hp, h⟩
    have h : ((x p).2.1 ||| (y (k - 1 - p)).2.1).testBit i = true := h
    rw [Nat.testBit_or, Bool.or_eq_true] at h
    rcases h with h | h
    · exact Or.inl ⟨p, hp, h⟩
    · exact Or.inr ⟨k - 1 - p, by omega, h⟩
  · rintro (⟨p, hp, h⟩ | ⟨p, hp, h⟩)
    · refine ⟨p, hp, ?_⟩
      show ((x p).2.1 ||| (y (k - 1 - p)).2.1).testBit i = true
      rw [Nat.testBit_or, h]
      rfl
    · refine ⟨k - 1 - p, by omega, ?_⟩
      show ((x (k - 1 - p)).2.1 ||| (y (k - 1 - (k - 1 - p))).2.1).testBit i = true
      rw [show k - 1 - (k - 1 - p) = p by omega, Nat.testBit_or, h, Bool.or_true]
theorem IG_up {k B C : Nat} {f : Pa} (h : IG k B f) (hb : B ≤ C) : IG k C f := ⟨fun p hp => ⟨Nat.le_trans (h.1 p hp).1 hb, (h.1 p hp).2⟩, h.2⟩
theorem mjn_MG {k n B c : Nat} {g : Li} (hk : 2 ≤ k) (hc : 2 ≤ c) (h : MG k n B c g) : MG k n (2 * B) (c - 1) (mjn k g c) := by
  obtain ⟨h1, h2, h3, h4, h5⟩ := h
  have hx : ∀ i, hb k i (mk2 k (rw2 k (g 0) (g 1))) ↔ hb k i (g 0) ∨ hb k i (g 1) := fun i => mk2_hb.trans rw2_hb
  have e1 : c - 2 + 1 = c - 1 := by omega
  -- where each of the new list comes from
  have src : ∀ j, j < c - 1 → ∃ S : Nat → Prop, (∀ a, S a → a < c) ∧ (∀ i, hb k i (mjn k g c j) ↔ ∃ a, S a ∧ hb k i (g a)) ∧ ((j = pos (ky k (mk2 k (rw2 k (g 0) (g 1)))) (kys k (fun j => g (j + 2))) (c - 2) ∧ ∀ a, S a ↔ a < 2) ∨ (j < pos (ky k (mk2 k (rw2 k (g 0) (g 1)))) (kys k (fun j => g (j + 2))) (c - 2) ∧ ∀ a, S a ↔ a = j + 2) ∨ (pos (ky k (mk2 k (rw2 k (g 0) (g 1)))) (kys k (fun j => g (j + 2))) (c - 2) < j ∧ ∀ a, S a ↔ a = j + 1)) := by
    intro j hj
    unfold mjn insP
    rcases Nat.lt_trichotomy j (pos (ky k (mk2 k (rw2 k (g 0) (g 1)))) (kys k (fun j => g (j + 2))) (c - 2)) with q | q | q
    · refine ⟨fun a => a = j + 2, fun a ha => ?_, fun i => ?_, Or.inr (Or.inl ⟨q, fun a => Iff.rfl⟩)⟩
      · have := pos_le (ky k (mk2 k (rw2 k (g 0) (g 1)))) (kys k (fun j => g (j + 2))) (c - 2)
        omega
      · rw [putP_lt q]
        exact ⟨fun z => ⟨j + 2, rfl, z⟩, fun ⟨a, ha, z⟩ => by rw [ha] at z; exact z⟩
    · refine ⟨fun a => a < 2, fun a ha => by omega, fun i => ?_, Or.inl ⟨q, fun a => Iff.rfl⟩⟩
      rw [q, putP_eq, hx]
      constructor
      · rintro (z | z)
        · exact ⟨0, by omega, z⟩
        · exact ⟨1, by omega, z⟩
      · rintro ⟨a, ha, z⟩
        have : a = 0 ∨ a = 1 := by omega
        rcases this with rfl | rfl
        · exact Or.inl z
        · exact Or.inr z
    · refine ⟨fun a => a = j + 1, fun a ha => by omega, fun i => ?_, Or.inr (Or.inr ⟨q, fun a => Iff.rfl⟩)⟩
      rw [putP_gt q]
      show hb k i (g (j - 1 + 2)) ↔ _
      rw [show j - 1 + 2 = j + 1 by omega]
      exact ⟨fun z => ⟨j + 1, rfl, z⟩, fun ⟨a, ha, z⟩ => by rw [ha] at z; exact z⟩
  refine ⟨?_, ?_, fun i hi => ?_, fun j hj => ?_, fun j j' i hj hj' ha hb' => ?_⟩
  · unfold mjn
    rw [kys_ins]
    have : srt (kys k (fun j => g (j + 2))) (c - 2) := fun j hj => h1 (j + 2) (by omega)
    have := srt_ins (x := ky k (mk2 k (rw2 k (g 0) (g 1)))) this
    rw [e1] at this
    exact this
  · intro j hj
    unfold mjn
    refine insP_all (P := IG k (2 * B)) (c := c - 2) (mk2_IG hk (rw2_b (h2 0 (by omega)) (h2 1 (by omega)))) (fun a ha => IG_up (h2 (a + 2) (by omega)) (by omega)) j (by omega)
  · obtain ⟨j, hj, z⟩ := h3 i hi
    have : ∃ j, j < c - 2 + 1 ∧ hb k i (insP k (mk2 k (rw2 k (g 0) (g 1))) (fun j => g (j + 2)) (c - 2) j) := by
      refine insP_ex (P := hb k i) ?_
      by_cases q : j < 2
      · left
        rw [hx]
        have : j = 0 ∨ j = 1 := by omega
        rcases this with rfl | rfl
        · exact Or.inl z
        · exact Or.inr z
      · exact Or.inr ⟨j - 2, by omega, by show hb k i (g (j - 2 + 2)); rw [show j - 2 + 2 = j by omega]; exact z⟩
    rw [e1] at this
    exact this
  · obtain ⟨S, s1, s2, s3⟩ := src j hj
    have : ∃ a, S a := by
      rcases s3 with ⟨-, s⟩ | ⟨-, s⟩ | ⟨-, s⟩
      · exact ⟨0, (s 0).mpr (by omega)⟩
      · exact ⟨j + 2, (s _).mpr rfl⟩
      · exact ⟨j + 1, (s _).mpr rfl⟩
    obtain ⟨a, ha⟩ := this
    obtain ⟨i, hi, z⟩ := h4 a (s1 a ha)
    exact ⟨i, hi, (s2 i).mpr ⟨a, ha, z⟩⟩
  · obtain ⟨S, s1, s2, s3⟩ := src j hj
    obtain ⟨T, t1, t2, t3⟩ := src j' hj'
    obtain ⟨a, a1, a2⟩ := (s2 i).mp ha
    obtain ⟨b, b1, b2⟩ := (t2 i).mp hb'
    have e := h5 a b i (s1 a a1) (t1 b b1) a2 b2
    subst e
    rcases s3 with ⟨u, s⟩ | ⟨u, s⟩ | ⟨u, s⟩ <;> rcases t3 with ⟨x, t⟩ | ⟨x, t⟩ | ⟨x, t⟩ <;> have p1 := (s a).mp a1 <;> have p2 := (t a).mp b1 <;> omega
theorem ml_MG {k n : Nat} {v : Nat → Nat} (hk : 2 ≤ k) (hn : n ≤ 10) (hv : ∀ i, i < n → v i ≤ 9999) : ∀ m, m < n → MG k n (9999 * 2 ^ m) (n - m) (ml k v n m)
  | 0, _ => by
    rw [Nat.pow_zero, Nat.mul_one]
    exact mtk_MG hk hn hv
  | m + 1, h => by
    have := mjn_MG hk (by omega) (ml_MG hk hn hv m (by omega))
    rw [show n - m - 1 = n - (m + 1) by omega, show 2 * (9999 * 2 ^ m) = 9999 * 2 ^ (m + 1) by rw [Nat.pow_succ]; omega] at this
    exact this
theorem one_0 {i : Nat} {v : Nat → Nat} : one v i 0 = (v i, 2 ^ i, 0) := rfl
theorem one_s {i p : Nat} {v : Nat → Nat} (h : p ≠ 0) : one v i p = (0, 0, 0) := if_neg h
theorem one_srt {k i : Nat} {v : Nat → Nat} (hv : 1 ≤ v i) : srt (one v i) k := fun j hj => by
  rw [one_s (show j + 1 ≠ 0 by omega)]
  by_cases e : j = 0
  · rw [e, one_0]
    unfold ahead
    rw [decide_eq_false (show ¬ (v i, 2 ^ i, 0).1 < (0, 0, 0).1 from Nat.not_lt_zero _), decide_eq_false (show ¬ (0, 0, 0).1 = (v i, 2 ^ i, 0).1 from fun z => by have z : 0 = v i := z; omega)]
    rfl
  · rw [one_s e]
    unfold ahead
    rw [decide_eq_false (Nat.lt_irrefl _), decide_eq_false (Nat.lt_irrefl _)]
    rfl
/-- the first of a list goes ahead of all others -/
theorem ahead_nn {x y z : It} (h1 : ahead y x = false) (h2 : ahead z y = false) : ahead z x = false := by
  unfold ahead at h1 h2 ⊢
  simp only [Bool.or_eq_false_iff, Bool.and_eq_false_iff, decide_eq_false_iff_not] at h1 h2 ⊢
  omega
theorem srt_all {f : Pa} {c : Nat} (h : srt f c) : ∀ (n j : Nat), j + n + 1 < c → ahead (f (j + n + 1)) (f j) = false
  | 0, j, hj => h j hj
  | n + 1, j, hj => ahead_nn (srt_all h n j (by omega)) (h (j + n + 1) hj)
theorem lwA_ok (x : Nat) : ∀ f j, (lwA x f j < j + f ∧ x.testBit (lwA x f j) = true) ∨ (lwA x f j = j + f ∧ ∀ i, j ≤ i → i < j + f → x.testBit i = false)
  | 0, j => Or.inr ⟨rfl, fun i h1 h2 => by omega⟩
  | f + 1, j => by
    rw [lwA]
    by_cases q : x.testBit j = true
    · rw [if_pos q]
      exact Or.inl ⟨by omega, q⟩
    · rw [if_neg q]
      rcases lwA_ok x f (j + 1) with ⟨h1, h2⟩ | ⟨h1, h2⟩
      · exact Or.inl ⟨by omega, h2⟩
      · refine Or.inr ⟨by omega, fun i i1 i2 => ?_⟩
        by_cases e : i = j
        · rw [e]; simpa using q
        · exact h2 i (by omega) (by omega)
theorem lw_bit {x i : Nat} (hi : i < 10) (h : x.testBit i = true) : x.testBit (lw x) = true := by
  rcases lwA_ok x 10 0 with ⟨h1, h2⟩ | ⟨h1, h2⟩
  · exact h2
  · rw [h2 i (by omega) (by omega)] at h
    cases h
theorem MG.first {k n B c j j' : Nat} {g : Li} (h : MG k n B c g) (hn : n ≤ 10) (hj : j < j') (hj' : j' < c) : ahead (ky k (g j)) (ky k (g j')) = true := by
  obtain ⟨h1, h2, h3, h4, h5⟩ := h
  have na := srt_all h1 (j' - j - 1) j (by omega)
  rw [show j + (j' - j - 1) + 1 = j' by omega] at na
  have na : ahead (ky k (g j')) (ky k (g j)) = false := na
  have ne : lw (al (g j) k) ≠ lw (al (g j') k) := by
    intro e
    obtain ⟨i, hi, z⟩ := h4 j (by omega)
    obtain ⟨i', hi', z'⟩ := h4 j' hj'
    have b1 := lw_bit (by omega) (hb_al.mpr z)
    have b2 := lw_bit (by omega) (hb_al.mpr z')
    rw [e] at b1
    have := h5 j j' _ (by omega) hj' (hb_al.mp b1) (hb_al.mp b2)
    omega
  unfold ahead at na ⊢
  unfold ky at na ⊢
  simp only [Nat.or_zero] at na ⊢
  simp only [Bool.or_eq_false_iff, Bool.and_eq_false_iff, decide_eq_false_iff_not, Bool.or_eq_true, Bool.and_eq_true, decide_eq_true_eq] at na ⊢
  omega
/-- in which heap a number lies -/
def hpA (f : Pa) (i : Nat) : Nat → Nat → Nat
  | 0, p => p
  | n + 1, p => if (f p).2.1.testBit i then p else hpA f i n (p + 1)
def hp (k : Nat) (f : Pa) (i : Nat) : Nat := hpA f i k 0
theorem hpA_ok {f : Pa} {i : Nat} : ∀ n p, (∃ q, p ≤ q ∧ q < p + n ∧ (f q).2.1.testBit i = true) → (hpA f i n p < p + n ∧ p ≤ hpA f i n p ∧ (f (hpA f i n p)).2.1.testBit i = true ∧ ∀ q, p ≤ q → q < hpA f i n p → (f q).2.1.testBit i = false)
  | 0, p, ⟨q, h1, h2, _⟩ => by omega
  | n + 1, p, ⟨q, h1, h2, h3⟩ => by
    rw [hpA]
    by_cases e : (f p).2.1.testBit i = true
    · rw [if_pos e]
      exact ⟨by omega, Nat.le_refl _, e, fun q q1 q2 => by omega⟩
    · rw [if_neg e]
      have ne : q ≠ p := fun z => e (z ▸ h3)
      obtain ⟨a1, a2, a3, a4⟩ := hpA_ok n (p + 1) ⟨q, by omega, by omega, h3⟩
      refine ⟨by omega, by omega, a3, fun q q1 q2 => ?_⟩
      by_cases z : q = p
      · rw [z]; simpa using e
      · exact a4 q (by omega) q2
theorem hp_ok {k i : Nat} {f : Pa} (h : hb k i f) : hp k f i < k ∧ (f (hp k f i)).2.1.testBit i = true ∧ ∀ q, q < hp k f i → (f q).2.1.testBit i = false := by
  obtain ⟨q, hq, z⟩ := h
  obtain ⟨a1, a2, a3, a4⟩ := hpA_ok (f := f) (i := i) k 0 ⟨q, by omega, by omega, z⟩
  exact ⟨by unfold hp; omega, a3, fun q hq => a4 q (by omega) hq⟩
