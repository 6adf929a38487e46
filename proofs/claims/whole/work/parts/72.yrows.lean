/-! THE REFERENCE: all rows. -/
def fp (ρ : Nat → Nat) (i h : Nat) (q : Nat × Nat) : Bool := (q.1 == i && (decide (q.2 < i) && (ρ q.2 == h))) || (q.2 == i && (decide (q.1 < i) && (ρ q.1 == h)))
theorem fp_foe {s : Sn} {ρ : Nat → Nat} {i h p : Nat} (hp : p < s.2.2.2.2.length) (q : fp ρ i h (s.2.2.2.2.getD p (0, 0)) = true) : foe s ρ i h = true := by
  unfold fp at q
  generalize hx : s.2.2.2.2.getD p (0, 0) = x at q
  simp only [Bool.or_eq_true, Bool.and_eq_true, beq_iff_eq, decide_eq_true_eq] at q
  rcases q with ⟨q1, q2, q3⟩ | ⟨q1, q2, q3⟩
  · refine (exB_iff _).mpr ⟨x.2, q2, ?_⟩
    show (apb s.2.2.2.2 i x.2 && (ρ x.2 == h)) = true
    rw [apb_ex hp (by rw [hx]; unfold mt; simp [q1]), q3, beq_self_eq_true]
    rfl
  · refine (exB_iff _).mpr ⟨x.1, q2, ?_⟩
    show (apb s.2.2.2.2 i x.1 && (ρ x.1 == h)) = true
    rw [apb_ex hp (by rw [hx]; unfold mt; simp [q1]), q3, beq_self_eq_true]
    rfl
theorem fp_no {s : Sn} {ρ : Nat → Nat} {i h : Nat} (q : ∀ p, p < s.2.2.2.2.length → fp ρ i h (s.2.2.2.2.getD p (0, 0)) = false) : foe s ρ i h = false := by
  cases z : foe s ρ i h with
  | false => rfl
  | true =>
    obtain ⟨j, hj, y⟩ := (exB_iff _).mp z
    have y : (apb s.2.2.2.2 i j && (ρ j == h)) = true := y
    rw [Bool.and_eq_true, beq_iff_eq] at y
    have no : apb s.2.2.2.2 i j = false := apb_no (fun p hp => by
      have := q p hp
      unfold fp at this
      unfold mt
      generalize s.2.2.2.2.getD p (0, 0) = x at this ⊢
      cases e : (x.1 == i && x.2 == j || x.1 == j && x.2 == i) with
      | false => rfl
      | true =>
        exfalso
        simp only [Bool.or_eq_true, Bool.and_eq_true, beq_iff_eq] at e
        have t : (x.1 == i && (decide (x.2 < i) && (ρ x.2 == h)) || x.2 == i && (decide (x.1 < i) && (ρ x.1 == h))) = true := by
          simp only [Bool.or_eq_true, Bool.and_eq_true, beq_iff_eq, decide_eq_true_eq]
          rcases e with ⟨e1, e2⟩ | ⟨e1, e2⟩
          · left
            rw [e2]
            exact ⟨e1, hj, y.2⟩
          · right
            rw [e1]
            exact ⟨e2, hj, y.2⟩
        rw [t] at this
        cases this)
    rw [no] at y
    cases y.1
theorem MS.pr {iv : zI} {s : Sn} (ms : MS iv 176 0 s) {p : Nat} (hp : p < s.2.2.2.2.length) : iv 176 (23 + 2 * p) = nI (s.2.2.2.2.getD p (0, 0)).1 ∧ iv 176 (23 + 2 * p + 1) = nI (s.2.2.2.2.getD p (0, 0)).2 := by
  have := ms.2.2.2.2.2 p hp
  rw [Nat.zero_add, Nat.zero_add, show 24 + 2 * p = 23 + 2 * p + 1 by omega] at this
  exact this
theorem y_mayLie {d i h : Nat} {s : Sn} {ρ : Nat → Nat} {iv : zI} {rv : zR} {lv : zJ} (hT : zTop rv) (ms : MS iv 176 0 s) (vs : VS s) (hi : i < s.1) (hh : h < 4) (hr : ∀ j, j < i → iv 181 j = nI (ρ j) ∧ ρ j < 4) : Ci mX11_mayLie d [.ref 174, .int (nI i), .int (nI h)] iv rv lv (zP (bI (okR s ρ i h)) iv rv lv) := by
  have vn := vs.1
  have kb : kp s i ≤ 4 := vs.2.2.2.1 i hi
  have pl := vs.2.2.2.2.2
  have k1 : iv 176 (12 + i) = nI (kp s i) := by
    have := ms.2.2.2.1 i hi
    rw [Nat.zero_add] at this
    exact this
  have n22 : iv 176 22 = nI s.2.2.2.2.length := ms.2.2.2.2.1
  refine eX11_mayLie _ _ (bX11_mayLie_0 _ _ hT ?_)
  have go : (kp s i = 0 ∨ kp s i = h + 1) → Zi mX11_mayLie d 31 [some (.ref 174), some (.int (nI i)), some (.int (nI h)), some (.int (nI 0)), none, none] [] iv rv lv (zP (bI (okR s ρ i h)) iv rv lv) := by
    intro q
    have e1 : okR s ρ i h = !foe s ρ i h := by
      unfold okR
      have : (kp s i == 0 || kp s i == h + 1) = true := by
        rw [Bool.or_eq_true, beq_iff_eq, beq_iff_eq]
        exact q
      rw [this, Bool.true_and]
    rw [e1]
    have key := zfor (c := s.2.2.2.2.length) (P := fun p => (∀ x, x < p → fp ρ i h (s.2.2.2.2.getD x (0, 0)) = false) → Zi mX11_mayLie d 31 [some (.ref 174), some (.int (nI i)), some (.int (nI h)), some (.int (nI p)), none, none] [] iv rv lv (zP (bI (!foe s ρ i h)) iv rv lv)) ?_ ?_
    · exact key 0 (Nat.zero_le _) (fun x hx => absurd hx (Nat.not_lt_zero _))
    · intro hx
      refine bX11_mayLie_31 _ _ _ hT ⟨fun _ => zP.mk ?_, fun z => absurd (by rw [n22]; exact nI_le (by omega) (by omega)) z⟩
      rw [fp_no hx]
      rfl
    · intro p hp ih hx
      obtain ⟨a1, a2⟩ := ms.pr hp
      have lt : (s.2.2.2.2.getD p (0, 0)).1 < s.1 ∧ (s.2.2.2.2.getD p (0, 0)).2 < s.1 := by
        have := apb_lt vs.2.2.2.2.1 (apb_ex (i := (s.2.2.2.2.getD p (0, 0)).1) (j := (s.2.2.2.2.getD p (0, 0)).2) hp (by unfold mt; simp))
        exact ⟨this.1, this.2.1⟩
      have nxt : fp ρ i h (s.2.2.2.2.getD p (0, 0)) = false → Zi mX11_mayLie d 31 [some (.ref 174), some (.int (nI i)), some (.int (nI h)), some (.int (nI (p + 1))), none, none] [] iv rv lv (zP (bI (!foe s ρ i h)) iv rv lv) := fun y => ih (fun x hx2 => by
        by_cases e : x = p
        · rw [e]; exact y
        · exact hx x (by omega))
      have bad : fp ρ i h (s.2.2.2.2.getD p (0, 0)) = true → zP (bI (!foe s ρ i h)) iv rv lv 0 iv rv lv := fun y => zP.mk (by rw [fp_foe hp y]; rfl)
      refine bX11_mayLie_31 _ _ _ hT ⟨fun z => absurd z (by rw [n22]; exact nI_ge hp (by omega)), fun _ => ?_⟩
      rw [z_23, z_2, pk_mul, nI_add, nI_1, nI_clamp (show 23 + 2 * p < 2 ^ 31 by omega), nI_clamp (show 23 + 2 * p + 1 < 2 ^ 31 by omega), a1, a2]
      unfold fp at nxt bad
      generalize s.2.2.2.2.getD p (0, 0) = x at lt nxt bad ⊢
      rw [nI_eq (show x.1 < 2 ^ 31 by omega) (show i < 2 ^ 31 by omega), nI_leI (show i < 2 ^ 31 by omega) (show x.2 < 2 ^ 31 by omega), nI_clamp (show x.2 < 2 ^ 31 by omega)]
      have second : (x.1 == i && (decide (x.2 < i) && (ρ x.2 == h))) = false → Zi mX11_mayLie d 93 [some (.ref 174), some (.int (nI i)), some (.int (nI h)), some (.int (nI p)), some (.int (nI x.1)), some (.int (nI x.2))] [] iv rv lv (zP (bI (!foe s ρ i h)) iv rv lv) := by
        intro f1
        rw [f1, Bool.false_or] at nxt bad
        refine bX11_mayLie_93 _ _ _ _ _ hT ?_
        rw [nI_eq (show x.2 < 2 ^ 31 by omega) (show i < 2 ^ 31 by omega), nI_leI (show i < 2 ^ 31 by omega) (show x.1 < 2 ^ 31 by omega), nI_clamp (show x.1 < 2 ^ 31 by omega), nI_1]
        refine ⟨fun y => nxt (by rw [beq_eq_false_iff_ne.mpr y]; rfl), fun y => ⟨fun y2 => nxt (by rw [decide_eq_false (by omega), Bool.false_and, Bool.and_false]), fun y2 => ?_⟩⟩
        obtain ⟨r1, r2⟩ := hr x.1 (by omega)
        rw [r1, nI_eq (by omega) (by omega)]
        refine ⟨vp_in_nI (by omega) (by decide), fun y3 => nxt (by rw [beq_eq_false_iff_ne.mpr y3, Bool.and_false, Bool.and_false]), fun y3 => bad (by rw [beq_iff_eq.mpr y, decide_eq_true (by omega), beq_iff_eq.mpr y3]; rfl)⟩
      refine ⟨vp_in_nI (by omega) (by decide), vp_in_nI (by omega) (by decide), fun y => second (by rw [beq_eq_false_iff_ne.mpr y]; rfl), fun y => ⟨fun y2 => second (by rw [decide_eq_false (by omega), Bool.false_and, Bool.and_false]), fun y2 => ?_⟩⟩
      obtain ⟨r1, r2⟩ := hr x.2 (by omega)
      rw [r1, nI_eq (by omega) (by omega)]
      refine ⟨vp_in_nI (by omega) (by decide), fun y3 => bad (by rw [beq_iff_eq.mpr y, decide_eq_true (by omega), beq_iff_eq.mpr y3]; rfl), fun y3 => second (by rw [beq_eq_false_iff_ne.mpr y3, Bool.and_false, Bool.and_false])⟩
  rw [z_12, nI_add, nI_clamp (by omega), k1, z_0, nI_leI (by omega) (by omega)]
  refine ⟨vp_in_nI (by omega) (by decide), fun q => go (Or.inl (by omega)), fun q => ?_⟩
  rw [z_1, pk_sub (by omega), nI_eq (by omega) (by omega)]
  refine ⟨fun q2 => go (Or.inr (by omega)), fun q2 => zP.mk ?_⟩
  unfold okR
  rw [beq_eq_false_iff_ne.mpr (show kp s i ≠ 0 by omega), beq_eq_false_iff_ne.mpr (show kp s i ≠ h + 1 by omega)]
  rfl
def MA (w : zI) (n N : Nat) (a : Ac) : Prop := w 174 44 = nI N ∧ (N = 0 → a.1 = 1000000 ∧ a.2.1 = 0 ∧ a.2.2.1 = 1000000) ∧ (0 < N → a.1 < 1000000 ∧ w 174 45 = nI a.1 ∧ w 174 46 = nI a.2.1 ∧ w 174 47 = nI a.2.2.1 ∧ a.2.2.1 ≤ 1000000 ∧ ∀ j, j < n → w 183 j = nI (a.2.2.2 j))
def FY (iv a : zI) : Prop := (∀ p, p < 174 ∨ (174 < p ∧ p < 181) ∨ 183 < p → a p = iv p) ∧ ∀ b, b < 44 ∨ 47 < b → a 174 b = iv 174 b
theorem FY.refl {iv : zI} : FY iv iv := ⟨fun _ _ => rfl, fun _ _ => rfl⟩
theorem FY.trans {iv a b : zI} (h : FY iv a) (g : FY a b) : FY iv b := ⟨fun p hp => by rw [g.1 p hp]; exact h.1 p hp, fun q hq => by rw [g.2 q hq]; exact h.2 q hq⟩
theorem FY.fn {iv a : zI} (h : FY iv a) : FN iv a := ⟨fun p hp => h.1 p (by omega), fun b hb => h.2 b (by omega)⟩
theorem FY.ms {iv a : zI} {s : Sn} (h : FY iv a) (ms : MS iv 176 0 s) : MS a 176 0 s := by
  unfold MS
  rw [h.1 176 (by omega)]
  exact ms
def g0 (A : Ac) : Prop := A.1 = 0 ∨ (A.1 = 1000000 ∧ A.2.1 = 0)
theorem g0_cb {A B : Ac} (ha : g0 A) (hb : g0 B) : g0 (cb A B) ∧ (cb A B).2.1 = A.2.1 + B.2.1 := by
  obtain ⟨a1, a2, a3, a4⟩ := A
  obtain ⟨b1, b2, b3, b4⟩ := B
  have ha : a1 = 0 ∨ (a1 = 1000000 ∧ a2 = 0) := ha
  have hb : b1 = 0 ∨ (b1 = 1000000 ∧ b2 = 0) := hb
  show (min a1 b1 = 0 ∨ (min a1 b1 = 1000000 ∧ (if a1 ≤ b1 then a2 else 0) + (if b1 ≤ a1 then b2 else 0) = 0)) ∧ (if a1 ≤ b1 then a2 else 0) + (if b1 ≤ a1 then b2 else 0) = a2 + b2
  repeat' split
  all_goals omega
theorem g0_fdq {okc : Nat → Bool} {C : Nat → Ac} (h : ∀ x, g0 (C x)) : ∀ m, g0 (fdq okc C m)
  | 0 => Or.inr ⟨rfl, rfl⟩
  | m + 1 => by
    rw [fdq]
    split
    · exact (g0_cb (g0_fdq h m) (h m)).1
    · exact g0_fdq h m
theorem g0_tq {s : Sn} {k : Nat} : ∀ (r : Nat) (ρ : Nat → Nat), g0 (tq s k true r ρ)
  | 0, ρ => Or.inl rfl
  | r + 1, ρ => g0_fdq (fun x => g0_tq r _) k
def GP (w : zI) (s : Sn) (k i : Nat) (ρ : Nat → Nat) : Prop := (∀ j, j < i → w 181 j = nI (ρ j) ∧ ρ j < k) ∧ ∀ h, h < 4 → w 182 h = nI (hsum i s.2.2.1 ρ h)
