/-! THE CLASS: all rows. -/
def nmd (s : Sn) (h : Nat) : Bool := exB (fun i => kp s i == h + 1) s.1
def nlh (s : Sn) (ρ : Nat → Nat) (i h : Nat) : Bool := !exB (fun j => ρ j == h) i && !nmd s h
def PW (w : zI) (o : Nat) (s : Sn) (k : Nat) (cm : Bool) (i : Nat) (ρ : Nat → Nat) : Prop :=
  (w o 4 = nI k ∧ (∃ N, w o 8 = nI N ∧ N < 16 ∧ ∀ h, h < 4 → N.testBit h = nmd s h) ∧ w o 9 = nI (sm s.2.2.1 s.1) ∧ w o 10 = bI cm) ∧ (∀ h, h < 4 → w (o + 3) h = nI (hsum i s.2.2.1 ρ h) ∧ w (o + 4) h = nI (mk (fun j => ρ j == h) i)) ∧ (cm = false → ∀ j, j < i → w (o + 2) j = nI (ρ j) ∧ ρ j < k)
def AC (w : zI) (o n : Nat) (cm : Bool) (a : Ac) : Prop := (a.1 ≤ 1000000 ∧ a.2.2.1 ≤ 1000000) ∧ (cm = false → w o 0 = nI a.1 ∧ w o 1 = nI a.2.1 ∧ w o 2 = nI a.2.2.1 ∧ (a.1 < 1000000 → ∀ j, j < n → w (o + 1) j = nI (a.2.2.2 j))) ∧ (cm = true → w o 11 = nI a.2.1 ∧ (a.1 = 0 ∨ a.2.1 = 0))
def FO (w a : zI) (o : Nat) (cm : Bool) : Prop := (∀ p, p < o ∨ o + 4 < p → a p = w p) ∧ (∀ b, b ≠ 0 → b ≠ 1 → b ≠ 2 → b ≠ 11 → a o b = w o b) ∧ (cm = true → a (o + 1) = w (o + 1) ∧ ∀ b, b ≠ 11 → a o b = w o b)
theorem FO.refl {w : zI} {o : Nat} {cm : Bool} : FO w w o cm := ⟨fun _ _ => rfl, fun _ _ _ _ _ => rfl, fun _ => ⟨rfl, fun _ _ => rfl⟩⟩
theorem FO.trans {w a b : zI} {o : Nat} {cm : Bool} (h : FO w a o cm) (g : FO a b o cm) : FO w b o cm := ⟨fun p hp => by rw [g.1 p hp]; exact h.1 p hp, fun q a1 a2 a3 a4 => by rw [g.2.1 q a1 a2 a3 a4]; exact h.2.1 q a1 a2 a3 a4, fun z => ⟨by rw [(g.2.2 z).1]; exact (h.2.2 z).1, fun q hq => by rw [(g.2.2 z).2 q hq]; exact (h.2.2 z).2 q hq⟩⟩
/-- only the rows and heaps change -/
theorem FO.rows {w a : zI} {o : Nat} {cm : Bool} (h : ∀ p, p ≠ o + 2 → p ≠ o + 3 → p ≠ o + 4 → a p = w p) : FO w a o cm := ⟨fun p hp => h p (by omega) (by omega) (by omega), fun b _ _ _ _ => by rw [h o (by omega) (by omega) (by omega)], fun _ => ⟨h (o + 1) (by omega) (by omega) (by omega), fun b _ => by rw [h o (by omega) (by omega) (by omega)]⟩⟩
theorem AC.fr {w w' : zI} {o n : Nat} {cm : Bool} {a : Ac} (h : AC w o n cm a) (h1 : w' o = w o) (h2 : w' (o + 1) = w (o + 1)) : AC w' o n cm a := by
  unfold AC
  rw [h1, h2]
  exact h
theorem AC.cg {w : zI} {o n : Nat} {a b : Ac} (h : AC w o n true a) (e : p3 a = p3 b) : AC w o n true b := by
  have e1 : a.1 = b.1 := congrArg (fun t => t.1) e
  have e2 : a.2.1 = b.2.1 := congrArg (fun t => t.2.1) e
  have e3 : a.2.2.1 = b.2.2.1 := congrArg (fun t => t.2.2) e
  refine ⟨⟨by rw [← e1]; exact h.1.1, by rw [← e3]; exact h.1.2⟩, fun z => (by cases z), fun z => ?_⟩
  rw [← e1, ← e2]
  exact h.2.2 z
theorem mk_0 {p : Nat → Bool} {n : Nat} : mk p n = 0 ↔ exB p n = false := by
  constructor
  · intro h
    cases q : exB p n with
    | false => rfl
    | true =>
      obtain ⟨j, hj, z⟩ := (exB_iff n).mp q
      have := mk_bit p j n
      rw [h, Nat.zero_testBit, z, decide_eq_true hj] at this
      cases this
  · intro h
    refine Nat.eq_of_testBit_eq (fun j => ?_)
    rw [mk_bit, Nat.zero_testBit]
    by_cases hj : j < n
    · cases z : p j with
      | false => rw [Bool.and_false]
      | true =>
        rw [(exB_iff n).mpr ⟨j, hj, z⟩] at h
        cases h
    · rw [decide_eq_false hj, Bool.false_and]
theorem mk_s (p : Nat → Bool) (n : Nat) : mk p (n + 1) = mk p n ||| wt (p n) (2 ^ n) := by
  refine (mk_of (fun j => ?_)).symm
  rw [Nat.testBit_or, mk_bit]
  cases q : p n with
  | false =>
    show ((decide (j < n) && p j) || (0 : Nat).testBit j) = _
    rw [Nat.zero_testBit, Bool.or_false]
    by_cases e : j = n
    · rw [e, q, Bool.and_false, Bool.and_false]
    · congr 1
      exact decide_eq_decide.mpr (by omega)
  | true =>
    show ((decide (j < n) && p j) || (2 ^ n).testBit j) = _
    rw [Nat.testBit_two_pow]
    by_cases e : j = n
    · rw [e, q, decide_eq_true rfl, decide_eq_true (Nat.lt_succ_self n), Bool.or_true]
      rfl
    · rw [decide_eq_false (show ¬ n = j from fun z => e z.symm), Bool.or_false]
      congr 1
      exact decide_eq_decide.mpr (by omega)
theorem bI_bit0 {n k : Nat} (hk : k < 16) (h : n < 2 ^ 31) : ((nI n >>> (nI k &&& 31)) &&& 1 = 0) ↔ n.testBit k = false := by
  have b := bI_bit hk h
  rw [bI_shr hk h, z_1, bI_and, Nat.and_one_is_mod] at b ⊢
  have lt : n / 2 ^ k % 2 < 2 := Nat.mod_lt _ (by omega)
  generalize n / 2 ^ k % 2 = m at b lt ⊢
  rw [nI_eq (by omega) (by omega)] at b
  rw [z_0, nI_eq (by omega) (by omega)]
  cases q : n.testBit k with
  | true =>
    rw [q] at b
    have := b.mpr rfl
    exact ⟨fun z => by omega, fun z => by cases z⟩
  | false =>
    rw [q] at b
    refine ⟨fun _ => rfl, fun _ => ?_⟩
    have : ¬ m = 1 := fun z => by
      have := b.mp z
      cases this
    omega
theorem x_isNameless {d o i h k : Nat} {s : Sn} {cm : Bool} {ρ : Nat → Nat} {iv : zI} {rv : zR} {lv : zJ} (hT : zTop rv) (ho : o ∈ zPts) (hi : i ≤ 10) (hh : h < 4) (hP : PW iv o s k cm i ρ) : Ci mX5_isNameless d [.ref o, .int (nI h)] iv rv lv (zP (bI (nlh s ρ i h)) iv rv lv) := by
  obtain ⟨⟨p1, ⟨N, n1, n2, n3⟩, p3, p4⟩, p5, p6⟩ := hP
  refine eX5_isNameless o _ (bX5_isNameless_0 o _ hT ho ?_)
  have lt := mk_lt10 (p := fun j => ρ j == h) hi
  rw [nI_clamp (by omega), (p5 h hh).2, n1, z_0, nI_eq (by omega) (by omega), mk_0]
  refine ⟨vp_in_nI hh (by decide), fun q => zP.mk ?_, fun q => ⟨fun q2 => zP.mk ?_, fun q2 => zP.mk ?_⟩⟩
  · unfold nlh
    cases e : exB (fun j => ρ j == h) i with
    | false => exact absurd e q
    | true => rfl
  · unfold nlh
    rw [q, ← n3 h hh]
    cases e : N.testBit h with
    | true => rfl
    | false =>
      exfalso
      exact q2 ((bI_bit0 (by omega) (by omega)).mpr e)
  · unfold nlh
    rw [q, ← n3 h hh]
    cases e : N.testBit h with
    | false => rfl
    | true =>
      exfalso
      have b := (bI_bit (n := N) (k := h) (by omega) (by omega)).mpr e
      rw [b] at q2
      exact absurd q2 (by decide)
theorem x_namelessHeaps {d o i k : Nat} {s : Sn} {cm : Bool} {ρ : Nat → Nat} {iv : zI} {rv : zR} {lv : zJ} (hT : zTop rv) (ho : o ∈ zPts) (hi : i ≤ 10) (hk : k ≤ 4) (hP : PW iv o s k cm i ρ) : Ci mX5_namelessHeaps (d + 1) [.ref o] iv rv lv (zP (nI (lk (nlh s ρ i) k)) iv rv lv) := by
  have p1 := hP.1.1
  refine eX5_namelessHeaps o (bX5_namelessHeaps_0 o hT ho ?_)
  have key := zfor (c := k) (P := fun h => Zi mX5_namelessHeaps (d + 1) 4 [some (.ref o), some (.int (nI (lk (nlh s ρ i) h))), some (.int (nI h))] [] iv rv lv (zP (nI (lk (nlh s ρ i) k)) iv rv lv)) ?_ ?_
  · exact key 0 (by omega)
  · exact bX5_namelessHeaps_4 o _ _ hT ho ⟨fun _ => zP.mk rfl, fun z => absurd (by rw [p1]; exact nI_le (by omega) (by omega)) z⟩
  · intro h hh ih
    refine bX5_namelessHeaps_4 o _ _ hT ho ⟨fun z => absurd z (by rw [p1]; exact nI_ge hh (by omega)), fun _ => zcall (x_isNameless hT ho hi (by omega) hP) hT ?_⟩
    rw [lk_s] at ih
    rw [nI_1, nI_1]
    cases q : nlh s ρ i h with
    | false =>
      rw [q] at ih
      refine ⟨fun _ => ?_, fun z => absurd rfl z⟩
      rw [z_0, nI_add]
      exact ih
    | true =>
      rw [q] at ih
      exact ⟨fun z => absurd (show (1 : Int32) = 0 from z) (by decide), fun _ => ih⟩
theorem kpI_f {x : Nat} (hx : x ≤ 4) : (kpI x = -2) ↔ x = 0 := by
  unfold kpI
  by_cases e : x = 0
  · rw [if_pos e]
    exact ⟨fun _ => e, fun _ => rfl⟩
  · rw [if_neg e]
    refine ⟨fun z => ?_, fun z => absurd z e⟩
    have : (0 : Int32) ≤ nI (x - 1) := nI_pos' (by omega)
    rw [z] at this
    exact absurd this (by decide)
theorem kpI_e {x h : Nat} (hx : x ≤ 4) (h0 : x ≠ 0) (hh : h < 4) : (kpI x = nI h) ↔ x = h + 1 := by
  unfold kpI
  rw [if_neg h0, nI_eq (by omega) (by omega)]
  omega
theorem x_mayLie {d o i h k : Nat} {s : Sn} {cm : Bool} {ρ : Nat → Nat} {iv : zI} {rv : zR} {lv : zJ} (hT : zTop rv) (ho : o ∈ zPts) (vs : VS s) (cs : CS iv 8 s) (hi : i < s.1) (hh : h < 4) (hP : PW iv o s k cm i ρ) : Ci mX5_mayLie d [.ref o, .ref 8, .int (nI i), .int (nI h)] iv rv lv (zP (bI (okR s ρ i h)) iv rv lv) := by
  have vn := vs.1
  have kb := vs.2.2.2.1 i hi
  obtain ⟨-, p5, -⟩ := hP
  have c2 : iv (8 + 2) i = kpI (kp s i) := cs.2.2.2.1 i hi
  have c3 : iv (8 + 3) i = nI (mk (ap s i) s.1) := cs.2.2.2.2 i hi
  have go : (kp s i = 0 ∨ kp s i = h + 1) → Zi mX5_mayLie d 21 [some (.ref o), some (.ref 8), some (.int (nI i)), some (.int (nI h))] [] iv rv lv (zP (bI (okR s ρ i h)) iv rv lv) := by
    intro q
    refine bX5_mayLie_21 o 8 _ _ hT ho (by decide) ?_
    have l1 := mk_lt10 (p := fun j => ρ j == h) (n := i) (by omega)
    have l2 := Nat.and_le_left (n := mk (fun j => ρ j == h) i) (m := mk (ap s i) s.1)
    rw [nI_clamp (by omega), nI_clamp (by omega), (p5 h hh).2, c3, bI_and, z_0, nI_eq (by omega) (by omega)]
    have e1 : okR s ρ i h = !foe s ρ i h := by
      unfold okR
      have : (kp s i == 0 || kp s i == h + 1) = true := by
        rw [Bool.or_eq_true, beq_iff_eq, beq_iff_eq]
        exact q
      rw [this, Bool.true_and]
    have e2 : mk (fun j => ρ j == h) i &&& mk (ap s i) s.1 = 0 ↔ foe s ρ i h = false := by
      unfold foe
      have : mk (fun j => ρ j == h) i &&& mk (ap s i) s.1 = mk (fun j => ap s i j && (ρ j == h)) i := mk_of (fun j => by
        rw [Nat.testBit_and, mk_bit, mk_bit]
        by_cases a : j < i
        · rw [decide_eq_true a, decide_eq_true (show j < s.1 by omega), Bool.true_and, Bool.true_and, Bool.true_and, Bool.and_comm]
        · rw [decide_eq_false a, Bool.false_and, Bool.false_and, Bool.false_and])
      rw [this, mk_0]
    rw [e2, e1]
    refine ⟨vp_in_nI hh (by decide), vp_in_nI (by omega) (by decide), fun z => zP.mk ?_, fun z => zP.mk ?_⟩
    · cases x : foe s ρ i h with
      | false => exact absurd x z
      | true => rfl
    · rw [z]
      rfl
  refine eX5_mayLie o 8 _ _ (bX5_mayLie_0 o 8 _ _ hT ho (by decide) ?_)
  rw [nI_clamp (show i < 2 ^ 31 by omega), c2, kpI_f kb]
  refine ⟨vp_in_nI (by omega) (by decide), fun q => go (Or.inl q), fun q => ?_⟩
  rw [kpI_e kb q hh]
  refine ⟨fun q2 => zP.mk ?_, fun q2 => go (Or.inr q2)⟩
  unfold okR
  rw [beq_eq_false_iff_ne.mpr q, beq_eq_false_iff_ne.mpr q2]
  rfl
theorem ptS : ∀ o ∈ zPts, 158 < o ∧ o + 4 < 174 ∧ zSH (o + 3) = (0, 4) := by decide +kernel
theorem x_takeRow {d o k W : Nat} {s : Sn} {cm : Bool} {ρ : Nat → Nat} {a : Ac} {iv : zI} {rv : zR} {lv : zJ} (hT : zTop rv) (ho : o ∈ zPts) (vs : VS s) (hk1 : 2 ≤ k) (hk : k ≤ 4) (hP : PW iv o s k cm s.1 ρ) (hA : AC iv o s.1 cm a) :
    Cv mX5_takeRow (d + 2) [.ref o, .int (nI W)] iv rv lv (fun u b c' => b = rv ∧ c' = lv ∧ PW u o s k cm s.1 ρ ∧ AC u o s.1 cm (cb a (sc W (lfq s k cm ρ))) ∧ FO iv u o cm) := by
  have po := ptS o ho
  have vn := vs.1
  have mb := mx_hs vs ρ k
  have hbs : ∀ h, h < k → hsum s.1 s.2.2.1 ρ h < 2 ^ 31 := fun h _ => by
    have := hsum_le s.1 s.2.2.1 ρ h vn.2 (fun i hi => (vs.2.2.1 i hi).2)
    omega
  have hms := mn_mx (hsum s.1 s.2.2.1 ρ) k
  obtain ⟨⟨p1, p2, p3', p4⟩, p5, p6⟩ := hP
  refine eX5_takeRow o _ (bX5_takeRow_0 o _ hT ho ?_)
  cases cm with
  | true =>
    refine ⟨fun z => absurd (show (1 : Int32) = 0 from p4.symm.trans z) (by decide), fun _ u e => ?_⟩
    obtain ⟨⟨a1, a2⟩, -, a3⟩ := hA
    obtain ⟨a4, a5⟩ := a3 rfl
    rw [a4, nI_add] at e
    have r : ∀ p, p ≠ o → u p = iv p := fun p hp => by rw [e, zu_row hp]
    have kk : ∀ b, b ≠ 11 → u o b = iv o b := fun b hb => by rw [e, zu_k hb]
    refine ⟨rfl, rfl, ⟨⟨by rw [kk 4 (by decide)]; exact p1, by rw [kk 8 (by decide)]; exact p2, by rw [kk 9 (by decide)]; exact p3', by rw [kk 10 (by decide)]; exact p4⟩, fun h hh => by rw [r _ (by omega), r _ (by omega)]; exact p5 h hh, fun z => by cases z⟩, ⟨⟨?_, ?_⟩, fun z => (by cases z), fun _ => ⟨?_, Or.inl ?_⟩⟩, fun p hp => r p (by omega), fun b b0 b1 b2 b11 => kk b b11, fun _ => ⟨r _ (by omega), kk⟩⟩
    · exact Nat.le_trans (Nat.min_le_left _ _) a1
    · exact Nat.le_trans (Nat.min_le_left _ _) a2
    · rw [e, zu_eq]
      show _ = nI ((if a.1 ≤ 0 then a.2.1 else 0) + (if 0 ≤ a.1 then W * 1 else 0))
      rw [if_pos (Nat.zero_le _), Nat.mul_one]
      by_cases z : a.1 ≤ 0
      · rw [if_pos z]
      · rw [if_neg z, show a.2.1 = 0 by omega]
    · show min a.1 0 = 0
      omega
  | false =>
    refine ⟨fun _ => ?_, fun z => absurd p4 z⟩
    obtain ⟨⟨a1, a2⟩, a3, -⟩ := hA
    obtain ⟨a4, a5, a6, a7⟩ := a3 rfl
    have p6 := p6 rfl
    have ar : AR iv (o + 3) k (hsum s.1 s.2.2.1 ρ) := fun h hh => (p5 h (by omega)).1
    rw [p1]
    refine zcall (x_grAmong hT po.2.2 (by omega) (by omega) hk (by decide) ar hbs) hT ?_
    rw [p1]
    refine zcall (x_lsAmong hT po.2.2 (by omega) (by omega) hk (by decide) ar hbs) hT ?_
    rw [a6, zmn_nI (by omega) (by omega), pk_sub hms]
    intro u1 e1
    have s0 : u1 o 0 = nI a.1 := by rw [e1, zu_k (by decide)]; exact a4
    have sb : mx (hsum s.1 s.2.2.1 ρ) k - mn (hsum s.1 s.2.2.1 ρ) k < 2 ^ 31 := by omega
    rw [s0, nI_leI (by omega) sb, nI_eq sb (by omega)]
    have r1 : ∀ p, p ≠ o → u1 p = iv p := fun p hp => by rw [e1, zu_row hp]
    have k1 : ∀ b, b ≠ 2 → u1 o b = iv o b := fun b hb => by rw [e1, zu_k hb]
    have el : lfq s k false ρ = (spr (hsum s.1 s.2.2.1 ρ) k, 1, mx (hsum s.1 s.2.2.1 ρ) k, ρ) := rfl
    have esp : spr (hsum s.1 s.2.2.1 ρ) k = mx (hsum s.1 s.2.2.1 ρ) k - mn (hsum s.1 s.2.2.1 ρ) k := rfl
    rw [el]
    have res : ∀ u : zI, (∀ p, p ≠ o → p ≠ o + 1 → u p = iv p) → (∀ b, b ≠ 0 → b ≠ 1 → b ≠ 2 → u o b = iv o b) → u o 0 = nI (min a.1 (spr (hsum s.1 s.2.2.1 ρ) k)) → u o 1 = nI ((if a.1 ≤ spr (hsum s.1 s.2.2.1 ρ) k then a.2.1 else 0) + (if spr (hsum s.1 s.2.2.1 ρ) k ≤ a.1 then W * 1 else 0)) → u o 2 = nI (min a.2.2.1 (mx (hsum s.1 s.2.2.1 ρ) k)) → (min a.1 (spr (hsum s.1 s.2.2.1 ρ) k) < 1000000 → ∀ j, j < s.1 → u (o + 1) j = nI ((if spr (hsum s.1 s.2.2.1 ρ) k < a.1 then ρ else a.2.2.2) j)) → (rv = rv ∧ lv = lv ∧ PW u o s k false s.1 ρ ∧ AC u o s.1 false (cb a (sc W (spr (hsum s.1 s.2.2.1 ρ) k, 1, mx (hsum s.1 s.2.2.1 ρ) k, ρ))) ∧ FO iv u o false) := by
      intro u h1 h2 h3 h4 h5 h6
      refine ⟨rfl, rfl, ⟨⟨by rw [h2 4 (by decide) (by decide) (by decide)]; exact p1, by rw [h2 8 (by decide) (by decide) (by decide)]; exact p2, by rw [h2 9 (by decide) (by decide) (by decide)]; exact p3', by rw [h2 10 (by decide) (by decide) (by decide)]; exact p4⟩, fun h hh => by rw [h1 _ (by omega) (by omega), h1 _ (by omega) (by omega)]; exact p5 h hh, fun _ j hj => by rw [h1 _ (by omega) (by omega)]; exact p6 j hj⟩, ⟨⟨Nat.le_trans (Nat.min_le_left _ _) a1, Nat.le_trans (Nat.min_le_left _ _) a2⟩, fun _ => ⟨h3, h4, h5, h6⟩, fun z => (by cases z)⟩, fun p hp => h1 p (by omega) (by omega), fun b b0 b1 b2 _ => h2 b b0 b1 b2, fun z => (by cases z)⟩
    refine ⟨fun q => ⟨fun q2 => ?_, fun q2 u2 e2 => ?_⟩, fun q u2 e2 u3 e3 u4 e4 => ⟨fun z => ?_, fun _ u5 e5 => ?_⟩⟩
    · refine res u1 (fun p p1 _ => r1 p p1) (fun b _ _ b2 => k1 b b2) ?_ ?_ ?_ (fun z j hj => ?_)
      · rw [s0, Nat.min_eq_left (by omega)]
      · rw [k1 1 (by decide), a5, if_pos (by omega), if_neg (by omega), Nat.add_zero]
      · rw [e1, zu_eq]
      · rw [if_neg (by omega), r1 _ (by omega)]
        exact a7 (by omega) j hj
    · rw [k1 1 (by decide), a5, nI_add] at e2
      refine res u2 (fun p p1 _ => by rw [e2, zu_row p1]; exact r1 p p1) (fun b _ b1 b2 => by rw [e2, zu_k b1]; exact k1 b b2) ?_ ?_ ?_ (fun z j hj => ?_)
      · rw [e2, zu_k (by decide), s0, Nat.min_eq_left (by omega)]
      · rw [e2, zu_eq, if_pos (by omega), if_pos (by omega), Nat.mul_one]
      · rw [e2, zu_k (by decide), e1, zu_eq]
      · rw [if_neg (by omega), e2, zu_row (by omega), r1 _ (by omega)]
        exact a7 (by omega) j hj
    · exfalso
      apply z
      rw [e4]
      simp only [show ¬ o = o + 1 by omega, if_false]
      rw [e3, zu_k (by decide), e2, zu_eq]
    · have t4 : ∀ p, p ≠ o + 1 → u4 p = u3 p := fun p hp => by
        rw [e4]
        simp only [hp, if_false]
      rw [t4 o (by omega), e3, zu_eq, z_0, nI_add] at e5
      refine res u5 (fun p p1 p2 => by rw [e5, zu_row p1, t4 p p2, e3, zu_row p1, e2, zu_row p1]; exact r1 p p1) (fun b b0 b1 b2 => by rw [e5, zu_k b1, t4 o (by omega), e3, zu_k b1, e2, zu_k b0]; exact k1 b b2) ?_ ?_ ?_ (fun z j hj => ?_)
      · rw [e5, zu_k (by decide), t4 o (by omega), e3, zu_k (by decide), e2, zu_eq, Nat.min_eq_right (by omega)]
        rfl
      · rw [e5, zu_eq, if_neg (by omega), if_pos (by omega), Nat.mul_one]
      · rw [e5, zu_k (by decide), t4 o (by omega), e3, zu_k (by decide), e2, zu_k (by decide), e1, zu_eq]
      · rw [if_pos (by omega), e5, zu_row (by omega), e4]
        simp only [if_true]
        unfold va_cpy
        rw [if_pos (by omega), show 0 + (j - 0) = j by omega, e3, zu_row (by omega), e2, zu_row (by omega), r1 _ (by omega)]
        exact (p6 j hj).1
theorem x_hopeful {d o k i : Nat} {s : Sn} {ρ : Nat → Nat} {a : Ac} {iv : zI} {rv : zR} {lv : zJ} (hT : zTop rv) (ho : o ∈ zPts) (vs : VS s) (hk1 : 2 ≤ k) (hk : k ≤ 4) (hi : i ≤ s.1) (hP : PW iv o s k false i ρ) (hA : AC iv o s.1 false a) :
    ∃ b : Bool, Ci mX5_hopeful (d + 2) [.ref o, .int (nI (sm s.2.2.1 s.1 - sm s.2.2.1 i))] iv rv lv (zP (bI b) iv rv lv) ∧ (b = false → ∀ w, cb a (sc w (tq s k false (s.1 - i) ρ)) = a) := by
  have po := ptS o ho
  have vn := vs.1
  obtain ⟨⟨p1, p2, p3', p4⟩, p5, p6⟩ := hP
  have p6 := p6 rfl
  obtain ⟨⟨a1, a2⟩, a3, -⟩ := hA
  obtain ⟨a4, a5, a6, a7⟩ := a3 rfl
  have vv : ∀ j, j < i → s.2.2.1 j ≤ 9999 := fun j hj => (vs.2.2.1 j (by omega)).2
  have hl := fun h => hsum_le i s.2.2.1 ρ h (by omega) vv
  have tot := hsum_tot (v := s.2.2.1) (ρ := ρ) (k := k) i (fun j hj => (p6 j hj).2)
  have tb : sm s.2.2.1 s.1 ≤ 9999 * s.1 := sm_le s.1 (fun i hi => (vs.2.2.1 i hi).2)
  have split : sm s.2.2.1 i ≤ sm s.2.2.1 s.1 := by
    have : ∀ n, sm s.2.2.1 i ≤ sm s.2.2.1 (i + n) := fun n => by
      induction n with
      | zero => exact Nat.le_refl _
      | succ n ih => exact Nat.le_trans ih (Nat.le_add_right _ _)
    have := this (s.1 - i)
    rw [show i + (s.1 - i) = s.1 by omega] at this
    exact this
  have ml : mn (hsum i s.2.2.1 ρ) k ≤ sm (hsum i s.2.2.1 ρ) k := by
    obtain ⟨m, rfl⟩ : ∃ m, k = m + 1 := ⟨k - 1, by omega⟩
    rw [mn, sm]
    omega
  have mm := mn_mx (hsum i s.2.2.1 ρ) k
  have mxl : mx (hsum i s.2.2.1 ρ) k ≤ sm (hsum i s.2.2.1 ρ) k := by
    refine mx_b k (fun j hj => ?_) ?_
    · have : ∀ m, j < m → hsum i s.2.2.1 ρ j ≤ sm (hsum i s.2.2.1 ρ) m := fun m => by
        induction m with
        | zero => exact fun h => absurd h (Nat.not_lt_zero _)
        | succ m ih =>
          intro h
          rw [sm]
          by_cases e : j = m
          · rw [e]; omega
          · have := ih (by omega); omega
      exact this k hj
    · obtain ⟨m, rfl⟩ : ∃ m, k = m + 1 := ⟨k - 1, by omega⟩
      have : ∀ m, hsum i s.2.2.1 ρ 0 ≤ sm (hsum i s.2.2.1 ρ) (m + 1) := fun m => by
        induction m with
        | zero => rw [sm]; omega
        | succ m ih => rw [sm]; omega
      exact this m
  have ar : AR iv (o + 3) k (hsum i s.2.2.1 ρ) := fun h hh => (p5 h (by omega)).1
  have hbs : ∀ h, h < k → hsum i s.2.2.1 ρ h < 2 ^ 31 := fun h _ => by have := hl h; omega
  generalize hT' : sm s.2.2.1 s.1 = T at *
  generalize hS' : sm s.2.2.1 i = U at *
  generalize hM : mx (hsum i s.2.2.1 ρ) k = M at *
  generalize hN : mn (hsum i s.2.2.1 ρ) k = N at *
  have d1 : (T - N - (T - U) + k - 2) / (k - 1) ≤ T + k := Nat.le_trans (Nat.div_le_self _ _) (by omega)
  have d2 : (T - M) / (k - 1) ≤ T := Nat.le_trans (Nat.div_le_self _ _) (by omega)
  generalize hX : max M ((T - N - (T - U) + k - 2) / (k - 1)) = X
  generalize hY : min (N + (T - U)) ((T - M) / (k - 1)) = Y
  have xb : X ≤ 200000 := by omega
  have yb : Y ≤ 200000 := by omega
  refine ⟨decide (X ≤ a.1 + Y ∨ X < a.2.2.1), eX5_hopeful o _ (bX5_hopeful_0 o _ hT ho ?_), fun hb w => ?_⟩
  · rw [p1]
    refine zcall (x_grAmong (s := hsum i s.2.2.1 ρ) hT po.2.2 (by omega) (by omega) hk (by decide) ar hbs) hT ?_
    rw [p1]
    refine zcall (x_lsAmong (s := hsum i s.2.2.1 ρ) hT po.2.2 (by omega) (by omega) hk (by decide) ar hbs) hT ?_
    rw [hM, hN, p1, p3', a4, a6, z_1, z_2, z_0, pk_sub (show 1 ≤ k by omega), pk_sub (show N ≤ T by omega), pk_sub (show T - U ≤ T - N by omega), nI_add, pk_sub (show 2 ≤ T - N - (T - U) + k by omega), pk_div (by omega) (by omega) (by omega), zmx_nI (by omega) (by omega), nI_add, pk_sub (show M ≤ T by omega), pk_div (by omega) (by omega) (by omega), zmn_nI (by omega) (by omega), hX, hY, nI_leI (show a.2.2.1 < 2 ^ 31 by omega) (by omega)]
    have e1 : (nI X - nI Y ≤ nI a.1) ↔ X ≤ a.1 + Y := by
      rw [J_n, J_n, J_n, J_sub, J_le (by omega) (by omega) (by omega) (by omega)]
      omega
    rw [e1]
    have k0 : ¬ nI (k - 1) = nI 0 := fun q => by rw [nI_eq (by omega) (by omega)] at q; omega
    refine ⟨k0, k0, fun q => zP.mk ?_, fun q => ⟨fun q2 => zP.mk ?_, fun q2 => zP.mk ?_⟩⟩
    · rw [decide_eq_true (Or.inl q)]; rfl
    · rw [decide_eq_false (by omega)]; rfl
    · rw [decide_eq_true (Or.inr (by omega))]; rfl
  · have nb := of_decide_eq_false hb
    have lb := tq_lb (s := s) (k := k) (D := a.1 + 1) (E := a.2.2.1) (g := hsum i s.2.2.1 ρ) (by omega) (by omega) (fun σ s1 s2 => by
      have tot2 := hsum_tot (v := s.2.2.1) (ρ := σ) (k := k) s.1 s1
      have := vain (g := hsum i s.2.2.1 ρ) (G := hsum s.1 s.2.2.1 σ) (T := T) (rest := T - U) hk1 hk s2 (by rw [tot2, hT']) (by rw [tot]; omega)
      rw [hM, hN, hX, hY] at this
      unfold spr
      omega) (s.1 - i) (by omega) ρ (fun j hj => (p6 j (by omega)).2) (fun h hh => by rw [show s.1 - (s.1 - i) = i by omega]; exact Nat.le_refl _)
    exact cb_vain (by omega) lb.2
