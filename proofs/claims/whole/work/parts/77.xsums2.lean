def KX (iv : zI) (rv : zR) (s : Sn) (K : Nat → Nat) (r : Nat) : Prop := rv 155 0 = some r ∧ zSH r = (0, 1024) ∧ r < 200 ∧ iv 155 2 = nI (2 ^ s.1) ∧ KS s s.1 K ∧ ∀ j, j < 2 ^ s.1 → iv r j = nI (K j)
theorem KX.of {iv : zI} {rv : zR} {s : Sn} (hR : KR rv) (hK : KW iv rv s s.1) : ∃ K r, KX iv rv s K r := by
  obtain ⟨r, q, h1, h2, s1, s2, ne, r1, r2, q1, q2⟩ := hR.at
  obtain ⟨k1, K, k2, k3⟩ := hK
  exact ⟨K, r, h1, s1, by omega, k1, k2, k3 r h1⟩
theorem n10 {s : Sn} (vs : VS s) : 0 < 2 ^ s.1 ∧ 2 ^ s.1 ≤ 1024 := ⟨Nat.two_pow_pos _, show 2 ^ s.1 ≤ 2 ^ 10 from Nat.pow_le_pow_right (by omega) vs.1.2⟩
theorem KX.b {iv : zI} {rv : zR} {s : Sn} {K : Nat → Nat} {r : Nat} (vs : VS s) (h : KX iv rv s K r) {j : Nat} (hj : j < 2 ^ s.1) : K j < 2 ^ 31 ∧ K j / 16384 ≤ 99990 := by
  obtain ⟨t, ht, e⟩ := h.2.2.2.2.1.mem hj
  rw [e]
  exact ⟨kyS_b vs (t10 vs ht), by rw [(kyS_d (t10 vs ht)).1]; exact ssum_le vs t⟩
theorem x_sumAt {d j r : Nat} {s : Sn} {K : Nat → Nat} {iv : zI} {rv : zR} {lv : zJ} (hT : zTop rv) (vs : VS s) (h : KX iv rv s K r) (hj : j < 2 ^ s.1) : Ci mX8_sumAt d [.ref 155, .int (nI j)] iv rv lv (zP (nI (K j / 16384)) iv rv lv) := by
  have n1 := n10 vs
  obtain ⟨h1, h2, h3, h4, h5, h6⟩ := h
  refine eX8_sumAt _ (bX8_sumAt_0 _ hT ⟨r, h1, h2, h3, vp_in_nI (by omega) (by decide), ?_⟩)
  have kb := (KX.b vs ⟨h1, h2, h3, h4, h5, h6⟩ hj).1
  rw [nI_clamp (by omega), h6 j hj]
  refine zP.mk ?_
  have := bI_shr (n := K j) (k := 14) (by omega) kb
  exact this
theorem x_firstFrom {d x r : Nat} {s : Sn} {K : Nat → Nat} {iv : zI} {rv : zR} {lv : zJ} (hT : zTop rv) (vs : VS s) (h : KX iv rv s K r) (hx : x < 2 ^ 31) : Ci mX8_firstFrom (d + 1) [.ref 155, .int (nI x)] iv rv lv (zP (nI (cF s x)) iv rv lv) := by
  have n1 := n10 vs
  obtain ⟨c1, c2⟩ := KS_cF vs h.2.2.2.2.1 x
  have h4 := h.2.2.2.1
  generalize cF s x = p at c1 c2 ⊢
  refine eX8_firstFrom _ (bX8_firstFrom_0 _ hT ?_)
  -- one leap
  have leap : ∀ (L at' : Nat) (nx : Int32), 1 ≤ L → L ≤ 1024 → nx = nI (L / 2) → at' ≤ p → p < at' + 2 * L → (∀ b, b ≤ p → p < b + L → Zi mX8_firstFrom (d + 1) 6 [some (.ref 155), some (.int (nI x)), some (.int (nI b)), some (.int nx)] [] iv rv lv (zP (nI p) iv rv lv)) → Zi mX8_firstFrom (d + 1) 6 [some (.ref 155), some (.int (nI x)), some (.int (nI at')), some (.int (nI L))] [] iv rv lv (zP (nI p) iv rv lv) := by
    intro L at' nx l1 l2 hnx a1 a2 hgo
    refine bX8_firstFrom_6 _ _ _ hT ⟨fun z => absurd z (show ¬ nI L ≤ nI 0 from nI_ge (by omega) (by omega)), fun _ => ?_⟩
    rw [h4, nI_add, nI_ltI (by omega) (by omega), z_2, pk_div (by omega) (by omega) (by omega), ← hnx]
    refine ⟨fun z => hgo at' a1 (by omega), fun z => ?_⟩
    rw [z_1, pk_sub (show 1 ≤ at' + L by omega)]
    refine zcall (x_sumAt hT vs h (j := at' + L - 1) (by omega)) hT ?_
    have kb := (h.b vs (j := at' + L - 1) (by omega)).2
    have cc := c2 (at' + L - 1) (by omega)
    rw [nI_leI hx (by omega)]
    refine ⟨fun y => hgo at' a1 (by omega), fun y => hgo (at' + L) (by omega) (by omega)⟩
  have all : ∀ (e at' : Nat), e ≤ 10 → at' ≤ p → p < at' + 2 * 2 ^ e → Zi mX8_firstFrom (d + 1) 6 [some (.ref 155), some (.int (nI x)), some (.int (nI at')), some (.int (nI (2 ^ e)))] [] iv rv lv (zP (nI p) iv rv lv) := by
    intro e
    induction e with
    | zero =>
      intro at' _ a1 a2
      refine leap (2 ^ 0) at' (nI 0) (by decide) (by decide) rfl a1 a2 (fun b b1 b2 => ?_)
      have : 2 ^ 0 = 1 := rfl
      exact bX8_firstFrom_6 _ _ _ hT ⟨fun _ => zP.mk (by rw [show b = p by omega]), fun z => absurd (by decide) z⟩
    | succ e ih =>
      intro at' he a1 a2
      have pe : 2 ^ (e + 1) = 2 * 2 ^ e := by rw [Nat.pow_succ]; omega
      have p0 : 0 < 2 ^ e := Nat.two_pow_pos e
      have p9 : 2 ^ (e + 1) ≤ 2 ^ 10 := Nat.pow_le_pow_right (by omega) he
      refine leap (2 ^ (e + 1)) at' (nI (2 ^ e)) (by omega) (by omega) (by rw [pe]; congr 1; omega) a1 a2 (fun b b1 b2 => ih b (by omega) b1 (by omega))
  have := all 10 0 (Nat.le_refl _) (Nat.zero_le _) (by omega)
  exact this
theorem cF_s {s : Sn} (x : Nat) : cF s (x + 1) = cF s x + lk (fun t => ssum s t == x) (2 ^ s.1) := by
  unfold cF
  have : ∀ m, lk (fun t => decide (ssum s t < x + 1)) m = lk (fun t => decide (ssum s t < x)) m + lk (fun t => ssum s t == x) m := fun m => by
    induction m with
    | zero => rfl
    | succ m ih =>
      rw [lk_s, lk_s, lk_s, ih]
      rcases Nat.lt_trichotomy (ssum s m) x with q | q | q
      · rw [decide_eq_true (show ssum s m < x + 1 by omega), decide_eq_true q, beq_eq_false_iff_ne.mpr (by omega)]
        show _ + 1 = _ + 1 + (_ + 0)
        omega
      · rw [decide_eq_true (show ssum s m < x + 1 by omega), decide_eq_false (show ¬ ssum s m < x by omega), beq_iff_eq.mpr q]
        show _ + 1 = _ + 0 + (_ + 1)
        omega
      · rw [decide_eq_false (show ¬ ssum s m < x + 1 by omega), decide_eq_false (show ¬ ssum s m < x by omega), beq_eq_false_iff_ne.mpr (by omega)]
        show _ + 0 = _ + 0 + (_ + 0)
        omega
  exact this _
theorem x_setsWith {d x r : Nat} {s : Sn} {K : Nat → Nat} {iv : zI} {rv : zR} {lv : zJ} (hT : zTop rv) (vs : VS s) (h : KX iv rv s K r) (hx : x + 1 < 2 ^ 31) : Ci mX8_setsWith (d + 2) [.ref 155, .int (nI x)] iv rv lv (zP (nI (lk (fun t => ssum s t == x) (2 ^ s.1))) iv rv lv) := by
  refine eX8_setsWith _ (bX8_setsWith_0 _ hT ?_)
  rw [nI_1]
  refine zcall (x_firstFrom hT vs h hx) hT (zcall (x_firstFrom hT vs h (by omega)) hT (zP.mk ?_))
  have e := cF_s (s := s) x
  rw [pk_sub (by omega), e, Nat.add_sub_cancel_left]
/-- the set that is chosen -/
def chA (s : Sn) (x : Nat) : Nat → Option Nat
  | 0 => none
  | t + 1 => if ssum s t == x && (match chA s x t with | none => true | some b => decide (scard t < scard b)) then some t else chA s x t
theorem chA_ok (s : Sn) (x : Nat) : ∀ m, (chA s x m = none → ∀ t, t < m → ssum s t ≠ x) ∧ ∀ b, chA s x m = some b → b < m ∧ ssum s b = x ∧ ∀ t, t < m → ssum s t = x → scard b < scard t ∨ (scard b = scard t ∧ b ≤ t)
  | 0 => ⟨fun _ t ht => absurd ht (Nat.not_lt_zero _), fun b hb => by cases hb⟩
  | m + 1 => by
    obtain ⟨i1, i2⟩ := chA_ok s x m
    rw [chA]
    by_cases q : ssum s m = x
    · rw [beq_iff_eq.mpr q, Bool.true_and]
      cases e : chA s x m with
      | none =>
        simp only [if_true]
        refine ⟨fun z => (by cases z), fun b hb => ?_⟩
        cases hb
        refine ⟨by omega, q, fun t ht hs => ?_⟩
        by_cases z : t = m
        · right
          rw [z]
          exact ⟨rfl, Nat.le_refl _⟩
        · exact absurd hs (i1 e t (by omega))
      | some b =>
        obtain ⟨j1, j2, j3⟩ := i2 b e
        by_cases z : scard m < scard b
        · simp only [z, decide_true, if_true]
          refine ⟨fun z => (by cases z), fun b' hb => ?_⟩
          cases hb
          refine ⟨by omega, q, fun t ht hs => ?_⟩
          by_cases y : t = m
          · right
            rw [y]
            exact ⟨rfl, Nat.le_refl _⟩
          · have := j3 t (by omega) hs
            omega
        · simp only [z, decide_false, Bool.false_eq_true, if_false]
          refine ⟨fun z => (by cases z), fun b' hb => ?_⟩
          cases hb
          refine ⟨by omega, j2, fun t ht hs => ?_⟩
          by_cases y : t = m
          · rw [y]
            omega
          · exact j3 t (by omega) hs
    · rw [beq_eq_false_iff_ne.mpr q, Bool.false_and, if_neg (by simp)]
      refine ⟨fun e t ht => ?_, fun b hb => ?_⟩
      · by_cases z : t = m
        · rw [z]; exact q
        · exact i1 e t (by omega)
      · obtain ⟨j1, j2, j3⟩ := i2 b hb
        refine ⟨by omega, j2, fun t ht hs => ?_⟩
        by_cases z : t = m
        · rw [z] at hs
          exact absurd hs q
        · exact j3 t (by omega) hs
def chI (o : Option Nat) : Int32 := match o with
  | none => -2
  | some b => nI b
theorem x_leastSetWith {d x r : Nat} {s : Sn} {K : Nat → Nat} {iv : zI} {rv : zR} {lv : zJ} (hT : zTop rv) (vs : VS s) (h : KX iv rv s K r) (hx : x < 2 ^ 31) : Ci mX8_leastSetWith (d + 2) [.ref 155, .int (nI x)] iv rv lv (zP (chI (chA s x (2 ^ s.1))) iv rv lv) := by
  have n1 := n10 vs
  refine eX8_leastSetWith _ (bX8_leastSetWith_0 _ hT (zcall (x_firstFrom hT vs h hx) hT ?_))
  obtain ⟨c1, c2⟩ := KS_cF vs h.2.2.2.2.1 x
  obtain ⟨h1, h2, h3, h4, h5, h6⟩ := id h
  generalize cF s x = p at c1 c2 ⊢
  obtain ⟨o1, o2⟩ := chA_ok s x (2 ^ s.1)
  -- no set, if none begins here
  have none' : (∀ j, p ≤ j → j < 2 ^ s.1 → K j / 16384 ≠ x) → (-2 : Int32) = chI (chA s x (2 ^ s.1)) := by
    intro hh
    cases e : chA s x (2 ^ s.1) with
    | none => rfl
    | some b =>
      obtain ⟨j1, j2, j3⟩ := o2 b e
      obtain ⟨j, hj, ej⟩ := h5.mem2 j1
      have dd := (kyS_d (s := s) (t10 vs j1)).1
      rw [← ej, j2] at dd
      have := c2 j hj
      exact absurd dd (hh j (by omega) hj)
  rw [h4, nI_leI (by omega) (by omega)]
  refine ⟨fun z => zP.mk (none' (fun j a b => by omega)), fun z => zcall (x_sumAt hT vs h (j := p) (by omega)) hT ?_⟩
  have kb := h.b vs (j := p) (by omega)
  rw [nI_eq (by omega) hx, nI_clamp (show p < 2 ^ 31 by omega)]
  refine ⟨fun y => zP.mk (none' (fun j a b e => ?_)), fun y => ⟨r, h1, h2, h3, vp_in_nI (by omega) (by decide), zP.mk ?_⟩⟩
  · have l1 := h5.le (j - p) p (by omega)
    rw [show p + (j - p) = j by omega] at l1
    have l2 : K p / 16384 ≤ K j / 16384 := Nat.div_le_div_right l1
    have := (c2 p (by omega))
    omega
  · obtain ⟨t0, ht0, et0⟩ := h5.mem (show p < 2 ^ s.1 by omega)
    have d0 := kyS_d (s := s) (t10 vs ht0)
    rw [h6 p (by omega), show (1023 : Int32) = nI 1023 from rfl, bI_and, show K p &&& 1023 = K p % 1024 from Nat.and_two_pow_sub_one_eq_mod (K p) 10, et0, d0.2]
    have s0 : ssum s t0 = x := by rw [← d0.1, ← et0]; exact y
    cases e : chA s x (2 ^ s.1) with
    | none => exact absurd s0 (o1 e t0 ht0)
    | some b =>
      obtain ⟨j1, j2, j3⟩ := o2 b e
      obtain ⟨j, hj, ej⟩ := h5.mem2 j1
      have db := kyS_d (s := s) (t10 vs j1)
      have pj : p ≤ j := by
        apply Nat.le_of_not_lt
        intro lt
        have := (c2 j hj).mpr lt
        rw [ej, db.1, j2] at this
        omega
      have l1 := h5.le (j - p) p (by omega)
      rw [show p + (j - p) = j by omega, ej, et0] at l1
      have := j3 t0 ht0 s0
      have b1 := t10 vs ht0
      have b2 := t10 vs j1
      have : b = t0 := by
        unfold kyS at l1
        rw [s0, j2] at l1
        omega
      rw [this]
      rfl
/-- how many sums there are that are unlike -/
def isn (f : Nat → Nat) (j : Nat) : Bool := !exB (fun o => f o == f j) j
theorem isn_D {f : Nat → Nat} {X : Nat} (hX : ∀ j, f j < X) : ∀ m, lk (fun x => exB (fun j => f j == x) m) X = lk (isn f) m
  | 0 => by
    have : ∀ X, lk (fun _ => false) X = 0 := fun X => by
      induction X with
      | zero => rfl
      | succ X ih => rw [lk_s, ih]; rfl
    exact this X
  | m + 1 => by
    rw [lk_s, ← isn_D hX m]
    unfold isn
    cases q : exB (fun o => f o == f m) m with
    | true =>
      show _ = _ + 0
      rw [Nat.add_zero]
      refine lk_cg X (fun x _ => ?_)
      rw [exB]
      by_cases e : f m = x
      · rw [← e, q, Bool.true_or]
      · rw [beq_eq_false_iff_ne.mpr e, Bool.or_false]
    | false =>
      refine sm_a1 (i0 := f m) (hX m) (fun x _ hne => ?_) ?_
      · show wt (exB (fun j => f j == x) (m + 1)) 1 = wt (exB (fun j => f j == x) m) 1
        rw [exB, beq_eq_false_iff_ne.mpr (fun z => hne z.symm), Bool.or_false]
      · show wt (exB (fun j => f j == f m) (m + 1)) 1 = wt (exB (fun j => f j == f m) m) 1 + 1
        rw [exB, q, beq_self_eq_true]
        rfl
theorem isn_asc {f : Nat → Nat} {m : Nat} (ha : ∀ j, j + 1 < m → f j ≤ f (j + 1)) {j : Nat} (hj : j + 1 < m) : isn f (j + 1) = !(f (j + 1) == f j) := by
  have le : ∀ n x, x + n = j → f x ≤ f j := by
    intro n
    induction n with
    | zero => intro x hx; rw [show x = j by omega]; exact Nat.le_refl _
    | succ n ih => intro x hx; exact Nat.le_trans (ha x (by omega)) (ih (x + 1) (by omega))
  unfold isn
  congr 1
  cases q : (f (j + 1) == f j) with
  | true =>
    rw [beq_iff_eq] at q
    refine (exB_iff _).mpr ⟨j, by omega, ?_⟩
    show (f j == f (j + 1)) = true
    rw [q, beq_self_eq_true]
  | false =>
    rw [beq_eq_false_iff_ne] at q
    cases z : exB (fun o => f o == f (j + 1)) (j + 1) with
    | false => rfl
    | true =>
      obtain ⟨o, ho, y⟩ := (exB_iff _).mp z
      have y : f o = f (j + 1) := beq_iff_eq.mp y
      have := le (j - o) o (by omega)
      have := ha j hj
      omega
theorem x_unlikeSums {d r : Nat} {s : Sn} {K : Nat → Nat} {iv : zI} {rv : zR} {lv : zJ} (hT : zTop rv) (vs : VS s) (h : KX iv rv s K r) : Ci mX8_unlikeSums (d + 1) [.ref 155] iv rv lv (zP (nI (lk (isn (ssum s)) (2 ^ s.1))) iv rv lv) := by
  have n1 := n10 vs
  obtain ⟨h1, h2, h3, h4, h5, h6⟩ := id h
  have asc : ∀ j, j + 1 < 2 ^ s.1 → K j / 16384 ≤ K (j + 1) / 16384 := fun j hj => Nat.div_le_div_right (h5.1 j hj)
  have eq : lk (isn (ssum s)) (2 ^ s.1) = lk (isn (fun j => if j < 2 ^ s.1 then K j / 16384 else 0)) (2 ^ s.1) := by
    rw [← isn_D (X := 100000) (fun j => by have := ssum_le vs j; omega), ← isn_D (X := 100000) (fun j => by
      show (if j < 2 ^ s.1 then K j / 16384 else 0) < 100000
      split
      · rename_i z
        have := (h.b vs z).2
        omega
      · omega)]
    refine lk_cg _ (fun x _ => ?_)
    have e1 : exB (fun j => (if j < 2 ^ s.1 then K j / 16384 else 0) == x) (2 ^ s.1) = exB (fun j => K j / 16384 == x) (2 ^ s.1) := exB_cg _ (fun j hj => by rw [if_pos hj])
    rw [e1]
    have c := h5.2 (fun y => y / 16384 == x)
    have c2 : lk (fun t => kyS s t / 16384 == x) (2 ^ s.1) = lk (fun t => ssum s t == x) (2 ^ s.1) := lk_cg _ (fun t ht => by rw [(kyS_d (t10 vs ht)).1])
    have c : lk (fun j => K j / 16384 == x) (2 ^ s.1) = lk (fun t => kyS s t / 16384 == x) (2 ^ s.1) := c
    rw [c2] at c
    cases q : exB (fun j => ssum s j == x) (2 ^ s.1) with
    | true =>
      have p1 := (lk_pos _).mpr ((exB_iff _).mp q)
      rw [← c] at p1
      exact ((exB_iff _).mpr ((lk_pos _).mp p1)).symm
    | false =>
      cases z : exB (fun j => K j / 16384 == x) (2 ^ s.1) with
      | false => rfl
      | true =>
        have p1 := (lk_pos _).mpr ((exB_iff _).mp z)
        rw [c] at p1
        rw [(exB_iff _).mpr ((lk_pos _).mp p1)] at q
        cases q
  rw [eq]
  refine eX8_unlikeSums (bX8_unlikeSums_0 hT ?_)
  generalize hf : (fun j => if j < 2 ^ s.1 then K j / 16384 else 0) = f
  have fe : ∀ j, j < 2 ^ s.1 → f j = K j / 16384 := fun j hj => by
    rw [← hf]
    show (if j < 2 ^ s.1 then K j / 16384 else 0) = _
    rw [if_pos hj]
  have fa : ∀ j, j + 1 < 2 ^ s.1 → f j ≤ f (j + 1) := fun j hj => by
    rw [fe j (by omega), fe (j + 1) hj]
    exact asc j hj
  have key := zfor (c := 2 ^ s.1) (P := fun j => 1 ≤ j → Zi mX8_unlikeSums (d + 1) 4 [some (.ref 155), some (.int (nI (lk (isn f) j))), some (.int (nI j))] [] iv rv lv (zP (nI (lk (isn f) (2 ^ s.1))) iv rv lv)) ?_ ?_
  · exact key 1 (by omega) (Nat.le_refl _)
  · intro _
    exact bX8_unlikeSums_4 _ _ hT ⟨fun _ => zP.mk rfl, fun z => absurd (by rw [h4]; exact nI_le (by omega) (by omega)) z⟩
  · intro j hj ih hj1
    refine bX8_unlikeSums_4 _ _ hT ⟨fun z => absurd z (by rw [h4]; exact nI_ge hj (by omega)), fun _ => zcall (x_sumAt hT vs h hj) hT ?_⟩
    rw [z_1, pk_sub hj1]
    refine zcall (x_sumAt hT vs h (j := j - 1) (by omega)) hT ?_
    have k1 := (h.b vs hj).2
    have k2 := (h.b vs (j := j - 1) (by omega)).2
    have e := isn_asc fa (j := j - 1) (by omega)
    rw [show j - 1 + 1 = j by omega, fe j hj, fe (j - 1) (by omega)] at e
    have ih := ih (by omega)
    rw [lk_s, e] at ih
    rw [nI_eq (by omega) (by omega), nI_add]
    refine ⟨fun q => ?_, fun q => ?_⟩
    · rw [beq_iff_eq.mpr q] at ih
      rw [z_0, nI_add]
      exact ih
    · rw [beq_eq_false_iff_ne.mpr q] at ih
      rw [nI_add]
      exact ih
/-- the sum that lies next -/
def far (x y : Nat) : Nat := if y ≤ x then x - y else y - x
def nrA (s : Sn) (x : Nat) : Nat → Nat
  | 0 => 0
  | t + 1 => if far x (ssum s t) < far x (nrA s x t) ∨ (far x (ssum s t) = far x (nrA s x t) ∧ ssum s t < nrA s x t) then ssum s t else nrA s x t
theorem ssum_0 {s : Sn} : ssum s 0 = 0 := by
  unfold ssum
  have : ∀ n, sm (fun i => wt ((0 : Nat).testBit i) (s.2.2.1 i)) n = 0 := fun n => by
    induction n with
    | zero => rfl
    | succ n ih => rw [sm, ih, Nat.zero_testBit]; rfl
  exact this _
theorem nrA_ok (s : Sn) (x : Nat) : ∀ m, (nrA s x m = 0 ∨ ∃ t, t < m ∧ ssum s t = nrA s x m) ∧ ∀ t, t < m → far x (nrA s x m) < far x (ssum s t) ∨ (far x (nrA s x m) = far x (ssum s t) ∧ nrA s x m ≤ ssum s t)
  | 0 => ⟨Or.inl rfl, fun t ht => absurd ht (Nat.not_lt_zero _)⟩
  | m + 1 => by
    obtain ⟨i1, i2⟩ := nrA_ok s x m
    rw [nrA]
    by_cases q : far x (ssum s m) < far x (nrA s x m) ∨ (far x (ssum s m) = far x (nrA s x m) ∧ ssum s m < nrA s x m)
    · rw [if_pos q]
      refine ⟨Or.inr ⟨m, by omega, rfl⟩, fun t ht => ?_⟩
      by_cases e : t = m
      · rw [e]; omega
      · have := i2 t (by omega)
        omega
    · rw [if_neg q]
      refine ⟨i1.imp id (fun ⟨t, ht, h⟩ => ⟨t, by omega, h⟩), fun t ht => ?_⟩
      by_cases e : t = m
      · rw [e]; omega
      · exact i2 t (by omega)
theorem nrA_is {s : Sn} (vs : VS s) {x y : Nat} (h1 : ∃ t, t < 2 ^ s.1 ∧ ssum s t = y) (h2 : ∀ t, t < 2 ^ s.1 → far x y < far x (ssum s t) ∨ (far x y = far x (ssum s t) ∧ y ≤ ssum s t)) : y = nrA s x (2 ^ s.1) := by
  have n1 := n10 vs
  obtain ⟨i1, i2⟩ := nrA_ok s x (2 ^ s.1)
  obtain ⟨t, ht, e⟩ := h1
  have a := i2 t ht
  rw [e] at a
  have b : far x y < far x (nrA s x (2 ^ s.1)) ∨ (far x y = far x (nrA s x (2 ^ s.1)) ∧ y ≤ nrA s x (2 ^ s.1)) := by
    rcases i1 with z | ⟨u, hu, eu⟩
    · have := h2 0 n1.1
      rw [ssum_0] at this
      rw [z]
      exact this
    · rw [← eu]
      exact h2 u hu
  omega
theorem x_sumNextTo {d x r : Nat} {s : Sn} {K : Nat → Nat} {iv : zI} {rv : zR} {lv : zJ} (hT : zTop rv) (vs : VS s) (h : KX iv rv s K r) (hx : x ≤ 100000) : Ci mX8_sumNextTo (d + 2) [.ref 155, .int (nI x)] iv rv lv (zP (nI (nrA s x (2 ^ s.1))) iv rv lv) := by
  have n1 := n10 vs
  refine eX8_sumNextTo _ (bX8_sumNextTo_0 _ hT (zcall (x_firstFrom hT vs h (by omega)) hT ?_))
  obtain ⟨c1, c2⟩ := KS_cF vs h.2.2.2.2.1 x
  obtain ⟨h1, h2, h3, h4, h5, h6⟩ := id h
  generalize cF s x = p at c1 c2 ⊢
  have is : ∀ j, j < 2 ^ s.1 → (∀ i, i < 2 ^ s.1 → far x (K j / 16384) < far x (K i / 16384) ∨ (far x (K j / 16384) = far x (K i / 16384) ∧ K j / 16384 ≤ K i / 16384)) → nI (K j / 16384) = nI (nrA s x (2 ^ s.1)) := by
    intro j hj hh
    congr 1
    refine nrA_is vs ?_ (fun t ht => ?_)
    · obtain ⟨t, ht, e⟩ := h5.mem hj
      exact ⟨t, ht, by rw [e, (kyS_d (t10 vs ht)).1]⟩
    · obtain ⟨i, hi, e⟩ := h5.mem2 ht
      have := hh i hi
      rw [e, (kyS_d (t10 vs ht)).1] at this
      exact this
  have mono : ∀ i j, i ≤ j → j < 2 ^ s.1 → K i / 16384 ≤ K j / 16384 := fun i j hij hj => by
    have := h5.le (j - i) i (by omega)
    rw [show i + (j - i) = j by omega] at this
    exact Nat.div_le_div_right this
  rw [h4, nI_ltI (by omega) (by omega), z_0, nI_eq (by omega) (by omega), z_1]
  refine ⟨fun z => ⟨fun z2 => ?_, fun z2 => ?_⟩, fun z => ?_⟩
  · rw [pk_sub (by omega)]
    refine zcall (x_sumAt hT vs h (j := p - 1) (by omega)) hT (zcall (x_sumAt hT vs h (j := p) z) hT ?_)
    have b1 := (c2 (p - 1) (by omega)).mpr (by omega)
    have b2 : ¬ K p / 16384 < x := fun y => Nat.lt_irrefl _ ((c2 p z).mp y)
    have k1 := (h.b vs z).2
    rw [pk_sub (show x ≤ K p / 16384 by omega), pk_sub (show K (p - 1) / 16384 ≤ x by omega), nI_ltI (by omega) (by omega)]
    refine ⟨fun y => zP.mk (is p z (fun i hi => ?_)), fun y => zP.mk (is (p - 1) (by omega) (fun i hi => ?_))⟩
    · unfold far
      by_cases q : i < p
      · have m1 := mono i (p - 1) (by omega) (by omega)
        repeat' split
        all_goals omega
      · have m1 := mono p i (by omega) hi
        repeat' split
        all_goals omega
    · unfold far
      by_cases q : i < p
      · have m1 := mono i (p - 1) (by omega) (by omega)
        repeat' split
        all_goals omega
      · have m1 := mono p i (by omega) hi
        repeat' split
        all_goals omega
  · refine zcall (x_sumAt (j := 0) hT vs h (by omega)) hT (zP.mk (is 0 (by omega) (fun i hi => ?_)))
    have b2 : ¬ K 0 / 16384 < x := fun y => by have := (c2 0 (by omega)).mp y; omega
    have m1 := mono 0 i (by omega) hi
    unfold far
    repeat' split
    all_goals omega
  · rw [pk_sub n1.1]
    refine zcall (x_sumAt hT vs h (j := 2 ^ s.1 - 1) (by omega)) hT (zP.mk (is (2 ^ s.1 - 1) (by omega) (fun i hi => ?_)))
    have b1 := (c2 (2 ^ s.1 - 1) (by omega)).mpr (by omega)
    have m1 := mono i (2 ^ s.1 - 1) (by omega) (by omega)
    unfold far
    repeat' split
    all_goals omega
