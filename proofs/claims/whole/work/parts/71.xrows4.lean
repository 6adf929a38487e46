/-! THE CLASS: what was found of all rows is kept for as long as nothing has changed. -/
def Cp (S : St) (w : zI) : Prop := ∀ k, 2 ≤ k → k ≤ 4 → w (159 + 5 * (k - 2)) 4 = nI k ∧ (w (159 + 5 * (k - 2)) 12 = -1 ∨ ∃ v, v ≤ ver S ∧ w (159 + 5 * (k - 2)) 12 = nI v ∧ (v = ver S → ∀ s, S.2.1 = some s → AC w (159 + 5 * (k - 2)) s.1 false (lq s k)))
def XP (S' : St) (r : Int32) (iv : zI) (rv : zR) (lv : zJ) : Int32 → zI → zR → zJ → Prop := fun y a b c => y = r ∧ b = rv ∧ c = lv ∧ CB S' a ∧ Cp S' a ∧ ∀ p, (76 ≤ p ∧ p < 158) ∨ 173 < p → a p = iv p
theorem Cp.fr {S : St} {w w' : zI} (h : Cp S w) (hf : ∀ p, 159 ≤ p → p ≤ 173 → w' p = w p) : Cp S w' := fun k k1 k2 => by
  unfold AC
  rw [hf _ (by omega) (by omega), hf (159 + 5 * (k - 2) + 1) (by omega) (by omega)]
  exact h k k1 k2
theorem Cp.tr {S : St} {w : zI} {t : Nat} (h : Cp S w) : Cp (sT S t) w := h
theorem XP.ans {S : St} {t : Nat} {y r : Int32} {iv a : zI} {rv : zR} {lv : zJ} (e : y = r) (h : CB S iv) (hc : Cp S a) (hf : ∀ p, p < 159 ∨ 173 < p → a p = iv p) : XP (sT S t) r iv rv lv y (zu (zu a 0 12 (nI t)) 0 14 (-1)) rv lv :=
  ⟨e, rfl, rfl, (h.fr (fun p hp => hf p (by omega))).tr, (hc.fr (w' := zu (zu a 0 12 (nI t)) 0 14 (-1)) (fun p p1 _ => by rw [zu_row (by omega), zu_row (by omega)])).tr, fun p hp => by rw [zu_row (by omega), zu_row (by omega)]; exact hf p (by omega)⟩
theorem pts_k {k : Nat} (k1 : 2 ≤ k) (k2 : k ≤ 4) : 159 + 5 * (k - 2) ∈ zPts := by
  have : k = 2 ∨ k = 3 ∨ k = 4 := by omega
  rcases this with rfl | rfl | rfl <;> decide
theorem Cp.pre {S : St} {s : Sn} {w : zI} {k : Nat} (h : Cp S w) (k1 : 2 ≤ k) (k2 : k ≤ 4) (e : S.2.1 = some s) : w (159 + 5 * (k - 2)) 12 = -1 ∨ ∃ u, u ≤ ver S ∧ w (159 + 5 * (k - 2)) 12 = nI u ∧ (u = ver S → AC w (159 + 5 * (k - 2)) s.1 false (lq s k)) := (h k k1 k2).2.elim Or.inl (fun ⟨v, h1, h2, h3⟩ => Or.inr ⟨v, h1, h2, fun q => h3 q s e⟩)
theorem Cp.new {S : St} {s : Sn} {w a : zI} {k : Nat} (h : Cp S w) (k1 : 2 ≤ k) (k2 : k ≤ 4) (e : S.2.1 = some s) (g1 : a (159 + 5 * (k - 2)) 12 = nI (ver S)) (g2 : AC a (159 + 5 * (k - 2)) s.1 false (lq s k)) (g3 : a (159 + 5 * (k - 2)) 4 = nI k) (g4 : ∀ p, p < 159 + 5 * (k - 2) ∨ 159 + 5 * (k - 2) + 4 < p → a p = w p) : Cp S a := by
  intro k' k1' k2'
  by_cases z : k' = k
  · subst z
    refine ⟨g3, Or.inr ⟨ver S, Nat.le_refl _, g1, fun _ s' e' => ?_⟩⟩
    rw [e] at e'
    cases e'
    exact g2
  · unfold AC
    rw [g4 _ (by omega), g4 (159 + 5 * (k' - 2) + 1) (by omega)]
    exact h k' k1' k2'
theorem x_allRows {d k : Nat} {iv : zI} {rv : zR} {lv : zJ} (hT : zTop rv) (k1 : 2 ≤ k) (k2 : k ≤ 4) : Cr mX10_allRows (d + 1) [.ref 0, .int (nI k)] iv rv lv (fun r a b c => r = 159 + 5 * (k - 2) ∧ a = iv ∧ b = rv ∧ c = lv) := by
  refine eX10_allRows _ (bX10_allRows_0 _ hT ?_)
  rw [z_4, z_2, zmn_nI (by omega) (by omega), Nat.min_eq_left k2, zmx_nI (by omega) (by omega), Nat.max_eq_right k1, pk_sub k1, nI_clamp (by omega)]
  exact ⟨vp_in_nI (by omega) (by decide), 159 + 5 * (k - 2), hT.2.2.2.2.2.2.2.1 (k - 2) (by omega), pts_k k1 k2, rfl, rfl, rfl, rfl⟩
def F_least (S : St) (k w : Int32) : Int32 × St := match S.2.1 with
  | none => rf S 1
  | some s => if w < 0 ∨ 1 < w then rf S 1 else if k < 2 ∨ 4 < k then rf S 2 else if (lq s k.toNatClampNeg).2.1 = 0 then rf S 6 else ok S (if w = 0 then nI (lq s k.toNatClampNeg).1 else nI (lq s k.toNatClampNeg).2.1)
def F_leastOf (S : St) (k x : Int32) : Int32 × St := match nOf S x with
  | none => rf S 1
  | some (s, i) => if k < 2 ∨ 4 < k then rf S 2 else if (lq s k.toNatClampNeg).2.1 = 0 then rf S 6 else ok S (nI ((lq s k.toNatClampNeg).2.2.2 i))
def F_flat (S : St) (k : Int32) : Int32 × St := match S.2.1 with
  | none => rf S 1
  | some s => if k < 2 ∨ 4 < k then rf S 2 else if (lq s k.toNatClampNeg).2.1 = 0 then rf S 6 else ok S (nI (lq s k.toNatClampNeg).2.2.1)
def F_rows (S : St) (k : Int32) : Int32 × St := match S.2.1 with
  | none => rf S 1
  | some s => if k < 2 ∨ 4 < k then rf S 2 else ok S (nI (rq s k.toNatClampNeg))
theorem zcallR {M : zM} {d : Nat} {as : List Value} {iv : zI} {rv : zR} {lv : zJ} {Q : Nat → zI → zR → zJ → Prop} {K : Nat → zI → zR → zJ → Prop} (hs : Cr M d as iv rv lv Q) (hk : ∀ (x : Nat) (a : zI) (b : zR) (c : zJ), Q x a b c → zTop b ∧ K x a b c) : ∃ Q1 : Nat → zI → zR → zJ → Prop, Cr M d as iv rv lv Q1 ∧ ∀ (x : Nat) (a : zI) (b : zR) (c : zJ), Q1 x a b c → zTop b ∧ K x a b c := ⟨_, hs, hk⟩
theorem x_least {d : Nat} {S : St} {k w : Int32} {iv : zI} {rv : zR} {lv : zJ} (hT : zTop rv) (h : CB S iv) (hv : VT S) (hp : Cp S iv) (hn32 : ver S < 2 ^ 31) : Ci mX10_least (d + 32) [.ref 0, .int k, .int w] iv rv lv (XP (F_least S k w).2 (F_least S k w).1 iv rv lv) := by
  refine eX10_least k w (bX10_least_0 k w hT (zcall (x_noText hT) hT ?_))
  rw [h.nt hv]
  have hn := h.2.1
  have hver : iv 0 3 = nI (ver S) := h.2.2.2.2.2.2
  have r1 : ∀ b : Bool, Ci mX10_refused (d + 31) [.ref 0, .int 1, .int (bI b)] iv rv lv (zP 1 (zu (zu iv 0 12 1) 0 14 (-1)) rv lv) := fun b => x_refused (a := true) (b := b) hT
  unfold F_least
  cases e : S.2.1 with
  | none =>
    refine ⟨fun _ => bX10_least_20 _ _ _ hT (zcall (x_noSuchHeaps hT) hT (zcall (r1 _) hT ⟨fun q => absurd q (by decide), fun _ => XP.ans (t := 1) rfl h hp (fun _ _ => rfl)⟩)), fun q => absurd (show (1 : Int32) = 0 from q) (by decide)⟩
  | some s =>
    rw [e] at hn
    obtain ⟨cs, c12⟩ := hn
    have vs := hv.2.1 s e
    refine ⟨fun q => absurd rfl q, fun _ => zcall (x_not01 hT) hT ?_⟩
    by_cases hw : w < 0 ∨ 1 < w
    · simp only [hw, decide_true, if_true]
      exact ⟨fun q => absurd (show (1 : Int32) = 0 from q) (by decide), fun _ => bX10_least_20 _ _ _ hT (zcall (x_noSuchHeaps hT) hT (zcall (r1 _) hT ⟨fun q => absurd q (by decide), fun _ => XP.ans (t := 1) rfl h hp (fun _ _ => rfl)⟩))⟩
    · simp only [hw, decide_false, if_false]
      refine ⟨fun _ => bX10_least_20 _ _ _ hT (zcall (x_noSuchHeaps hT) hT ?_), fun q => absurd rfl q⟩
      by_cases hx : k < 2 ∨ 4 < k
      · simp only [hx, decide_true, if_true]
        exact zcall (x_refused (a := false) (b := true) hT) hT ⟨fun q => absurd (show (1 : Int32) = 0 from q) (by decide), fun _ => XP.ans (t := 2) rfl h hp (fun _ _ => rfl)⟩
      · simp only [hx, decide_false, if_false]
        obtain ⟨j, j1, j2, rfl⟩ := of_k hx
        refine zcall (x_refused (a := false) (b := false) hT) hT ⟨fun _ => ?_, fun q => absurd rfl q⟩
        rw [nI_clamp (by omega)]
        simp only [Bool.false_eq_true, if_false]
        refine zcallR (x_allRows hT j1 j2) ?_
        rintro x0 a0 b0 c0 ⟨q0, q1, q2, q3⟩
        have q1 := q1.symm
        have q2 := q2.symm
        have q3 := q3.symm
        subst q0 q1 q2 q3
        rw [hver]
        refine ⟨hT, pts_k j1 j2, zcallQ (x_findLeast (d := d) hT (pts_k j1 j2) vs j1 j2 cs (hp j j1 j2).1 hn32 (hp.pre j1 j2 e)) ?_⟩
        rintro _ a _ _ ⟨rfl, rfl, rfl, g1, g2, g3, g4⟩
        have cn := hp.new j1 j2 e g1 g2 g3 g4
        have fr : ∀ p, p < 159 ∨ 173 < p → a p = iv p := fun p hp => g4 p (by omega)
        have gg := g2.2.1 rfl
        refine ⟨hT, fun z => ?_, fun z => ?_⟩
        · have z : 0 < (lq s j).2.1 := of_decide_eq_true ((bI_n0 _).mp z)
          rw [if_neg (show ¬ (lq s j).2.1 = 0 by omega)]
          refine ⟨fun q => ?_, fun q => ?_⟩
          · rw [if_neg q]
            exact zcall (x_answer hT) hT (XP.ans (t := 0) gg.2.1 h cn fr)
          · rw [if_pos q]
            exact zcall (x_answer hT) hT (XP.ans (t := 0) gg.1 h cn fr)
        · have z : ¬ 0 < (lq s j).2.1 := of_decide_eq_false ((bI_0 _).mp z)
          rw [if_pos (show (lq s j).2.1 = 0 by omega)]
          exact zcall (x_refuse hT) hT (XP.ans (t := 6) rfl h cn fr)
theorem x_leastOf {d : Nat} {S : St} {k x : Int32} {iv : zI} {rv : zR} {lv : zJ} (hT : zTop rv) (h : CB S iv) (hv : VT S) (hp : Cp S iv) (hn32 : ver S < 2 ^ 31) : Ci mX10_leastOf (d + 32) [.ref 0, .int k, .int x] iv rv lv (XP (F_leastOf S k x).2 (F_leastOf S k x).1 iv rv lv) := by
  refine eX10_leastOf k x (bX10_leastOf_0 k x hT (zcall (x_noNumber hT) hT (zcall (x_noSuchHeaps hT) hT ?_)))
  have hn := h.2.1
  have hver : iv 0 3 = nI (ver S) := h.2.2.2.2.2.2
  unfold F_leastOf
  rcases nOf_cases S x hv with ⟨hn, hx⟩ | ⟨s, i, hn2, es, hi, rfl⟩
  · rw [hn, h.nn0 hx]
    exact zcall (x_refused (a := true) hT) hT ⟨fun q => absurd (show (1 : Int32) = 0 from q) (by decide), fun _ => XP.ans (t := 1) rfl h hp (fun _ _ => rfl)⟩
  · rw [hn2, h.nn1 hv es hi]
    rw [es] at hn
    obtain ⟨cs, c12⟩ := hn
    have vs := hv.2.1 s es
    have vn := vs.1
    simp only
    by_cases hx : k < 2 ∨ 4 < k
    · simp only [hx, decide_true, if_true]
      exact zcall (x_refused (a := false) (b := true) hT) hT ⟨fun q => absurd (show (1 : Int32) = 0 from q) (by decide), fun _ => XP.ans (t := 2) rfl h hp (fun _ _ => rfl)⟩
    · simp only [hx, decide_false, if_false]
      obtain ⟨j, j1, j2, rfl⟩ := of_k hx
      refine zcall (x_refused (a := false) (b := false) hT) hT ⟨fun _ => ?_, fun q => absurd rfl q⟩
      rw [nI_clamp (show j < 2 ^ 31 by omega)]
      simp only [Bool.false_eq_true, if_false]
      refine zcallR (x_allRows hT j1 j2) ?_
      rintro x0 a0 b0 c0 ⟨q0, q1, q2, q3⟩
      have q1 := q1.symm
      have q2 := q2.symm
      have q3 := q3.symm
      subst q0 q1 q2 q3
      rw [hver]
      refine ⟨hT, pts_k j1 j2, zcallQ (x_findLeast (d := d) hT (pts_k j1 j2) vs j1 j2 cs (hp j j1 j2).1 hn32 (hp.pre j1 j2 es)) ?_⟩
      rintro _ a _ _ ⟨rfl, rfl, rfl, g1, g2, g3, g4⟩
      have cn := hp.new j1 j2 es g1 g2 g3 g4
      have fr : ∀ p, p < 159 ∨ 173 < p → a p = iv p := fun p hp => g4 p (by omega)
      have gg := g2.2.1 rfl
      refine ⟨hT, fun z => ?_, fun z => ?_⟩
      · have z : 0 < (lq s j).2.1 := of_decide_eq_true ((bI_n0 _).mp z)
        have lt : (lq s j).1 < 1000000 := by
          rcases lq_gd vs j with h | h
          · exact h.1
          · omega
        rw [if_neg (show ¬ (lq s j).2.1 = 0 by omega), nI_clamp (show i < 2 ^ 31 by omega)]
        exact ⟨vp_in_nI (by omega) (by decide), zcall (x_answer hT) hT (XP.ans (t := 0) (gg.2.2.2 lt i hi) h cn fr)⟩
      · have z : ¬ 0 < (lq s j).2.1 := of_decide_eq_false ((bI_0 _).mp z)
        rw [if_pos (show (lq s j).2.1 = 0 by omega)]
        exact zcall (x_refuse hT) hT (XP.ans (t := 6) rfl h cn fr)
theorem x_flat {d : Nat} {S : St} {k : Int32} {iv : zI} {rv : zR} {lv : zJ} (hT : zTop rv) (h : CB S iv) (hv : VT S) (hp : Cp S iv) (hn32 : ver S < 2 ^ 31) : Ci mX10_flat (d + 32) [.ref 0, .int k] iv rv lv (XP (F_flat S k).2 (F_flat S k).1 iv rv lv) := by
  refine eX10_flat k (bX10_flat_0 k hT (zcall (x_noText hT) hT (zcall (x_noSuchHeaps hT) hT ?_)))
  rw [h.nt hv]
  have hn := h.2.1
  have hver : iv 0 3 = nI (ver S) := h.2.2.2.2.2.2
  unfold F_flat
  cases e : S.2.1 with
  | none => exact zcall (x_refused (a := true) hT) hT ⟨fun q => absurd (show (1 : Int32) = 0 from q) (by decide), fun _ => XP.ans (t := 1) rfl h hp (fun _ _ => rfl)⟩
  | some s =>
    rw [e] at hn
    obtain ⟨cs, c12⟩ := hn
    have vs := hv.2.1 s e
    have vn := vs.1
    by_cases hx : k < 2 ∨ 4 < k
    · simp only [hx, decide_true, if_true]
      exact zcall (x_refused (a := false) (b := true) hT) hT ⟨fun q => absurd (show (1 : Int32) = 0 from q) (by decide), fun _ => XP.ans (t := 2) rfl h hp (fun _ _ => rfl)⟩
    · simp only [hx, decide_false, if_false]
      obtain ⟨j, j1, j2, rfl⟩ := of_k hx
      refine zcall (x_refused (a := false) (b := false) hT) hT ⟨fun _ => ?_, fun q => absurd rfl q⟩
      rw [nI_clamp (by omega)]
      simp only [Bool.false_eq_true, if_false]
      refine zcallR (x_allRows hT j1 j2) ?_
      rintro x0 a0 b0 c0 ⟨q0, q1, q2, q3⟩
      have q1 := q1.symm
      have q2 := q2.symm
      have q3 := q3.symm
      subst q0 q1 q2 q3
      rw [hver]
      refine ⟨hT, pts_k j1 j2, zcallQ (x_findLeast (d := d) hT (pts_k j1 j2) vs j1 j2 cs (hp j j1 j2).1 hn32 (hp.pre j1 j2 e)) ?_⟩
      rintro _ a _ _ ⟨rfl, rfl, rfl, g1, g2, g3, g4⟩
      have cn := hp.new j1 j2 e g1 g2 g3 g4
      have fr : ∀ p, p < 159 ∨ 173 < p → a p = iv p := fun p hp => g4 p (by omega)
      have gg := g2.2.1 rfl
      refine ⟨hT, fun z => ?_, fun z => ?_⟩
      · have z : 0 < (lq s j).2.1 := of_decide_eq_true ((bI_n0 _).mp z)
        rw [if_neg (show ¬ (lq s j).2.1 = 0 by omega)]
        exact zcall (x_answer hT) hT (XP.ans (t := 0) gg.2.2.1 h cn fr)
      · have z : ¬ 0 < (lq s j).2.1 := of_decide_eq_false ((bI_0 _).mp z)
        rw [if_pos (show (lq s j).2.1 = 0 by omega)]
        exact zcall (x_refuse hT) hT (XP.ans (t := 6) rfl h cn fr)
theorem x_rows {d : Nat} {S : St} {k : Int32} {iv : zI} {rv : zR} {lv : zJ} (hT : zTop rv) (h : CB S iv) (hv : VT S) (hp : Cp S iv) : Ci mX10_rows (d + 32) [.ref 0, .int k] iv rv lv (XP (F_rows S k).2 (F_rows S k).1 iv rv lv) := by
  refine eX10_rows k (bX10_rows_0 k hT (zcall (x_noText hT) hT (zcall (x_noSuchHeaps hT) hT ?_)))
  rw [h.nt hv]
  have hn := h.2.1
  unfold F_rows
  cases e : S.2.1 with
  | none => exact zcall (x_refused (a := true) hT) hT ⟨fun q => absurd (show (1 : Int32) = 0 from q) (by decide), fun _ => XP.ans (t := 1) rfl h hp (fun _ _ => rfl)⟩
  | some s =>
    rw [e] at hn
    obtain ⟨cs, c12⟩ := hn
    have vs := hv.2.1 s e
    have vn := vs.1
    by_cases hx : k < 2 ∨ 4 < k
    · simp only [hx, decide_true, if_true]
      exact zcall (x_refused (a := false) (b := true) hT) hT ⟨fun q => absurd (show (1 : Int32) = 0 from q) (by decide), fun _ => XP.ans (t := 2) rfl h hp (fun _ _ => rfl)⟩
    · simp only [hx, decide_false, if_false]
      obtain ⟨j, j1, j2, rfl⟩ := of_k hx
      refine zcall (x_refused (a := false) (b := false) hT) hT ⟨fun _ => ?_, fun q => absurd rfl q⟩
      rw [nI_clamp (by omega)]
      simp only [Bool.false_eq_true, if_false]
      refine zcallR (x_allRows hT j1 j2) ?_
      rintro x0 a0 b0 c0 ⟨q0, q1, q2, q3⟩
      have q1 := q1.symm
      have q2 := q2.symm
      have q3 := q3.symm
      subst q0 q1 q2 q3
      refine ⟨hT, pts_k j1 j2, zcallQ (x_countAllowed (d := d) hT (pts_k j1 j2) vs j1 j2 cs (hp j j1 j2).1) ?_⟩
      rintro _ a _ _ ⟨rfl, rfl, rfl, g1, g2, g3, g4, g5, g6, g7⟩
      have fr : ∀ p, p < 159 ∨ 173 < p → a p = iv p := fun p hp => g3 p (by omega)
      have cn : Cp S a := by
        intro k' k1' k2'
        by_cases z : k' = j
        · subst z
          unfold AC
          rw [g1, g2, g4, g5, g6, g7]
          have := hp k' k1' k2'
          unfold AC at this
          refine ⟨rfl, this.2.elim Or.inl (fun ⟨v, h1, h2, h3⟩ => Or.inr ⟨v, h1, h2, fun q s e => ?_⟩)⟩
          obtain ⟨t1, t2, t3⟩ := h3 q s e
          exact ⟨t1, t2, fun y => by cases y⟩
        · unfold AC
          rw [g3 _ (by omega), g3 (159 + 5 * (k' - 2) + 1) (by omega)]
          exact hp k' k1' k2'
      exact ⟨hT, zcall (x_answer hT) hT (XP.ans (t := 0) rfl h cn fr)⟩
