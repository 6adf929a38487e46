/-! THE CLASS: sums are kept for as long as nothing has changed. -/
def Cq (S : St) (w : zI) (rv : zR) : Prop := KR rv ∧ (w 155 3 = -1 ∨ ∃ v, v ≤ ver S ∧ w 155 3 = nI v ∧ (v = ver S → ∀ s, S.2.1 = some s → KW w rv s s.1))
def XQ (S' : St) (r : Int32) (iv : zI) (rv : zR) (lv : zJ) : Int32 → zI → zR → zJ → Prop := fun y a b c => y = r ∧ zTop b ∧ c = lv ∧ CB S' a ∧ Cq S' a b ∧ (∀ p, p ≠ 155 → b p = rv p) ∧ ∀ p, (76 ≤ p ∧ p < 155) ∨ 158 < p → a p = iv p
theorem Cq.fr {S : St} {w w' : zI} {rv : zR} (h : Cq S w rv) (hf : ∀ p, 155 ≤ p → p ≤ 157 → w' p = w p) : Cq S w' rv := by
  refine ⟨h.1, ?_⟩
  rw [hf 155 (by omega) (by omega)]
  refine h.2.imp id (fun ⟨v, h1, h2, h3⟩ => ⟨v, h1, h2, fun q s e => ?_⟩)
  obtain ⟨k1, K, k2, k3⟩ := h3 q s e
  obtain ⟨r, q', g1, g2, s1, s2, ne, r1, r2, q1, q2⟩ := h.1.at
  refine ⟨by rw [hf 155 (by omega) (by omega)]; exact k1, K, k2, fun r' hr' j hj => ?_⟩
  rw [g1] at hr'
  cases hr'
  rw [hf r (by omega) (by omega)]
  exact k3 r g1 j hj
theorem XQ.ans {S : St} {t : Nat} {y r : Int32} {iv a : zI} {rv b : zR} {lv : zJ} (e : y = r) (h : CB S iv) (hT : zTop b) (hc : Cq S a b) (hb : ∀ p, p ≠ 155 → b p = rv p) (hf : ∀ p, p < 155 ∨ 157 < p → a p = iv p) : XQ (sT S t) r iv rv lv y (zu (zu a 0 12 (nI t)) 0 14 (-1)) b lv :=
  ⟨e, hT, rfl, (h.fr (fun p hp => hf p (by omega))).tr, hc.fr (w' := zu (zu a 0 12 (nI t)) 0 14 (-1)) (fun p p1 _ => by rw [zu_row (by omega), zu_row (by omega)]), hb, fun p hp => by rw [zu_row (by omega), zu_row (by omega)]; exact hf p (by omega)⟩
theorem Cq.pre {S : St} {s : Sn} {w : zI} {rv : zR} (h : Cq S w rv) (e : S.2.1 = some s) : w 155 3 = -1 ∨ ∃ u, u ≤ ver S ∧ w 155 3 = nI u ∧ (u = ver S → KW w rv s s.1) := h.2.elim Or.inl (fun ⟨v, h1, h2, h3⟩ => Or.inr ⟨v, h1, h2, fun q => h3 q s e⟩)
theorem Cq.new {S : St} {s : Sn} {a : zI} {b : zR} (e : S.2.1 = some s) (h0 : KR b) (h1 : a 155 3 = nI (ver S)) (h2 : KW a b s s.1) : Cq S a b := ⟨h0, Or.inr ⟨ver S, Nat.le_refl _, h1, fun _ s' e' => by
  rw [e] at e'
  cases e'
  exact h2⟩⟩
def F_ways (S : St) (x : Int32) : Int32 × St := match S.2.1 with
  | none => rf S 1
  | some s => if x < 0 ∨ 99999 < x then rf S 2 else ok S (nI (lk (fun t => ssum s t == x.toNatClampNeg) (2 ^ s.1)))
def F_chosen (S : St) (x : Int32) : Int32 × St := match S.2.1 with
  | none => rf S 1
  | some s => if x < 0 ∨ 99999 < x then rf S 2 else ok S (chI (chA s x.toNatClampNeg (2 ^ s.1)))
def F_sums (S : St) : Int32 × St := match S.2.1 with
  | none => rf S 1
  | some s => ok S (nI (lk (isn (ssum s)) (2 ^ s.1)))
def F_nearest (S : St) (x : Int32) : Int32 × St := match S.2.1 with
  | none => rf S 1
  | some s => if x < 0 ∨ 99999 < x then rf S 2 else ok S (nI (nrA s x.toNatClampNeg (2 ^ s.1)))
theorem of_s {x : Int32} (hx : ¬ (x < 0 ∨ 99999 < x)) : ∃ j : Nat, j ≤ 99999 ∧ x = nI j := by
  rcases pk_ix x (show 100000 < 2 ^ 31 by omega) with q | q | ⟨j, hj, rfl⟩
  · exact absurd (Or.inl q) hx
  · exact absurd (Or.inr (Int32.lt_of_lt_of_le (by decide) q)) hx
  · exact ⟨j, by omega, rfl⟩
theorem x_ways {d : Nat} {S : St} {x : Int32} {iv : zI} {rv : zR} {lv : zJ} (hT : zTop rv) (h : CB S iv) (hv : VT S) (hq : Cq S iv rv) (hk : ver S < 2 ^ 31) : Ci mX10_ways (d + 9) [.ref 0, .int x] iv rv lv (XQ (F_ways S x).2 (F_ways S x).1 iv rv lv) := by
  refine eX10_ways x (bX10_ways_0 x hT (zcall (x_noText hT) hT (zcall (x_noSuchSum hT) hT ?_)))
  rw [h.nt hv]
  have hn := h.2.1
  have hver : iv 0 3 = nI (ver S) := h.2.2.2.2.2.2
  unfold F_ways
  cases e : S.2.1 with
  | none => exact zcall (x_refused (a := true) hT) hT ⟨fun q => absurd (show (1 : Int32) = 0 from q) (by decide), fun _ => XQ.ans (t := 1) rfl h hT hq (fun _ _ => rfl) (fun _ _ => rfl)⟩
  | some s =>
    rw [e] at hn
    obtain ⟨cs, c12⟩ := hn
    have vs := hv.2.1 s e
    by_cases hx : x < 0 ∨ 99999 < x
    · simp only [hx, decide_true, if_true]
      exact zcall (x_refused (a := false) (b := true) hT) hT ⟨fun q => absurd (show (1 : Int32) = 0 from q) (by decide), fun _ => XQ.ans (t := 2) rfl h hT hq (fun _ _ => rfl) (fun _ _ => rfl)⟩
    · simp only [hx, decide_false, if_false]
      obtain ⟨j, j1, rfl⟩ := of_s hx
      refine zcall (x_refused (a := false) (b := false) hT) hT ⟨fun _ => ?_, fun q => absurd rfl q⟩
      rw [nI_clamp (by omega)]
      simp only [Bool.false_eq_true, if_false]
      rw [hver]
      refine zcallV (x_prepQ (d := d + 7) hT cs vs hq.1 hk (hq.pre e)) ?_
      rintro a b _ ⟨g1, g2, g3, rfl, g4, g5, g6⟩
      obtain ⟨K, r, kx⟩ := KX.of g2 g4
      exact ⟨g1, zcall (x_setsWith (d := d + 6) g1 vs kx (by omega)) g1 (zcall (x_answer g1) g1 (XQ.ans (t := 0) rfl h g1 (Cq.new e g2 g5 g4) g3 g6))⟩
theorem x_chosen {d : Nat} {S : St} {x : Int32} {iv : zI} {rv : zR} {lv : zJ} (hT : zTop rv) (h : CB S iv) (hv : VT S) (hq : Cq S iv rv) (hk : ver S < 2 ^ 31) : Ci mX10_chosen (d + 9) [.ref 0, .int x] iv rv lv (XQ (F_chosen S x).2 (F_chosen S x).1 iv rv lv) := by
  refine eX10_chosen x (bX10_chosen_0 x hT (zcall (x_noText hT) hT (zcall (x_noSuchSum hT) hT ?_)))
  rw [h.nt hv]
  have hn := h.2.1
  have hver : iv 0 3 = nI (ver S) := h.2.2.2.2.2.2
  unfold F_chosen
  cases e : S.2.1 with
  | none => exact zcall (x_refused (a := true) hT) hT ⟨fun q => absurd (show (1 : Int32) = 0 from q) (by decide), fun _ => XQ.ans (t := 1) rfl h hT hq (fun _ _ => rfl) (fun _ _ => rfl)⟩
  | some s =>
    rw [e] at hn
    obtain ⟨cs, c12⟩ := hn
    have vs := hv.2.1 s e
    by_cases hx : x < 0 ∨ 99999 < x
    · simp only [hx, decide_true, if_true]
      exact zcall (x_refused (a := false) (b := true) hT) hT ⟨fun q => absurd (show (1 : Int32) = 0 from q) (by decide), fun _ => XQ.ans (t := 2) rfl h hT hq (fun _ _ => rfl) (fun _ _ => rfl)⟩
    · simp only [hx, decide_false, if_false]
      obtain ⟨j, j1, rfl⟩ := of_s hx
      refine zcall (x_refused (a := false) (b := false) hT) hT ⟨fun _ => ?_, fun q => absurd rfl q⟩
      rw [nI_clamp (by omega)]
      simp only [Bool.false_eq_true, if_false]
      rw [hver]
      refine zcallV (x_prepQ (d := d + 7) hT cs vs hq.1 hk (hq.pre e)) ?_
      rintro a b _ ⟨g1, g2, g3, rfl, g4, g5, g6⟩
      obtain ⟨K, r, kx⟩ := KX.of g2 g4
      exact ⟨g1, zcall (x_leastSetWith (d := d + 6) g1 vs kx (by omega)) g1 (zcall (x_answer g1) g1 (XQ.ans (t := 0) rfl h g1 (Cq.new e g2 g5 g4) g3 g6))⟩
theorem x_nearest {d : Nat} {S : St} {x : Int32} {iv : zI} {rv : zR} {lv : zJ} (hT : zTop rv) (h : CB S iv) (hv : VT S) (hq : Cq S iv rv) (hk : ver S < 2 ^ 31) : Ci mX10_nearest (d + 9) [.ref 0, .int x] iv rv lv (XQ (F_nearest S x).2 (F_nearest S x).1 iv rv lv) := by
  refine eX10_nearest x (bX10_nearest_0 x hT (zcall (x_noText hT) hT (zcall (x_noSuchSum hT) hT ?_)))
  rw [h.nt hv]
  have hn := h.2.1
  have hver : iv 0 3 = nI (ver S) := h.2.2.2.2.2.2
  unfold F_nearest
  cases e : S.2.1 with
  | none => exact zcall (x_refused (a := true) hT) hT ⟨fun q => absurd (show (1 : Int32) = 0 from q) (by decide), fun _ => XQ.ans (t := 1) rfl h hT hq (fun _ _ => rfl) (fun _ _ => rfl)⟩
  | some s =>
    rw [e] at hn
    obtain ⟨cs, c12⟩ := hn
    have vs := hv.2.1 s e
    by_cases hx : x < 0 ∨ 99999 < x
    · simp only [hx, decide_true, if_true]
      exact zcall (x_refused (a := false) (b := true) hT) hT ⟨fun q => absurd (show (1 : Int32) = 0 from q) (by decide), fun _ => XQ.ans (t := 2) rfl h hT hq (fun _ _ => rfl) (fun _ _ => rfl)⟩
    · simp only [hx, decide_false, if_false]
      obtain ⟨j, j1, rfl⟩ := of_s hx
      refine zcall (x_refused (a := false) (b := false) hT) hT ⟨fun _ => ?_, fun q => absurd rfl q⟩
      rw [nI_clamp (by omega)]
      simp only [Bool.false_eq_true, if_false]
      rw [hver]
      refine zcallV (x_prepQ (d := d + 7) hT cs vs hq.1 hk (hq.pre e)) ?_
      rintro a b _ ⟨g1, g2, g3, rfl, g4, g5, g6⟩
      obtain ⟨K, r, kx⟩ := KX.of g2 g4
      exact ⟨g1, zcall (x_sumNextTo (d := d + 6) g1 vs kx (by omega)) g1 (zcall (x_answer g1) g1 (XQ.ans (t := 0) rfl h g1 (Cq.new e g2 g5 g4) g3 g6))⟩
theorem x_sums {d : Nat} {S : St} {iv : zI} {rv : zR} {lv : zJ} (hT : zTop rv) (h : CB S iv) (hv : VT S) (hq : Cq S iv rv) (hk : ver S < 2 ^ 31) : Ci mX10_sums (d + 9) [.ref 0] iv rv lv (XQ (F_sums S).2 (F_sums S).1 iv rv lv) := by
  refine eX10_sums (bX10_sums_0 hT (zcall (x_noText hT) hT ?_))
  rw [h.nt hv]
  have hn := h.2.1
  have hver : iv 0 3 = nI (ver S) := h.2.2.2.2.2.2
  unfold F_sums
  cases e : S.2.1 with
  | none => exact ⟨fun q => absurd (show (1 : Int32) = 0 from q) (by decide), fun _ => zcall (x_refuse hT) hT (XQ.ans (t := 1) rfl h hT hq (fun _ _ => rfl) (fun _ _ => rfl))⟩
  | some s =>
    rw [e] at hn
    obtain ⟨cs, c12⟩ := hn
    have vs := hv.2.1 s e
    rw [hver]
    refine ⟨fun _ => zcallV (x_prepQ (d := d + 7) hT cs vs hq.1 hk (hq.pre e)) ?_, fun q => absurd rfl q⟩
    rintro a b _ ⟨g1, g2, g3, rfl, g4, g5, g6⟩
    obtain ⟨K, r, kx⟩ := KX.of g2 g4
    exact ⟨g1, zcall (x_unlikeSums (d := d + 7) g1 vs kx) g1 (zcall (x_answer g1) g1 (XQ.ans (t := 0) rfl h g1 (Cq.new e g2 g5 g4) g3 g6))⟩
