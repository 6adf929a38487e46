theorem CS.f8 {w w' : zI} {s : Sn} (h : CS w 8 s) (hf : ∀ p, p < 13 → w' p = w p) : CS w' 8 s := by
  unfold CS
  rw [hf 8 (by omega), hf (8 + 1) (by omega), hf (8 + 2) (by omega), hf (8 + 3) (by omega)]
  exact h
theorem mk_cg {p q : Nat → Bool} {n : Nat} (h : ∀ j, j < n → p j = q j) : mk p n = mk q n := mk_congr h
theorem mk_up {ρ : Nat → Nat} {i h h' : Nat} : mk (fun j => up ρ i h j == h') (i + 1) = mk (fun j => ρ j == h') i ||| wt (h == h') (2 ^ i) := by
  rw [mk_s]
  have e1 : mk (fun j => up ρ i h j == h') i = mk (fun j => ρ j == h') i := mk_cg (fun j hj => by
    show (up ρ i h j == h') = (ρ j == h')
    rw [up_ne (by omega)])
  rw [e1]
  show _ ||| wt (up ρ i h i == h') (2 ^ i) = _
  rw [up_eq]
theorem or_xor {M i : Nat} (h : M < 2 ^ i) : (M ||| 2 ^ i) ^^^ 2 ^ i = M := Nat.eq_of_testBit_eq (fun j => by
  rw [Nat.testBit_xor, Nat.testBit_or, Nat.testBit_two_pow]
  by_cases e : i = j
  · subst e
    rw [decide_eq_true rfl, Nat.testBit_lt_two_pow h]
    rfl
  · rw [decide_eq_false e, Bool.or_false, Bool.xor_false])
theorem bI_orB (a b : Bool) : bI a ||| bI b = bI (a || b) := by cases a <;> cases b <;> rfl
theorem sm_up {v : Nat → Nat} {i n : Nat} (h : i < n) : sm v i + v i ≤ sm v n := by
  have : ∀ m, sm v (i + 1) ≤ sm v (i + 1 + m) := fun m => by
    induction m with
    | zero => exact Nat.le_refl _
    | succ m ih => exact Nat.le_trans ih (Nat.le_add_right _ _)
  have := this (n - (i + 1))
  rw [show i + 1 + (n - (i + 1)) = n by omega] at this
  exact this
theorem nlh_no {s : Sn} {ρ : Nat → Nat} {i h : Nat} (q : nlh s ρ i h = true) : (∀ j, j < s.1 → kp s j ≠ h + 1) ∧ ∀ j, j < i → ρ j ≠ h := by
  unfold nlh at q
  rw [Bool.and_eq_true, Bool.not_eq_true', Bool.not_eq_true'] at q
  refine ⟨fun j hj z => ?_, fun j hj z => ?_⟩
  · have := (exB_iff (p := fun i => kp s i == h + 1) s.1).mpr ⟨j, hj, by show (kp s j == h + 1) = true; rw [z, beq_self_eq_true]⟩
    rw [show nmd s h = exB (fun i => kp s i == h + 1) s.1 from rfl, this] at q
    cases q.2
  · have := (exB_iff (p := fun j => ρ j == h) i).mpr ⟨j, hj, by show (ρ j == h) = true; rw [z, beq_self_eq_true]⟩
    rw [this] at q
    cases q.1
theorem x_place {s : Sn} {k o : Nat} {cm : Bool} {rv : zR} {lv : zJ} (hT : zTop rv) (ho : o ∈ zPts) (vs : VS s) (hk1 : 2 ≤ k) (hk : k ≤ 4) (hkk : ∀ i, i < s.1 → kp s i ≤ k) : ∀ (r d W : Nat) (ρ : Nat → Nat) (a : Ac) (w : zI), r ≤ s.1 → CS w 8 s → PW w o s k cm (s.1 - r) ρ → AC w o s.1 cm a →
    Cv mX5_place (d + 2 * r + 4) [.ref o, .ref 8, .int (nI (s.1 - r)), .int (nI W), .int (nI (sm s.2.2.1 s.1 - sm s.2.2.1 (s.1 - r)))] w rv lv (fun u b c' => b = rv ∧ c' = lv ∧ PW u o s k cm (s.1 - r) ρ ∧ AC u o s.1 cm (cb a (sc W (tq s k cm r ρ))) ∧ FO w u o cm) := by
  have po := ptS o ho
  have vn := vs.1
  intro r
  induction r with
  | zero =>
    intro d W ρ a w hr cs hP hA
    rw [Nat.sub_zero] at *
    refine eX5_place o 8 _ _ _ (bX5_place_0 o 8 _ _ _ hT ho (by decide) ⟨fun z => absurd z (by rw [cs.1]; exact fun q => by rw [nI_ltI (by omega) (by omega)] at q; omega), fun _ => zcallV (x_takeRow (d := d + 1) hT ho vs hk1 hk hP hA) ?_⟩)
    rintro u _ _ ⟨rfl, rfl, g1, g2, g3⟩
    exact ⟨hT, rfl, rfl, g1, g2, g3⟩
  | succ r ih =>
    intro d W ρ a w hr cs hP hA
    have hi : s.1 - (r + 1) < s.1 := by omega
    have ei : s.1 - r = s.1 - (r + 1) + 1 := by omega
    have er : s.1 - (s.1 - (r + 1)) = r + 1 := by omega
    have etq : tq s k cm (r + 1) ρ = fdq (okR s ρ (s.1 - (r + 1))) (fun h => tq s k cm r (up ρ (s.1 - (r + 1)) h)) k := rfl
    have hX : ∀ (u : zI) (d : Nat), AC u o s.1 cm a → PW u o s k cm (s.1 - (r + 1)) ρ → cm = false → ∃ b : Bool, Ci mX5_hopeful (d + 2) [.ref o, .int (nI (sm s.2.2.1 s.1 - sm s.2.2.1 (s.1 - (r + 1))))] u rv lv (zP (bI b) u rv lv) ∧ (b = false → ∀ w, cb a (sc w (tq s k cm (r + 1) ρ)) = a) := by
      intro u d h1 h2 h3
      subst h3
      have := x_hopeful (d := d) (lv := lv) hT ho vs hk1 hk (by omega) h2 h1
      rw [er] at this
      exact this
    generalize hI : s.1 - (r + 1) = i at *
    have vi := vs.2.2.1 i hi
    have su := sm_up (v := s.2.2.1) hi
    have c9 : ∀ u : zI, CS u 8 s → u (8 + 1) i = nI (s.2.2.1 i) := fun u c => c.2.2.1 i hi
    rw [show d + 2 * (r + 1) + 4 = d + 2 * r + 4 + 1 + 1 by omega]
    -- each heap
    have each : Cv mX5_placeInEach (d + 2 * r + 4 + 1) [.ref o, .ref 8, .int (nI i), .int (nI W), .int (nI (sm s.2.2.1 s.1 - sm s.2.2.1 i))] w rv lv (fun u b c' => b = rv ∧ c' = lv ∧ PW u o s k cm i ρ ∧ AC u o s.1 cm (cb a (sc W (tq s k cm (r + 1) ρ))) ∧ FO w u o cm) := by
      refine eX5_placeInEach o 8 _ _ _ (bX5_placeInEach_0 o 8 _ _ _ hT ho (by decide) ?_)
      rw [nI_clamp (by omega), c9 w cs]
      refine ⟨vp_in_nI (by omega) (by decide), ?_⟩
      have key := zfor (c := k) (P := fun h => ∀ u : zI, CS u 8 s → PW u o s k cm i ρ → AC u o s.1 cm (cf (okR s ρ i) (nlh s ρ i) (fun h => tq s k cm r (up ρ i h)) (lk (nlh s ρ i) k) W a h).2 → FO w u o cm → Zv mX5_placeInEach (d + 2 * r + 4 + 1) 14 [some (.ref o), some (.ref 8), some (.int (nI i)), some (.int (nI W)), some (.int (nI (sm s.2.2.1 s.1 - sm s.2.2.1 i))), some (.int (nI (s.2.2.1 i))), some (.int (bI (cf (okR s ρ i) (nlh s ρ i) (fun h => tq s k cm r (up ρ i h)) (lk (nlh s ρ i) k) W a h).1)), some (.int (nI h)), none, none] [] u rv lv (fun u b c' => b = rv ∧ c' = lv ∧ PW u o s k cm i ρ ∧ AC u o s.1 cm (cb a (sc W (tq s k cm (r + 1) ρ))) ∧ FO w u o cm)) ?_ ?_
      · exact key 0 (by omega) w cs hP hA FO.refl
      · intro u u1 u2 u3 u4
        refine bX5_placeInEach_14 o 8 _ _ _ _ _ _ hT ho (by decide) ⟨fun _ => ⟨rfl, rfl, u2, ?_, u4⟩, fun z => absurd (by rw [u2.1.1]; exact nI_le (by omega) (by omega)) z⟩
        rw [cf_ok (fr := kp s i == 0) (fun h hh q => ?_) (fun h h' hh hh' q q' => ?_) hA.1] at u3
        · rw [etq]
          exact u3
        · have n1 := nlh_no q
          unfold okR
          have e1 : foe s ρ i h = false := by
            cases z : foe s ρ i h with
            | false => rfl
            | true =>
              obtain ⟨j, hj, y⟩ := (exB_iff _).mp z
              have y : (ap s i j && (ρ j == h)) = true := y
              rw [Bool.and_eq_true, beq_iff_eq] at y
              exact absurd y.2 (n1.2 j hj)
          rw [e1, beq_eq_false_iff_ne.mpr (n1.1 i hi), Bool.or_false, Bool.not_false, Bool.and_true]
        · have n1 := nlh_no q
          have n2 := nlh_no q'
          have := tq_like (s := s) (k := k) (a := h) (b := h') (r := r) (cm := cm) (ρ := ρ) hh hh' (fun j hj => ⟨n1.1 j hj, n2.1 j hj⟩) (by omega) (fun j hj => ⟨n1.2 j (by omega), n2.2 j (by omega)⟩)
          rw [hI] at this
          exact this
      · intro h hh ihP u u1 u2 u3 u4
        generalize hcf : cf (okR s ρ i) (nlh s ρ i) (fun h => tq s k cm r (up ρ i h)) (lk (nlh s ρ i) k) W a h = Z at u3 ⊢
        have ecf : cf (okR s ρ i) (nlh s ρ i) (fun h => tq s k cm r (up ρ i h)) (lk (nlh s ρ i) k) W a (h + 1) = if okR s ρ i h && !(nlh s ρ i h && Z.1) then (Z.1 || nlh s ρ i h, cb Z.2 (sc (W * (if nlh s ρ i h then lk (nlh s ρ i) k else 1)) (tq s k cm r (up ρ i h)))) else Z := by
          rw [cf, hcf]
        have enter : ∀ (y y0 : Int32), okR s ρ i h = true → (nlh s ρ i h && Z.1) = false → y = nI (if nlh s ρ i h then lk (nlh s ρ i) k else 1) → y0 = bI (Z.1 || nlh s ρ i h) → Zv mX5_placeInEach (d + 2 * r + 4 + 1) 82 [some (.ref o), some (.ref 8), some (.int (nI i)), some (.int (nI W)), some (.int (nI (sm s.2.2.1 s.1 - sm s.2.2.1 i))), some (.int (nI (s.2.2.1 i))), some (.int (bI Z.1)), some (.int (nI h)), some (.int (bI (nlh s ρ i h))), some (.int y)] [.int y0] u rv lv (fun u b c' => b = rv ∧ c' = lv ∧ PW u o s k cm i ρ ∧ AC u o s.1 cm (cb a (sc W (tq s k cm (r + 1) ρ))) ∧ FO w u o cm) := by
          intro y y0 k1 k2 k3 k4
          rw [k1, k2, Bool.not_false, Bool.and_true, if_pos rfl] at ecf
          generalize hLk : (if nlh s ρ i h then lk (nlh s ρ i) k else 1) = Lk at k3 ecf
          subst k3 k4
          rw [ecf] at ihP
          obtain ⟨⟨p1, p2, p3', p4⟩, p5, p6⟩ := u2
          refine bX5_placeInEach_82 o 8 _ _ _ _ _ _ _ _ _ hT ho (by decide) ?_
          rw [nI_clamp (show i < 2 ^ 31 by omega), nI_clamp (show h < 2 ^ 31 by omega), bI_1shl (by omega), nI_1, nI_1, pk_mul, pk_sub (show s.2.2.1 i ≤ sm s.2.2.1 s.1 - sm s.2.2.1 i by omega)]
          refine ⟨vp_in_nI (by omega) (by decide), fun v1 e1 => ⟨vp_in_nI (by omega) (by decide), fun v2 e2 v3 e3 => ?_⟩⟩
          rw [e1, zu_row (by omega), (p5 h (by omega)).1, nI_add] at e2
          rw [show v2 (o + 4) h = nI (mk (fun j => ρ j == h) i) by rw [e2, zu_row (by omega), zu_row (by omega)]; exact (p5 h (by omega)).2, bI_or] at e3
          have r3 : ∀ p, p ≠ o + 2 → p ≠ o + 3 → p ≠ o + 4 → v3 p = u p := fun p a1 a2 a3 => by rw [e3, zu_row a3, e2, zu_row a2, zu_row a1]
          have P3 : PW v3 o s k cm (i + 1) (up ρ i h) := by
            refine ⟨?_, fun x hx => ⟨?_, ?_⟩, fun z j hj => ?_⟩
            · rw [r3 o (by omega) (by omega) (by omega)]
              exact ⟨p1, p2, p3', p4⟩
            · rw [hsum_up, e3, zu_row (by omega), e2]
              by_cases z : x = h
              · rw [z, zu_eq, beq_self_eq_true]
                rfl
              · rw [zu_k z, zu_row (by omega), (p5 x hx).1, beq_eq_false_iff_ne.mpr (fun y => z y.symm)]
                rfl
            · rw [mk_up, e3]
              by_cases z : x = h
              · rw [z, zu_eq, beq_self_eq_true]
                rfl
              · rw [zu_k z, e2, zu_row (by omega), zu_row (by omega), (p5 x hx).2, beq_eq_false_iff_ne.mpr (fun y => z y.symm)]
                show _ = nI (_ ||| 0)
                rw [Nat.or_zero]
            · rw [e3, zu_row (by omega), e2, zu_row (by omega)]
              by_cases y : j = i
              · rw [y, zu_eq, up_eq]
                exact ⟨rfl, hh⟩
              · rw [zu_k y, up_ne y]
                exact p6 z j (by omega)
          have A3 : AC v3 o s.1 cm Z.2 := u3.fr (r3 o (by omega) (by omega) (by omega)) (r3 _ (by omega) (by omega) (by omega))
          have F3 : FO w v3 o cm := u4.trans (FO.rows r3)
          have C3 : CS v3 8 s := cs.f8 (fun p hp => F3.1 p (by omega))
          have call := ih d (W * Lk) (up ρ i h) Z.2 v3 (by omega) C3 (by rw [ei]; exact P3) A3
          rw [ei] at call
          rw [show sm s.2.2.1 s.1 - sm s.2.2.1 i - s.2.2.1 i = sm s.2.2.1 s.1 - sm s.2.2.1 (i + 1) by rw [sm]; omega]
          refine zcallV call ?_
          rintro v4 rv1 lv1 ⟨q1, q2, t1, t2, t3⟩
          have q1 := q1.symm
          have q2 := q2.symm
          subst q1 q2
          refine ⟨hT, fun v5 e5 v6 e6 => ?_⟩
          obtain ⟨⟨m1, m2, m3, m4⟩, m5, m6⟩ := t1
          have ml := mk_lt (fun j => ρ j == h) i
          have b5 : v4 (o + 4) h = nI (mk (fun j => ρ j == h) i ||| 2 ^ i) := by
            rw [(m5 h (by omega)).2, mk_up, beq_self_eq_true]
            rfl
          rw [b5, bI_xor, or_xor ml] at e5
          have b6 : v5 (o + 3) h = nI (hsum i s.2.2.1 ρ h + s.2.2.1 i) := by
            rw [e5, zu_row (by omega), (m5 h (by omega)).1, hsum_up, beq_self_eq_true]
            rfl
          rw [b6, pk_sub (by omega), Nat.add_sub_cancel] at e6
          have r6 : ∀ p, p ≠ o + 3 → p ≠ o + 4 → v6 p = v4 p := fun p a2 a3 => by rw [e6, zu_row a2, e5, zu_row a3]
          have F6 : FO w v6 o cm := (F3.trans t3).trans (FO.rows (fun p _ a2 a3 => r6 p a2 a3))
          refine ihP v6 (cs.f8 (fun p hp => F6.1 p (by omega))) ⟨?_, fun x hx => ⟨?_, ?_⟩, fun z j hj => ?_⟩ (t2.fr (r6 o (by omega) (by omega)) (r6 _ (by omega) (by omega))) F6
          · rw [r6 o (by omega) (by omega)]
            exact ⟨m1, m2, m3, m4⟩
          · rw [e6]
            by_cases z : x = h
            · rw [z, zu_eq]
            · rw [zu_k z, e5, zu_row (by omega), (m5 x hx).1, hsum_up, beq_eq_false_iff_ne.mpr (fun y => z y.symm)]
              rfl
          · rw [e6, zu_row (by omega), e5]
            by_cases z : x = h
            · rw [z, zu_eq]
            · rw [zu_k z, (m5 x hx).2, mk_up, beq_eq_false_iff_ne.mpr (fun y => z y.symm)]
              show nI (_ ||| 0) = _
              rw [Nat.or_zero]
          · rw [r6 _ (by omega) (by omega)]
            have := m6 z j (by omega)
            rw [up_ne (by omega)] at this
            exact this
        refine bX5_placeInEach_14 o 8 _ _ _ _ _ _ hT ho (by decide) ⟨fun z => absurd z (by rw [u2.1.1]; exact nI_ge hh (by omega)), fun _ => zcall (x_isNameless hT ho (by omega) (by omega) u2) hT (zcall (x_mayLie hT ho vs u1 hi (by omega) u2) hT ?_)⟩
        have skip : (okR s ρ i h && !(nlh s ρ i h && Z.1)) = false → Zv mX5_placeInEach (d + 2 * r + 4 + 1) 14 [some (.ref o), some (.ref 8), some (.int (nI i)), some (.int (nI W)), some (.int (nI (sm s.2.2.1 s.1 - sm s.2.2.1 i))), some (.int (nI (s.2.2.1 i))), some (.int (bI Z.1)), some (.int (nI (h + 1))), none, none] [] u rv lv (fun u b c' => b = rv ∧ c' = lv ∧ PW u o s k cm i ρ ∧ AC u o s.1 cm (cb a (sc W (tq s k cm (r + 1) ρ))) ∧ FO w u o cm) := by
          intro z
          rw [z, if_neg (by simp)] at ecf
          rw [ecf] at ihP
          exact ihP u u1 u2 u3 u4
        rw [nI_1]
        cases q1 : okR s ρ i h with
        | false => exact ⟨fun _ => skip (by rw [q1]; rfl), fun z => absurd rfl z⟩
        | true =>
          refine ⟨fun z => absurd (show (1 : Int32) = 0 from z) (by decide), fun _ => ?_⟩
          cases q2 : nlh s ρ i h with
          | false =>
            refine ⟨fun _ => bX5_placeInEach_52 o 8 _ _ _ _ _ _ _ hT ho (by decide) ⟨fun _ => ?_, fun z => absurd rfl z⟩, fun z => absurd rfl z⟩
            cases q3 : Z.1 with
            | true =>
              refine ⟨fun _ => ?_, fun z => absurd (show (1 : Int32) = 0 from z) (by decide)⟩
              have := enter 1 1 q1 (by rw [q2]; rfl) (by rw [q2]; rfl) (by rw [q3]; rfl)
              rw [q2, q3] at this
              exact this
            | false =>
              refine ⟨fun z => absurd rfl z, fun _ => ⟨fun _ => ?_, fun z => absurd rfl z⟩⟩
              have := enter 1 0 q1 (by rw [q2]; rfl) (by rw [q2]; rfl) (by rw [q2, q3]; rfl)
              rw [q2, q3] at this
              exact this
          | true =>
            refine ⟨fun z => absurd (show (1 : Int32) = 0 from z) (by decide), fun _ => ?_⟩
            cases q3 : Z.1 with
            | true =>
              refine ⟨fun _ => ?_, fun z => absurd (show (1 : Int32) = 0 from z) (by decide)⟩
              have := skip (by rw [q1, q2, q3]; rfl)
              rw [q3] at this
              exact this
            | false =>
              refine ⟨fun z => absurd rfl z, fun _ => bX5_placeInEach_52 o 8 _ _ _ _ _ _ _ hT ho (by decide) ⟨fun z => absurd (show (1 : Int32) = 0 from z) (by decide), fun _ => zcall (x_namelessHeaps (d := d + 2 * r + 3) hT ho (by omega) hk u2) hT ⟨fun z => absurd rfl z, fun _ => ⟨fun z => absurd (show (1 : Int32) = 0 from z) (by decide), fun _ => ?_⟩⟩⟩⟩
              have := enter (nI (lk (nlh s ρ i) k)) 1 q1 (by rw [q2, q3]; rfl) (by rw [q2]; rfl) (by rw [q2, q3]; rfl)
              rw [q2, q3] at this
              exact this
    -- which way
    refine eX5_place o 8 _ _ _ (bX5_place_0 o 8 _ _ _ hT ho (by decide) ⟨fun _ => ?_, fun z => absurd (by rw [cs.1]; exact nI_lt hi (by omega)) z⟩)
    have c10 : w o 10 = bI cm := hP.1.2.2.2
    rw [c10]
    have fortyfour : Zv mX5_place (d + 2 * r + 4 + 1 + 1) 44 [some (.ref o), some (.ref 8), some (.int (nI i)), some (.int (nI W)), some (.int (nI (sm s.2.2.1 s.1 - sm s.2.2.1 i)))] [] w rv lv (fun u b c' => b = rv ∧ c' = lv ∧ PW u o s k cm i ρ ∧ AC u o s.1 cm (cb a (sc W (tq s k cm (r + 1) ρ))) ∧ FO w u o cm) := by
      refine bX5_place_44 o 8 _ _ _ hT ho (by decide) ?_
      rw [c10]
      refine ⟨fun _ => zcallV each (fun u b c' h => ⟨h.1 ▸ hT, h⟩), fun z => ?_⟩
      have z : cm = false := (bI_0 _).mp z
      obtain ⟨b, hb1, hb2⟩ := hX w (d + 2 * r + 3) hA hP z
      refine zcall hb1 hT ?_
      cases b with
      | false =>
        refine ⟨fun _ => ⟨rfl, rfl, hP, ?_, FO.refl⟩, fun z => absurd rfl z⟩
        rw [hb2 rfl]
        exact hA
      | true => exact ⟨fun z => absurd (show (1 : Int32) = 0 from z) (by decide), fun _ => zcallV each (fun u b c' h => ⟨h.1 ▸ hT, h⟩)⟩
    refine ⟨fun _ => fortyfour, fun z => ?_⟩
    have z : cm = true := (bI_n0 _).mp z
    subst z
    have c11 : w (8 + 3) i = nI (mk (ap s i) s.1) := cs.2.2.2.2 i hi
    have ml := mk_lt10 (p := ap s i) vn.2
    rw [nI_clamp (show i < 2 ^ 31 by omega), c11, z_0, nI_eq (by omega) (by omega)]
    refine ⟨vp_in_nI (by omega) (by decide), fun _ => fortyfour, fun q => ?_⟩
    have nf : ∀ t, ap s i t = false := fun t => by
      cases x : ap s i t with
      | false => rfl
      | true =>
        have lt := (apb_lt vs.2.2.2.2.1 x).2.1
        have := mk_bit (ap s i) t s.1
        rw [q, Nat.zero_testBit, x, decide_eq_true lt] at this
        cases this
    have c12 : w (8 + 2) i = kpI (kp s i) := cs.2.2.2.1 i hi
    have kb := vs.2.2.2.1 i hi
    have hany : p3 (tq s k true (r + 1) ρ) = p3 (sc (if kp s i = 0 then k else 1) (tq s k true r (up ρ i 9))) := by
      have := tq_any vs (k := k) (r := r) (ρ := ρ) (by omega) (by rw [hI]; exact nf) (by rw [hI]; exact hkk i hi)
      rw [hI] at this
      rcases this with h | h
      · exact h
      · omega
    have any : Cv mX5_placeAnywhere (d + 2 * r + 4 + 1) [.ref o, .ref 8, .int (nI i), .int (nI W), .int (nI (sm s.2.2.1 s.1 - sm s.2.2.1 i))] w rv lv (fun u b c' => b = rv ∧ c' = lv ∧ PW u o s k true i ρ ∧ AC u o s.1 true (cb a (sc W (tq s k true (r + 1) ρ))) ∧ FO w u o true) := by
      refine eX5_placeAnywhere o 8 _ _ _ (bX5_placeAnywhere_0 o 8 _ _ _ hT ho (by decide) ?_)
      have st : ∀ y : Int32, y = nI (if kp s i = 0 then k else 1) → Zv mX5_placeAnywhere (d + 2 * r + 4 + 1) 19 [some (.ref o), some (.ref 8), some (.int (nI i)), some (.int (nI W)), some (.int (nI (sm s.2.2.1 s.1 - sm s.2.2.1 i))), none] [.int y] w rv lv (fun u b c' => b = rv ∧ c' = lv ∧ PW u o s k true i ρ ∧ AC u o s.1 true (cb a (sc W (tq s k true (r + 1) ρ))) ∧ FO w u o true) := by
        intro y ey
        subst ey
        generalize hch : (if kp s i = 0 then k else 1) = ch at hany
        refine bX5_placeAnywhere_19 o 8 _ _ _ _ hT ho (by decide) ?_
        rw [nI_clamp (show i < 2 ^ 31 by omega), c9 w cs, nI_1, pk_mul, pk_sub (show s.2.2.1 i ≤ sm s.2.2.1 s.1 - sm s.2.2.1 i by omega), show sm s.2.2.1 s.1 - sm s.2.2.1 i - s.2.2.1 i = sm s.2.2.1 s.1 - sm s.2.2.1 (i + 1) by rw [sm]; omega]
        obtain ⟨pa, p5, p6⟩ := hP
        have e3 : ∀ x, x < 4 → hsum (i + 1) s.2.2.1 (up ρ i 9) x = hsum i s.2.2.1 ρ x := fun x hx => by
          rw [hsum_up, beq_eq_false_iff_ne.mpr (by omega)]
          rfl
        have e4 : ∀ x, x < 4 → mk (fun j => up ρ i 9 j == x) (i + 1) = mk (fun j => ρ j == x) i := fun x hx => by
          rw [mk_up, beq_eq_false_iff_ne.mpr (by omega)]
          exact Nat.or_zero _
        have P3 : PW w o s k true (i + 1) (up ρ i 9) := ⟨pa, fun x hx => by rw [e3 x hx, e4 x hx]; exact p5 x hx, fun z => (by cases z)⟩
        have call := ih d (W * ch) (up ρ i 9) a w (by omega) cs (by rw [ei]; exact P3) hA
        rw [ei] at call
        refine ⟨vp_in_nI (by omega) (by decide), zcallV call ?_⟩
        rintro u _ _ ⟨rfl, rfl, t1, t2, t3⟩
        obtain ⟨qa, q5, q6⟩ := t1
        refine ⟨hT, rfl, rfl, ⟨qa, fun x hx => by rw [← e3 x hx, ← e4 x hx]; exact q5 x hx, fun z => (by cases z)⟩, t2.cg ?_, t3⟩
        rw [p3_cb, p3_cb]
        congr 1
        have e1 : (tq s k true (r + 1) ρ).1 = (tq s k true r (up ρ i 9)).1 := congrArg (fun t => t.1) hany
        have e2 : (tq s k true (r + 1) ρ).2.1 = ch * (tq s k true r (up ρ i 9)).2.1 := congrArg (fun t => t.2.1) hany
        have e5 : (tq s k true (r + 1) ρ).2.2.1 = (tq s k true r (up ρ i 9)).2.2.1 := congrArg (fun t => t.2.2) hany
        show ((tq s k true r (up ρ i 9)).1, W * ch * (tq s k true r (up ρ i 9)).2.1, (tq s k true r (up ρ i 9)).2.2.1) = ((tq s k true (r + 1) ρ).1, W * (tq s k true (r + 1) ρ).2.1, (tq s k true (r + 1) ρ).2.2.1)
        rw [e1, e2, e5, Nat.mul_assoc]
      rw [nI_clamp (show i < 2 ^ 31 by omega), c12, kpI_f kb, hP.1.1]
      refine ⟨vp_in_nI (by omega) (by decide), fun x => st 1 (by rw [if_neg x]; rfl), fun x => st _ (by rw [if_pos x])⟩
    exact zcallV any (fun u b c' h => ⟨h.1 ▸ hT, h⟩)
