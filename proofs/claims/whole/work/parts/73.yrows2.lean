theorem y_goes {s : Sn} {k : Nat} {rv : zR} {lv : zJ} (hT : zTop rv) (vs : VS s) (hk1 : 2 ≤ k) (hk : k ≤ 4) : ∀ (r d N : Nat) (ρ : Nat → Nat) (a : Ac) (w : zI), r ≤ s.1 → MS w 176 0 s → GP w s k (s.1 - r) ρ → MA w s.1 N a → N + k ^ r < 2 ^ 31 →
    Cv mX11_goes (d + r + 2) [.ref 174, .int (nI k), .int (nI (s.1 - r))] w rv lv (fun u b c' => b = rv ∧ c' = lv ∧ GP u s k (s.1 - r) ρ ∧ MA u s.1 (N + (tq s k true r ρ).2.1) (cb a (tq s k false r ρ)) ∧ FY w u) := by
  have vn := vs.1
  intro r
  induction r with
  | zero =>
    intro d N ρ a w hr ms hG hA hN
    rw [Nat.sub_zero] at *
    rw [Nat.pow_zero] at hN
    have n1 : w 176 0 = nI s.1 := ms.1
    have mb := mx_hs vs ρ k
    have hms := mn_mx (hsum s.1 s.2.2.1 ρ) k
    have hbs : ∀ h, h < k → hsum s.1 s.2.2.1 ρ h < 2 ^ 31 := fun h _ => by
      have := hsum_le s.1 s.2.2.1 ρ h vn.2 (fun i hi => (vs.2.2.1 i hi).2)
      omega
    have ar : AR w 182 k (hsum s.1 s.2.2.1 ρ) := fun h hh => hG.2 h (by omega)
    have et : (tq s k true 0 ρ).2.1 = 1 := rfl
    have ef : tq s k false 0 ρ = (spr (hsum s.1 s.2.2.1 ρ) k, 1, mx (hsum s.1 s.2.2.1 ρ) k, ρ) := rfl
    rw [et, ef]
    have sb : spr (hsum s.1 s.2.2.1 ρ) k ≤ 99990 := by unfold spr; omega
    refine eX11_goes _ _ (bX11_goes_0 _ _ hT ⟨fun z => absurd n1.symm z, fun _ => zcall (y_spread (d := d) hT (by omega) hk ar hbs) hT (zcall (y_top hT (by omega) hk ar hbs) hT ?_)⟩)
    generalize spr (hsum s.1 s.2.2.1 ρ) k = sp at sb ⊢
    generalize mx (hsum s.1 s.2.2.1 ρ) k = tp at mb ⊢
    obtain ⟨a1, a2, a3⟩ := hA
    -- the end: how many
    have fin : ∀ (u : zI) (C : Nat), u 174 44 = nI N → u 174 45 = nI (min a.1 sp) → u 174 46 = nI C → C + (if sp ≤ a.1 then 1 else 0) = (if a.1 ≤ sp then a.2.1 else 0) + (if sp ≤ a.1 then 1 else 0) → u 174 47 = nI (min a.2.2.1 tp) → (∀ j, j < s.1 → u 183 j = nI ((if sp < a.1 then ρ else a.2.2.2) j)) → (∀ p, p ≠ 174 → p ≠ 183 → u p = w p) → (∀ b, b < 44 ∨ 47 < b → u 174 b = w 174 b) → Zv mX11_goes (d + 0 + 2) 111 [some (.ref 174), some (.int (nI k)), some (.int (nI s.1)), some (.int (nI sp)), some (.int (nI tp)), none] [] u rv lv (fun u b c' => b = rv ∧ c' = lv ∧ GP u s k s.1 ρ ∧ MA u s.1 (N + 1) (cb a (sp, 1, tp, ρ)) ∧ FY w u) := by
      intro u C u4 u5 u6 uc u7 u8 u9 u10
      have res : ∀ v : zI, v 174 44 = nI (N + 1) → v 174 46 = nI ((if a.1 ≤ sp then a.2.1 else 0) + (if sp ≤ a.1 then 1 else 0)) → (∀ b, b ≠ 44 → b ≠ 46 → v 174 b = u 174 b) → (∀ p, p ≠ 174 → v p = u p) → (rv = rv ∧ lv = lv ∧ GP v s k s.1 ρ ∧ MA v s.1 (N + 1) (cb a (sp, 1, tp, ρ)) ∧ FY w v) := by
        intro v v4 v6 vb vr
        refine ⟨rfl, rfl, ⟨fun j hj => by rw [vr 181 (by omega), u9 181 (by omega) (by omega)]; exact hG.1 j hj, fun h hh => by rw [vr 182 (by omega), u9 182 (by omega) (by omega)]; exact hG.2 h hh⟩, ⟨v4, fun z => absurd z (Nat.succ_ne_zero _), fun _ => ⟨?_, ?_, v6, ?_, ?_, fun j hj => ?_⟩⟩, fun p hp => by rw [vr p (by omega), u9 p (by omega) (by omega)], fun b hb => by rw [vb b (by omega) (by omega)]; exact u10 b hb⟩
        · show min a.1 sp < 1000000
          omega
        · rw [vb 45 (by decide) (by decide)]; exact u5
        · rw [vb 47 (by decide) (by decide)]; exact u7
        · show min a.2.2.1 tp ≤ 1000000
          omega
        · rw [vr 183 (by omega)]; exact u8 j hj
      have mb1 : min a.1 sp < 2 ^ 31 := by omega
      refine bX11_goes_111 _ _ _ _ hT ?_
      rw [u5, u6, nI_eq (by omega) mb1, z_0, nI_add, nI_1]
      refine ⟨fun q v1 e1 v2 e2 => res v2 ?_ ?_ (fun b b1 b2 => by rw [e2, zu_k b1, e1, zu_k b2]) (fun p hp => by rw [e2, zu_row hp, e1, zu_row hp]), fun q v1 e1 v2 e2 => res v2 ?_ ?_ (fun b b1 b2 => by rw [e2, zu_k b1, e1, zu_k b2]) (fun p hp => by rw [e2, zu_row hp, e1, zu_row hp])⟩
      · rw [e2, zu_eq, e1, zu_k (by decide), u4, nI_1]
      · rw [e2, zu_k (by decide), e1, zu_eq, ← uc, if_neg (by omega)]
      · rw [e2, zu_eq, e1, zu_k (by decide), u4, nI_1]
      · rw [e2, zu_k (by decide), e1, zu_eq, ← uc, if_pos (by omega)]
    -- a better row
    have best : ∀ (u : zI), sp < a.1 → u 174 44 = nI N → u 174 45 = nI sp → u 174 46 = nI 0 → u 174 47 = nI (min a.2.2.1 tp) → (∀ p, p ≠ 174 → u p = w p) → (∀ b, b < 44 ∨ 47 < b → u 174 b = w 174 b) → Zv mX11_goes (d + 0 + 2) 80 [some (.ref 174), some (.int (nI k)), some (.int (nI s.1)), some (.int (nI sp)), some (.int (nI tp)), some (.int (nI 0))] [] u rv lv (fun u b c' => b = rv ∧ c' = lv ∧ GP u s k s.1 ρ ∧ MA u s.1 (N + 1) (cb a (sp, 1, tp, ρ)) ∧ FY w u) := by
      intro u lt u4 u5 u6 u7 ur ub
      have key := zfor (c := s.1) (P := fun j => ∀ v : zI, (∀ x, x < j → v 183 x = nI (ρ x)) → (∀ p, p ≠ 183 → v p = u p) → Zv mX11_goes (d + 0 + 2) 80 [some (.ref 174), some (.int (nI k)), some (.int (nI s.1)), some (.int (nI sp)), some (.int (nI tp)), some (.int (nI j))] [] v rv lv (fun u b c' => b = rv ∧ c' = lv ∧ GP u s k s.1 ρ ∧ MA u s.1 (N + 1) (cb a (sp, 1, tp, ρ)) ∧ FY w u)) ?_ ?_
      · exact key 0 (by omega) u (fun x hx => absurd hx (Nat.not_lt_zero _)) (fun _ _ => rfl)
      · intro v v1 v2
        have c0 : v 176 0 = nI s.1 := by rw [v2 176 (by omega), ur 176 (by omega)]; exact n1
        have m1 : v 174 = u 174 := v2 174 (by omega)
        refine bX11_goes_80 _ _ _ _ _ hT ⟨fun _ => ?_, fun z => absurd (by rw [c0]; exact nI_le (by omega) (by omega)) z⟩
        refine fin v 0 (by rw [m1]; exact u4) (by rw [m1, Nat.min_eq_right (by omega)]; exact u5) (by rw [m1]; exact u6) (by rw [if_neg (show ¬ a.1 ≤ sp by omega)]) (by rw [m1]; exact u7) (fun j hj => by rw [if_pos lt]; exact v1 j hj) (fun p p1 p2 => by rw [v2 p p2]; exact ur p p1) (fun b hb => by rw [m1]; exact ub b hb)
      · intro j hj ih v v1 v2
        have c0 : v 176 0 = nI s.1 := by rw [v2 176 (by omega), ur 176 (by omega)]; exact n1
        refine bX11_goes_80 _ _ _ _ _ hT ⟨fun z => absurd z (by rw [c0]; exact nI_ge hj (by omega)), fun _ => ?_⟩
        rw [nI_clamp (show j < 2 ^ 31 by omega), nI_1, v2 181 (by omega), ur 181 (by omega), (hG.1 j hj).1]
        refine ⟨vp_in_nI (by omega) (by decide), fun v3 e3 => ih v3 (fun x hx => ?_) (fun p hp => by rw [e3, zu_row hp]; exact v2 p hp)⟩
        rw [e3]
        by_cases z : x = j
        · rw [z, zu_eq]
        · rw [zu_k z]; exact v1 x (by omega)
    -- with the top known
    have cont : ∀ y : Int32, y = nI (min a.2.2.1 tp) → Zv mX11_goes (d + 0 + 2) 49 [some (.ref 174), some (.int (nI k)), some (.int (nI s.1)), some (.int (nI sp)), some (.int (nI tp)), none] [.int y, .ref 174] w rv lv (fun u b c' => b = rv ∧ c' = lv ∧ GP u s k s.1 ρ ∧ MA u s.1 (N + 1) (cb a (sp, 1, tp, ρ)) ∧ FY w u) := by
      intro y ey
      subst ey
      refine bX11_goes_49 _ _ _ _ _ hT ?_
      intro u1 e1
      have f4 : u1 174 44 = nI N := by rw [e1, zu_k (by decide)]; exact a1
      rw [f4, z_0, nI_eq (by omega) (by omega)]
      have better : sp < a.1 → ∀ u2 : zI, u2 = zu u1 174 45 (nI sp) → ∀ u3 : zI, u3 = zu u2 174 46 (nI 0) → Zv mX11_goes (d + 0 + 2) 80 [some (.ref 174), some (.int (nI k)), some (.int (nI s.1)), some (.int (nI sp)), some (.int (nI tp)), some (.int (nI 0))] [] u3 rv lv (fun u b c' => b = rv ∧ c' = lv ∧ GP u s k s.1 ρ ∧ MA u s.1 (N + 1) (cb a (sp, 1, tp, ρ)) ∧ FY w u) := by
        intro lt u2 e2 u3 e3
        refine best u3 lt ?_ ?_ ?_ ?_ (fun p hp => by rw [e3, zu_row hp, e2, zu_row hp, e1, zu_row hp]) (fun b hb => by rw [e3, zu_k (by omega), e2, zu_k (by omega), e1, zu_k (by omega)])
        · rw [e3, zu_k (by decide), e2, zu_k (by decide)]; exact f4
        · rw [e3, zu_k (by decide), e2, zu_eq]
        · rw [e3, zu_eq]
        · rw [e3, zu_k (by decide), e2, zu_k (by decide), e1, zu_eq]
      refine ⟨fun z => better (by have := (a2 z).1; omega), fun z => ?_⟩
      obtain ⟨b1, b2, b3, b4, b5, b6⟩ := a3 (by omega)
      have f5 : u1 174 45 = nI a.1 := by rw [e1, zu_k (by decide)]; exact b2
      rw [f5, nI_leI (by omega) (by omega)]
      refine ⟨fun q => ?_, fun q => better (by omega)⟩
      refine fin u1 a.2.1 f4 (by rw [f5, Nat.min_eq_left q]) (by rw [e1, zu_k (by decide)]; exact b3) (by rw [if_pos q]) (by rw [e1, zu_eq]) (fun j hj => by rw [if_neg (by omega), e1, zu_row (by omega)]; exact b6 j hj) (fun p p1 _ => by rw [e1, zu_row p1]) (fun b hb => by rw [e1, zu_k (by omega)])
    rw [a1, z_0, nI_eq (by omega) (by omega)]
    refine ⟨fun z => cont _ (by rw [(a2 z).2.2, Nat.min_eq_right (by omega)]), fun z => ?_⟩
    obtain ⟨b1, b2, b3, b4, b5, b6⟩ := a3 (by omega)
    rw [b4, nI_leI (by omega) (by omega)]
    exact ⟨fun q => cont _ (by rw [Nat.min_eq_left q]), fun q => cont _ (by rw [Nat.min_eq_right (by omega)])⟩
  | succ r ih =>
    intro d N ρ a w hr ms hG hA hN
    have hi : s.1 - (r + 1) < s.1 := by omega
    have ei : s.1 - r = s.1 - (r + 1) + 1 := by omega
    have etq : ∀ cm, tq s k cm (r + 1) ρ = fdq (okR s ρ (s.1 - (r + 1))) (fun h => tq s k cm r (up ρ (s.1 - (r + 1)) h)) k := fun _ => rfl
    generalize hI : s.1 - (r + 1) = i at *
    have vi := vs.2.2.1 i hi
    have n1 : w 176 0 = nI s.1 := ms.1
    have pw : k ^ (r + 1) = k * k ^ r := by rw [Nat.pow_succ, Nat.mul_comm]
    rw [show d + (r + 1) + 2 = d + r + 2 + 1 by omega]
    refine eX11_goes _ _ (bX11_goes_0 _ _ hT ⟨fun _ => ?_, fun z => absurd z (by rw [n1]; exact fun q => by rw [nI_eq (by omega) (by omega)] at q; omega)⟩)
    have key := zfor (c := k) (P := fun h => ∀ u : zI, GP u s k i ρ → MA u s.1 (N + (fdq (okR s ρ i) (fun h => tq s k true r (up ρ i h)) h).2.1) (cb a (fdq (okR s ρ i) (fun h => tq s k false r (up ρ i h)) h)) → FY w u → Zv mX11_goes (d + r + 2 + 1) 146 [some (.ref 174), some (.int (nI k)), some (.int (nI i)), some (.int (nI h)), none, none] [] u rv lv (fun u b c' => b = rv ∧ c' = lv ∧ GP u s k i ρ ∧ MA u s.1 (N + (tq s k true (r + 1) ρ).2.1) (cb a (tq s k false (r + 1) ρ)) ∧ FY w u)) ?_ ?_
    · refine key 0 (by omega) w hG ?_ FY.refl
      obtain ⟨a1, a2, a3⟩ := hA
      have e : cb a e0 = a := by
        rcases Nat.eq_zero_or_pos N with z | z
        · have := a2 z
          exact cb_e0 (by omega) (by omega)
        · have := a3 z
          exact cb_e0 (by omega) this.2.2.2.2.1
      show MA w s.1 (N + 0) (cb a e0)
      rw [e]
      exact ⟨a1, a2, a3⟩
    · intro u u1 u2 u3
      exact bX11_goes_146 _ _ _ hT ⟨fun _ => ⟨rfl, rfl, u1, by rw [etq, etq]; exact u2, u3⟩, fun z => absurd (nI_le (by omega) (by omega)) z⟩
    · intro h hh ihP u u1 u2 u3
      have ms1 := u3.ms ms
      refine bX11_goes_146 _ _ _ hT ⟨fun z => absurd z (nI_ge hh (by omega)), fun _ => zcall (y_mayLie hT ms1 vs hi (by omega) (fun j hj => ⟨(u1.1 j hj).1, by have := (u1.1 j hj).2; omega⟩)) hT ?_⟩
      rw [fdq, fdq] at ihP
      rw [nI_1]
      cases q : okR s ρ i h with
      | false =>
        rw [q, if_neg (by simp), if_neg (by simp)] at ihP
        exact ⟨fun z => absurd rfl z, fun _ => by rw [nI_1]; exact ihP u u1 u2 u3⟩
      | true =>
        rw [q, if_pos rfl, if_pos rfl] at ihP
        refine ⟨fun _ => ?_, fun z => absurd (show (1 : Int32) = 0 from z) (by decide)⟩
        rw [nI_clamp (show i < 2 ^ 31 by omega), nI_clamp (show h < 2 ^ 31 by omega)]
        refine ⟨vp_in_nI (by omega) (by decide), fun v1 e1 => ⟨vp_in_nI (by omega) (by decide), ?_⟩⟩
        have msv : MS v1 176 0 s := by
          unfold MS
          rw [e1, zu_row (by omega)]
          exact ms1
        refine zcall (y_value (n := s.1) (v := s.2.2.1) hT msv.vals vn.2 hi) hT (fun v2 e2 => ?_)
        rw [e1, zu_row (by omega), (u1.2 h (by omega)), nI_add] at e2
        have r2 : ∀ p, p ≠ 181 → p ≠ 182 → v2 p = u p := fun p p1 p2 => by rw [e2, zu_row p2, zu_row p1]
        have G2 : GP v2 s k (i + 1) (up ρ i h) := by
          refine ⟨fun j hj => ?_, fun x hx => ?_⟩
          · rw [e2, zu_row (by omega)]
            by_cases z : j = i
            · rw [z, zu_eq, up_eq]
              exact ⟨rfl, hh⟩
            · rw [zu_k z, up_ne z]
              exact u1.1 j (by omega)
          · rw [hsum_up, e2]
            by_cases z : x = h
            · rw [z, zu_eq, beq_self_eq_true]
              rfl
            · rw [zu_k z, zu_row (by omega), u1.2 x hx, beq_eq_false_iff_ne.mpr (fun y => z y.symm)]
              rfl
        have F2 : FY u v2 := ⟨fun p hp => r2 p (by omega) (by omega), fun b _ => by rw [r2 174 (by omega) (by omega)]⟩
        have A2 : MA v2 s.1 (N + (fdq (okR s ρ i) (fun h => tq s k true r (up ρ i h)) h).2.1) (cb a (fdq (okR s ρ i) (fun h => tq s k false r (up ρ i h)) h)) := by
          unfold MA
          rw [r2 174 (by omega) (by omega), r2 183 (by omega) (by omega)]
          exact u2
        have cb1 : (fdq (okR s ρ i) (fun h => tq s k true r (up ρ i h)) h).2.1 ≤ h * k ^ r := fdq_c h (fun x _ => tq_c r _)
        have hb2 : h * k ^ r + k ^ r ≤ k * k ^ r := by
          have : (h + 1) * k ^ r ≤ k * k ^ r := Nat.mul_le_mul_right _ hh
          rw [Nat.add_mul, Nat.one_mul] at this
          exact this
        have call := ih d (N + (fdq (okR s ρ i) (fun h => tq s k true r (up ρ i h)) h).2.1) (up ρ i h) _ v2 (by omega) (F2.ms ms1) (by rw [ei]; exact G2) A2 (by omega)
        rw [ei] at call
        refine zcallV call ?_
        rintro v3 rv1 lv1 ⟨q1, q2, t1, t2, t3⟩
        have q1 := q1.symm
        have q2 := q2.symm
        subst q1 q2
        refine ⟨hT, zcall (y_value (n := s.1) (v := s.2.2.1) hT ((t3.ms (F2.ms ms1)).vals) vn.2 hi) hT (fun v4 e4 => ?_)⟩
        rw [t1.2 h (by omega), hsum_up, beq_self_eq_true, show wt true (s.2.2.1 i) = s.2.2.1 i from rfl, pk_sub (by omega), Nat.add_sub_cancel] at e4
        have r4 : ∀ p, p ≠ 182 → v4 p = v3 p := fun p hp => by rw [e4, zu_row hp]
        rw [nI_1]
        refine ihP v4 ⟨fun j hj => ?_, fun x hx => ?_⟩ ?_ ((u3.trans F2).trans (t3.trans ⟨fun p hp => r4 p (by omega), fun b _ => by rw [r4 174 (by omega)]⟩))
        · rw [r4 181 (by omega)]
          have := t1.1 j (by omega)
          rw [up_ne (by omega)] at this
          exact this
        · rw [e4]
          by_cases z : x = h
          · rw [z, zu_eq]
          · rw [zu_k z, t1.2 x hx, hsum_up, beq_eq_false_iff_ne.mpr (fun y => z y.symm)]
            rfl
        · have gg := (g0_cb (g0_fdq (okc := okR s ρ i) (C := fun h => tq s k true r (up ρ i h)) (fun x => g0_tq r _) h) (g0_tq (s := s) (k := k) r (up ρ i h))).2
          rw [gg, ← Nat.add_assoc, ← cb_assoc]
          unfold MA at t2 ⊢
          rw [r4 174 (by omega), r4 183 (by omega)]
          exact t2
theorem y_areRows {d k : Nat} {s : Sn} {iv : zI} {rv : zR} {lv : zJ} (hT : zTop rv) (ms : MS iv 176 0 s) (vs : VS s) (hk1 : 2 ≤ k) (hk : k ≤ 4) :
    Ci mX11_areRows (d + 20) [.ref 174, .int (nI k)] iv rv lv (fun y a b c' => y = bI (decide (0 < rq s k)) ∧ b = rv ∧ c' = lv ∧ MA a s.1 (rq s k) (lq s k) ∧ FY iv a) := by
  have vn := vs.1
  refine eX11_areRows _ (bX11_areRows_0 _ hT ?_)
  intro w1 e1
  have key := zfor (c := 4) (P := fun h => ∀ u : zI, (∀ x, x < h → u 182 x = nI 0) → (∀ p, p ≠ 182 → u p = w1 p) → Zi mX11_areRows (d + 20) 7 [some (.ref 174), some (.int (nI k)), some (.int (nI h))] [] u rv lv (fun y a b c' => y = bI (decide (0 < rq s k)) ∧ b = rv ∧ c' = lv ∧ MA a s.1 (rq s k) (lq s k) ∧ FY iv a)) ?_ ?_
  · exact key 0 (by omega) w1 (fun x hx => absurd hx (Nat.not_lt_zero _)) (fun _ _ => rfl)
  · intro u u1 u2
    have fu : FY iv u := ⟨fun p hp => by rw [u2 p (by omega), e1, zu_row (by omega)], fun b hb => by rw [u2 174 (by omega), e1, zu_k (by omega)]⟩
    refine bX11_areRows_7 _ _ hT ⟨fun _ => ?_, fun z => absurd (by decide) z⟩
    obtain ⟨e, he⟩ : ∃ e, d + 19 = e + s.1 + 2 := ⟨d + 17 - s.1, by omega⟩
    have A0 : MA u s.1 0 e0 := ⟨by rw [u2 174 (by omega), e1, zu_eq]; rfl, fun _ => ⟨rfl, rfl, rfl⟩, fun z => absurd z (Nat.lt_irrefl _)⟩
    have kb : k ^ s.1 ≤ 4 ^ 10 := Nat.le_trans (Nat.pow_le_pow_left hk _) (Nat.pow_le_pow_right (by omega) vn.2)
    have call := y_goes (k := k) (lv := lv) hT vs hk1 hk s.1 e 0 ρ0 e0 u (Nat.le_refl _) (fu.ms ms) (by rw [Nat.sub_self]; exact ⟨fun j hj => absurd hj (Nat.not_lt_zero _), fun h hh => u1 h hh⟩) A0 (by omega)
    rw [Nat.sub_self] at call
    rw [he]
    refine zcallV call ?_
    rintro a _ _ ⟨rfl, rfl, t1, t2, t3⟩
    have er : 0 + (tq s k true s.1 ρ0).2.1 = rq s k := by
      unfold rq
      rw [sc_1, (g0_cb (A := e0) (Or.inr ⟨rfl, rfl⟩) (g0_tq s.1 ρ0)).2]
      rfl
    have el : cb e0 (tq s k false s.1 ρ0) = lq s k := by
      unfold lq
      rw [sc_1]
    rw [er, el] at t2
    have rb := (lq_b vs hk).2
    rw [t2.1, z_0, nI_leI (by omega) (by omega)]
    refine ⟨hT, fun z => ⟨?_, rfl, rfl, t2, fu.trans t3⟩, fun z => ⟨?_, rfl, rfl, t2, fu.trans t3⟩⟩
    · rw [decide_eq_false (by omega)]; rfl
    · rw [decide_eq_true (by omega)]; rfl
  · intro h hh ih u u1 u2
    refine bX11_areRows_7 _ _ hT ⟨fun z => absurd z (show ¬ nI 4 ≤ nI h from nI_ge hh (by omega)), fun _ => ?_⟩
    rw [nI_clamp (show h < 2 ^ 31 by omega), nI_1]
    refine ⟨vp_in_nI hh (by decide), fun u3 e3 => ih u3 (fun x hx => ?_) (fun p hp => by rw [e3, zu_row hp]; exact u2 p hp)⟩
    rw [e3]
    by_cases z : x = h
    · rw [z, zu_eq]; rfl
    · rw [zu_k z]; exact u1 x (by omega)
