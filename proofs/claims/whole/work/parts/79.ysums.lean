/-! THE REFERENCE: sums. -/
theorem bI_wt {x j : Nat} (hx : x < 2 ^ 31) (hj : j < 16) : (nI x >>> (nI j &&& 31)) &&& 1 = nI (wt (x.testBit j) 1) := by
  cases q : x.testBit j with
  | true => exact (bI_bit hj hx).mpr q
  | false => exact (bI_bit0 hj hx).mpr q
theorem y_bits {d x : Nat} {iv : zI} {rv : zR} {lv : zJ} (hT : zTop rv) (hx : x < 1024) : Ci mX11_bits d [.int (nI x)] iv rv lv (zP (nI (scard x)) iv rv lv) := by
  refine eX11_bits _ (bX11_bits_0 _ hT ?_)
  have key := zfor (c := 16) (P := fun j => Zi mX11_bits d 4 [some (.int (nI x)), some (.int (nI (lk (fun i => x.testBit i) j))), some (.int (nI j))] [] iv rv lv (zP (nI (scard x)) iv rv lv)) ?_ ?_
  · exact key 0 (by omega)
  · exact bX11_bits_4 _ _ _ hT ⟨fun _ => zP.mk rfl, fun z => absurd (by decide) z⟩
  · intro j hj ih
    refine bX11_bits_4 _ _ _ hT ⟨fun z => absurd z (show ¬ nI 16 ≤ nI j from nI_ge hj (by omega)), fun _ => ?_⟩
    rw [bI_wt (by omega) hj, nI_add, nI_1]
    exact ih
theorem y_laysSums {d : Nat} {s : Sn} {iv : zI} {rv : zR} {lv : zJ} (hT : zTop rv) (ms : MS iv 176 0 s) (vs : VS s) : Ci mX11_laysSums (d + 2) [.ref 174] iv rv lv (fun y a b c' => y = nI (2 ^ s.1) ∧ b = rv ∧ c' = lv ∧ (∀ t, t < 2 ^ s.1 → a 196 t = nI (ssum s t)) ∧ ∀ p, p ≠ 196 → a p = iv p) := by
  have vn := vs.1
  have n1 := n10 vs
  refine eX11_laysSums (bX11_laysSums_0 hT ?_)
  intro w1 e1
  have c0 : w1 176 0 = nI s.1 := by rw [e1, zu_row (by omega)]; exact ms.1
  rw [c0, bI_1shl (by omega)]
  have key := zfor (c := 2 ^ s.1) (P := fun t => 1 ≤ t → ∀ w : zI, (∀ u, u < t → w 196 u = nI (ssum s u)) → (∀ p, p ≠ 196 → w p = iv p) → Zi mX11_laysSums (d + 2) 18 [some (.ref 174), some (.int (nI (2 ^ s.1))), some (.int (nI t))] [] w rv lv (fun y a b c' => y = nI (2 ^ s.1) ∧ b = rv ∧ c' = lv ∧ (∀ t, t < 2 ^ s.1 → a 196 t = nI (ssum s t)) ∧ ∀ p, p ≠ 196 → a p = iv p)) ?_ ?_
  · refine key 1 n1.1 (Nat.le_refl _) w1 (fun u hu => ?_) (fun p hp => by rw [e1, zu_row hp])
    rw [show u = 0 by omega, e1, zu_eq, ssum_0]
    rfl
  · intro _ w h1 h2
    exact bX11_laysSums_18 _ _ hT ⟨fun _ => ⟨rfl, rfl, rfl, h1, h2⟩, fun z => absurd (nI_le (by omega) (by omega)) z⟩
  · intro t ht ih t1 w h1 h2
    have b10 := t10 vs ht
    obtain ⟨z1, z2, z3, z4⟩ := tb_clr t b10 (by omega)
    obtain ⟨l1, l2⟩ := ssum_clr vs ht (by omega)
    refine bX11_laysSums_18 _ _ hT ⟨fun z => absurd z (nI_ge ht (by omega)), fun _ => ?_⟩
    rw [z_1, pk_sub t1, bI_and, nI_clamp (show t &&& (t - 1) < 2 ^ 31 by omega), nI_clamp (show t < 2 ^ 31 by omega), h1 _ z1]
    refine ⟨vp_in_nI (by omega) (by decide), zcall (y_lowest (d := d) hT b10) hT (zcall (y_value (n := s.1) (v := s.2.2.1) hT (fun q hq => by rw [h2 176 (by omega)]; exact ms.vals q hq) vn.2 l1) hT ⟨vp_in_nI (by omega) (by decide), fun w2 e2 => ?_⟩)⟩
    rw [nI_add, ← l2] at e2
    rw [nI_add]
    refine ih (by omega) w2 (fun u hu => ?_) (fun p hp => by rw [e2, zu_row hp]; exact h2 p hp)
    rw [e2]
    by_cases e : u = t
    · rw [e, zu_eq]
    · rw [zu_k e]; exact h1 u (by omega)
theorem y_ways {d : Nat} {S : St} {x : Int32} {iv : zI} {rv : zR} {lv : zJ} (hT : zTop rv) (h : MB S iv) (hv : VT S) : Ci mX11_ways (d + 9) [.ref 174, .int x] iv rv lv (YR (F_ways S x).2 (F_ways S x).1 iv rv lv) := by
  refine eX11_ways x (bX11_ways_0 x hT ?_)
  intro w0 e0
  have h0 : MB S w0 := e0 ▸ h.th
  have f0 : FM iv w0 := e0 ▸ FM.th
  unfold F_ways
  rw [h0.txt]
  cases e : S.2.1 with
  | none => exact ⟨fun q => absurd rfl q, fun _ => zcall (y_refused hT) hT (YR.tr' rfl h0 f0)⟩
  | some s =>
    have ms := h0.2.1.2 s e
    have vs := hv.2.1 s e
    have n1 := n10 vs
    refine ⟨fun _ => zcall (y_isSum hT) hT ?_, fun q => absurd (show (1 : Int32) = 0 from q) (by decide)⟩
    by_cases hx : x < 0 ∨ 99999 < x
    · rw [in_f hx]
      simp only [hx, if_true]
      exact ⟨fun q => absurd rfl q, fun _ => zcall (y_refused hT) hT (YR.tr' rfl h0 f0)⟩
    · rw [in_t (fun q => hx (Or.inl q)) (fun q => hx (Or.inr q))]
      simp only [hx, if_false]
      obtain ⟨j, j1, rfl⟩ := of_s hx
      refine ⟨fun _ => zcallQ (y_laysSums (d := d + 6) hT ms vs) ?_, fun q => absurd (show (1 : Int32) = 0 from q) (by decide)⟩
      rintro y a rv1 lv1 ⟨q0, q1, q2, g1, g2⟩
      have q1 := q1.symm
      have q2 := q2.symm
      subst q0 q1 q2
      rw [nI_clamp (by omega)]
      have fn : FN w0 a := FN.of (fun p hp => g2 p (by omega))
      refine ⟨hT, ?_⟩
      have key := zfor (c := 2 ^ s.1) (P := fun t => Zi mX11_ways (d + 9) 41 [some (.ref 174), some (.int (nI j)), some (.int (nI (2 ^ s.1))), some (.int (nI (lk (fun t => ssum s t == j) t))), some (.int (nI t))] [] a rv lv (YR (ok S (nI (lk (fun t => ssum s t == j) (2 ^ s.1)))).2 (ok S (nI (lk (fun t => ssum s t == j) (2 ^ s.1)))).1 iv rv lv)) ?_ ?_
      · exact key 0 (by omega)
      · exact bX11_ways_41 _ _ _ _ hT ⟨fun _ => zcall (y_good hT) hT (YR.fn rfl h0 f0 fn), fun z => absurd (nI_le (by omega) (by omega)) z⟩
      · intro t ht ih
        have sl := ssum_le vs t
        refine bX11_ways_41 _ _ _ _ hT ⟨fun z => absurd z (nI_ge ht (by omega)), fun _ => ?_⟩
        rw [nI_clamp (show t < 2 ^ 31 by omega), g1 t ht, nI_eq (by omega) (by omega), z_0, nI_add, nI_1, nI_1]
        rw [lk_s] at ih
        refine ⟨vp_in_nI (by omega) (by decide), fun z => ?_, fun z => ?_⟩
        · rw [beq_eq_false_iff_ne.mpr z] at ih
          exact ih
        · rw [beq_iff_eq.mpr z] at ih
          exact ih
theorem chI_n {o : Option Nat} (ho : ∀ b, o = some b → b < 1024) : (chI o = -2) ↔ o = none := by
  cases o with
  | none => exact ⟨fun _ => rfl, fun _ => rfl⟩
  | some b =>
    refine ⟨fun z => ?_, fun z => (by cases z)⟩
    have : (0 : Int32) ≤ nI b := nI_pos' (by have := ho b rfl; omega)
    have z : nI b = -2 := z
    rw [z] at this
    exact absurd this (by decide)
theorem y_chosen {d : Nat} {S : St} {x : Int32} {iv : zI} {rv : zR} {lv : zJ} (hT : zTop rv) (h : MB S iv) (hv : VT S) : Ci mX11_chosen (d + 9) [.ref 174, .int x] iv rv lv (YR (F_chosen S x).2 (F_chosen S x).1 iv rv lv) := by
  refine eX11_chosen x (bX11_chosen_0 x hT ?_)
  intro w0 e0
  have h0 : MB S w0 := e0 ▸ h.th
  have f0 : FM iv w0 := e0 ▸ FM.th
  unfold F_chosen
  rw [h0.txt]
  cases e : S.2.1 with
  | none => exact ⟨fun q => absurd rfl q, fun _ => zcall (y_refused hT) hT (YR.tr' rfl h0 f0)⟩
  | some s =>
    have ms := h0.2.1.2 s e
    have vs := hv.2.1 s e
    have n1 := n10 vs
    refine ⟨fun _ => zcall (y_isSum hT) hT ?_, fun q => absurd (show (1 : Int32) = 0 from q) (by decide)⟩
    by_cases hx : x < 0 ∨ 99999 < x
    · rw [in_f hx]
      simp only [hx, if_true]
      exact ⟨fun q => absurd rfl q, fun _ => zcall (y_refused hT) hT (YR.tr' rfl h0 f0)⟩
    · rw [in_t (fun q => hx (Or.inl q)) (fun q => hx (Or.inr q))]
      simp only [hx, if_false]
      obtain ⟨j, j1, rfl⟩ := of_s hx
      refine ⟨fun _ => zcallQ (y_laysSums (d := d + 6) hT ms vs) ?_, fun q => absurd (show (1 : Int32) = 0 from q) (by decide)⟩
      rintro y a rv1 lv1 ⟨q0, q1, q2, g1, g2⟩
      have q1 := q1.symm
      have q2 := q2.symm
      subst q0 q1 q2
      rw [nI_clamp (by omega)]
      have fn : FN w0 a := FN.of (fun p hp => g2 p (by omega))
      refine ⟨hT, ?_⟩
      have key := zfor (c := 2 ^ s.1) (P := fun t => Zi mX11_chosen (d + 9) 42 [some (.ref 174), some (.int (nI j)), some (.int (nI (2 ^ s.1))), some (.int (chI (chA s j t))), some (.int (nI t))] [] a rv lv (YR (ok S (chI (chA s j (2 ^ s.1)))).2 (ok S (chI (chA s j (2 ^ s.1)))).1 iv rv lv)) ?_ ?_
      · exact key 0 (by omega)
      · exact bX11_chosen_42 _ _ _ _ hT ⟨fun _ => zcall (y_good hT) hT (YR.fn rfl h0 f0 fn), fun z => absurd (nI_le (by omega) (by omega)) z⟩
      · intro t ht ih
        have sl := ssum_le vs t
        obtain ⟨o1, o2⟩ := chA_ok s j t
        refine bX11_chosen_42 _ _ _ _ hT ⟨fun z => absurd z (nI_ge ht (by omega)), fun _ => ?_⟩
        rw [nI_clamp (show t < 2 ^ 31 by omega), g1 t ht, nI_eq (by omega) (by omega), chI_n (fun b hb => by have := (o2 b hb).1; omega), nI_1]
        rw [chA] at ih
        refine ⟨vp_in_nI (by omega) (by decide), fun z => ?_, fun z => ⟨fun z2 => ?_, fun z2 => ?_⟩⟩
        · rw [beq_eq_false_iff_ne.mpr z, Bool.false_and, if_neg (by simp)] at ih
          exact ih
        · rw [beq_iff_eq.mpr z, z2] at ih
          exact ih
        · cases ec : chA s j t with
          | none => exact absurd ec z2
          | some b =>
            have bl := (o2 b ec).1
            have s1 := scard_b t (by omega)
            have s2 := scard_b b (by omega)
            rw [beq_iff_eq.mpr z, ec, Bool.true_and] at ih
            refine zcall (y_bits hT (by omega)) hT (zcall (y_bits (x := b) hT (by omega)) hT ?_)
            rw [nI_leI (by omega) (by omega)]
            refine ⟨fun z3 => ?_, fun z3 => ?_⟩
            · simp only [show ¬ scard t < scard b by omega, decide_false, Bool.false_eq_true, if_false] at ih
              exact ih
            · simp only [show scard t < scard b by omega, decide_true, if_true] at ih
              exact ih
theorem y_isNew {d t : Nat} {s : Sn} {iv : zI} {rv : zR} {lv : zJ} (hT : zTop rv) (vs : VS s) (ht : t < 2 ^ s.1) (hs : ∀ t, t < 2 ^ s.1 → iv 196 t = nI (ssum s t)) : Ci mX11_isNew d [.ref 174, .int (nI t)] iv rv lv (zP (bI (isn (ssum s) t)) iv rv lv) := by
  have n1 := n10 vs
  refine eX11_isNew _ (bX11_isNew_0 _ hT ?_)
  have key := zfor (c := t) (P := fun o => Zi mX11_isNew d 4 [some (.ref 174), some (.int (nI t)), some (.int (bI (!exB (fun o => ssum s o == ssum s t) o))), some (.int (nI o))] [] iv rv lv (zP (bI (isn (ssum s) t)) iv rv lv)) ?_ ?_
  · exact key 0 (by omega)
  · refine bX11_isNew_4 _ _ _ hT ⟨fun z => ⟨bI_01 _, zP.mk rfl⟩, fun _ => ⟨fun _ => ⟨bI_01 _, zP.mk rfl⟩, fun z => absurd (nI_le (by omega) (by omega)) z⟩⟩
  · intro o ho ih
    have s1 := ssum_le vs t
    have s2 := ssum_le vs o
    refine bX11_isNew_4 _ _ _ hT ⟨fun z => ⟨bI_01 _, zP.mk ?_⟩, fun z => ⟨fun y => absurd y (nI_ge ho (by omega)), fun _ => ?_⟩⟩
    · have z := (bI_0 _).mp z
      rw [z]
      unfold isn
      rw [Bool.not_eq_false'] at z
      obtain ⟨u, hu, y⟩ := (exB_iff _).mp z
      rw [(exB_iff _).mpr ⟨u, by omega, y⟩]
      rfl
    · have z := (bI_n0 _).mp z
      rw [Bool.not_eq_true'] at z
      rw [exB, z, Bool.false_or] at ih
      rw [nI_clamp (show o < 2 ^ 31 by omega), nI_clamp (show t < 2 ^ 31 by omega), hs o (by omega), hs t ht, nI_eq (by omega) (by omega), nI_1]
      refine ⟨vp_in_nI (by omega) (by decide), vp_in_nI (by omega) (by decide), fun y => ?_, fun y => ?_⟩
      · rw [beq_iff_eq.mpr y] at ih
        exact ih
      · rw [beq_eq_false_iff_ne.mpr y] at ih
        exact ih
theorem y_sums {d : Nat} {S : St} {iv : zI} {rv : zR} {lv : zJ} (hT : zTop rv) (h : MB S iv) (hv : VT S) : Ci mX11_sums (d + 9) [.ref 174] iv rv lv (YR (F_sums S).2 (F_sums S).1 iv rv lv) := by
  refine eX11_sums (bX11_sums_0 hT ?_)
  intro w0 e0
  have h0 : MB S w0 := e0 ▸ h.th
  have f0 : FM iv w0 := e0 ▸ FM.th
  unfold F_sums
  rw [h0.txt]
  cases e : S.2.1 with
  | none => exact ⟨fun q => absurd rfl q, fun _ => zcall (y_refused hT) hT (YR.tr' rfl h0 f0)⟩
  | some s =>
    have ms := h0.2.1.2 s e
    have vs := hv.2.1 s e
    have n1 := n10 vs
    refine ⟨fun _ => zcallQ (y_laysSums (d := d + 6) hT ms vs) ?_, fun q => absurd (show (1 : Int32) = 0 from q) (by decide)⟩
    rintro y a rv1 lv1 ⟨q0, q1, q2, g1, g2⟩
    have q1 := q1.symm
    have q2 := q2.symm
    subst q0 q1 q2
    have fn : FN w0 a := FN.of (fun p hp => g2 p (by omega))
    refine ⟨hT, ?_⟩
    have key := zfor (c := 2 ^ s.1) (P := fun t => Zi mX11_sums (d + 9) 27 [some (.ref 174), some (.int (nI (2 ^ s.1))), some (.int (nI (lk (isn (ssum s)) t))), some (.int (nI t))] [] a rv lv (YR (ok S (nI (lk (isn (ssum s)) (2 ^ s.1)))).2 (ok S (nI (lk (isn (ssum s)) (2 ^ s.1)))).1 iv rv lv)) ?_ ?_
    · exact key 0 (by omega)
    · exact bX11_sums_27 _ _ _ hT ⟨fun _ => zcall (y_good hT) hT (YR.fn rfl h0 f0 fn), fun z => absurd (nI_le (by omega) (by omega)) z⟩
    · intro t ht ih
      refine bX11_sums_27 _ _ _ hT ⟨fun z => absurd z (nI_ge ht (by omega)), fun _ => zcall (y_isNew hT vs ht g1) hT ?_⟩
      rw [lk_s] at ih
      rw [z_0, nI_add, nI_1, nI_1]
      cases q : isn (ssum s) t with
      | false =>
        rw [q] at ih
        exact ⟨fun _ => ih, fun z => absurd rfl z⟩
      | true =>
        rw [q] at ih
        exact ⟨fun z => absurd (show (1 : Int32) = 0 from z) (by decide), fun _ => ih⟩
theorem y_nearest {d : Nat} {S : St} {x : Int32} {iv : zI} {rv : zR} {lv : zJ} (hT : zTop rv) (h : MB S iv) (hv : VT S) : Ci mX11_nearest (d + 9) [.ref 174, .int x] iv rv lv (YR (F_nearest S x).2 (F_nearest S x).1 iv rv lv) := by
  refine eX11_nearest x (bX11_nearest_0 x hT ?_)
  intro w0 e0
  have h0 : MB S w0 := e0 ▸ h.th
  have f0 : FM iv w0 := e0 ▸ FM.th
  unfold F_nearest
  rw [h0.txt]
  cases e : S.2.1 with
  | none => exact ⟨fun q => absurd rfl q, fun _ => zcall (y_refused hT) hT (YR.tr' rfl h0 f0)⟩
  | some s =>
    have ms := h0.2.1.2 s e
    have vs := hv.2.1 s e
    have n1 := n10 vs
    refine ⟨fun _ => zcall (y_isSum hT) hT ?_, fun q => absurd (show (1 : Int32) = 0 from q) (by decide)⟩
    by_cases hx : x < 0 ∨ 99999 < x
    · rw [in_f hx]
      simp only [hx, if_true]
      exact ⟨fun q => absurd rfl q, fun _ => zcall (y_refused hT) hT (YR.tr' rfl h0 f0)⟩
    · rw [in_t (fun q => hx (Or.inl q)) (fun q => hx (Or.inr q))]
      simp only [hx, if_false]
      obtain ⟨j, j1, rfl⟩ := of_s hx
      refine ⟨fun _ => zcallQ (y_laysSums (d := d + 6) hT ms vs) ?_, fun q => absurd (show (1 : Int32) = 0 from q) (by decide)⟩
      rintro y a rv1 lv1 ⟨q0, q1, q2, g1, g2⟩
      have q1 := q1.symm
      have q2 := q2.symm
      subst q0 q1 q2
      rw [nI_clamp (by omega)]
      have fn : FN w0 a := FN.of (fun p hp => g2 p (by omega))
      have nb : ∀ m, nrA s j m ≤ 99990 := fun m => by
        rcases (nrA_ok s j m).1 with z | ⟨t, _, z⟩
        · omega
        · rw [← z]; exact ssum_le vs t
      refine ⟨hT, ?_⟩
      have key := zfor (c := 2 ^ s.1) (P := fun t => Zi mX11_nearest (d + 9) 41 [some (.ref 174), some (.int (nI j)), some (.int (nI (2 ^ s.1))), some (.int (nI (nrA s j t))), some (.int (nI t)), none, none] [] a rv lv (YR (ok S (nI (nrA s j (2 ^ s.1)))).2 (ok S (nI (nrA s j (2 ^ s.1)))).1 iv rv lv)) ?_ ?_
      · exact key 0 (by omega)
      · exact bX11_nearest_41 _ _ _ _ hT ⟨fun _ => zcall (y_good hT) hT (YR.fn rfl h0 f0 fn), fun z => absurd (nI_le (by omega) (by omega)) z⟩
      · intro t ht ih
        have sl := ssum_le vs t
        have bb := nb t
        rw [nrA] at ih
        have last : ∀ x5 y0 : Int32, x5 = nI (far j (ssum s t)) → y0 = nI (far j (nrA s j t)) → Zi mX11_nearest (d + 9) 95 [some (.ref 174), some (.int (nI j)), some (.int (nI (2 ^ s.1))), some (.int (nI (nrA s j t))), some (.int (nI t)), some (.int x5), none] [.int y0] a rv lv (YR (ok S (nI (nrA s j (2 ^ s.1)))).2 (ok S (nI (nrA s j (2 ^ s.1)))).1 iv rv lv) := by
          intro x5 y0 e5 e6
          subst e5 e6
          have f1 : far j (ssum s t) ≤ 200000 := by unfold far; split <;> omega
          have f2 : far j (nrA s j t) ≤ 200000 := by unfold far; split <;> omega
          refine bX11_nearest_95 _ _ _ _ _ _ hT ?_
          rw [nI_clamp (show t < 2 ^ 31 by omega), g1 t ht, nI_ltI (by omega) (by omega), nI_eq (by omega) (by omega), nI_leI (by omega) (by omega), nI_1]
          refine ⟨fun z => ⟨vp_in_nI (by omega) (by decide), by rw [if_pos (Or.inl z)] at ih; exact ih⟩, fun z => ⟨fun z2 => by rw [if_neg (by omega)] at ih; exact ih, fun z2 => ⟨vp_in_nI (by omega) (by decide), fun z3 => by rw [if_neg (by omega)] at ih; exact ih, fun z3 => by rw [if_pos (by omega)] at ih; exact ih⟩⟩⟩
        refine bX11_nearest_41 _ _ _ _ hT ⟨fun z => absurd z (nI_ge ht (by omega)), fun _ => ?_⟩
        rw [nI_clamp (show t < 2 ^ 31 by omega), g1 t ht, nI_leI (by omega) (by omega), nI_leI (by omega) (by omega)]
        refine ⟨vp_in_nI (by omega) (by decide), fun z => ⟨fun z2 => last _ _ ?_ ?_, fun z2 => last _ _ ?_ ?_⟩, fun z => ⟨fun z2 => last _ _ ?_ ?_, fun z2 => last _ _ ?_ ?_⟩⟩
        · unfold far; rw [if_pos z, pk_sub z]
        · unfold far; rw [if_pos z2, pk_sub z2]
        · unfold far; rw [if_pos z, pk_sub z]
        · unfold far; rw [if_neg z2, pk_sub (by omega)]
        · unfold far; rw [if_neg z, pk_sub (by omega)]
        · unfold far; rw [if_pos z2, pk_sub z2]
        · unfold far; rw [if_neg z, pk_sub (by omega)]
        · unfold far; rw [if_neg z2, pk_sub (by omega)]
