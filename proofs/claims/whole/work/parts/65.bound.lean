/-! BOUND: what is meant, and both sides. -/
def bd0 (s : Sn) (k : Nat) : Nat := max ((sm s.2.2.1 s.1 + k - 1) / k) (s.2.2.1 (un s.1 s.2.2.1 0))
def bd (s : Sn) (k : Nat) : Nat := if k < s.1 then max (bd0 s k) (s.2.2.1 (un s.1 s.2.2.1 (k - 1)) + s.2.2.1 (un s.1 s.2.2.1 k)) else bd0 s k
def F_bound (S : St) (k : Int32) : Int32 × St := match S.2.1 with
  | none => rf S 1
  | some s => if k < 2 ∨ 4 < k then rf S 2 else ok S (nI (bd s k.toNatClampNeg))
theorem x_bound {d : Nat} {S : St} {k : Int32} {iv : zI} {rv : zR} {lv : zJ} (hT : zTop rv) (h : CB S iv) (hv : VT S) : Ci mX10_bound (d + 9) [.ref 0, .int k] iv rv lv (XG (F_bound S k).2 (F_bound S k).1 iv rv lv) := by
  refine eX10_bound k (bX10_bound_0 k hT (zcall (x_noText hT) hT (zcall (x_noSuchHeaps hT) hT ?_)))
  rw [h.nt hv]
  have hn := h.2.1
  unfold F_bound
  cases e : S.2.1 with
  | none => exact zcall (x_refused (a := true) hT) hT ⟨fun q => absurd (show (1 : Int32) = 0 from q) (by decide), fun _ => XG.ans (t := 1) rfl h FL.refl⟩
  | some s =>
    rw [e] at hn
    obtain ⟨cs, c12⟩ := hn
    have vs := hv.2.1 s e
    have vn := vs.1
    by_cases hx : k < 2 ∨ 4 < k
    · simp only [hx, decide_true, if_true]
      exact zcall (x_refused (a := false) (b := true) hT) hT ⟨fun q => absurd (show (1 : Int32) = 0 from q) (by decide), fun _ => XG.ans (t := 2) rfl h FL.refl⟩
    · simp only [hx, decide_false, if_false]
      obtain ⟨j, j1, j2, rfl⟩ := of_k hx
      have smb : sm s.2.2.1 s.1 ≤ 9999 * s.1 := sm_le s.1 (fun i hi => (vs.2.2.1 i hi).2)
      have u0 := un_lt s.1 s.2.2.1 0 (by omega)
      have b0 := vs.2.2.1 _ u0
      refine zcall (x_refused (a := false) (b := false) hT) hT ⟨fun _ => zcall (s_total (v := s.2.2.1) (c := s.1) hT (by decide) cs.1 vn.2 cs.2.2.1) hT ?_, fun q => absurd rfl q⟩
      have c0 : iv (8 + 4) 0 = nI (un s.1 s.2.2.1 0) := c12 0 (by omega)
      have dv : (sm s.2.2.1 s.1 + j - 1) / j ≤ sm s.2.2.1 s.1 + j - 1 := Nat.div_le_self _ _
      simp only [Bool.false_eq_true, if_false]
      rw [nI_clamp (show j < 2 ^ 31 by omega), c0, nI_clamp (show un s.1 s.2.2.1 0 < 2 ^ 31 by omega), cs.2.2.1 _ u0, cs.1, nI_add, z_1, pk_sub (by omega), pk_div (by omega) (by omega) (by omega), zmx_nI (by omega) (by omega), nI_leI (by omega) (by omega)]
      have m0 : max ((sm s.2.2.1 s.1 + j - 1) / j) (s.2.2.1 (un s.1 s.2.2.1 0)) < 2 ^ 31 := by omega
      refine ⟨fun z => absurd z (show ¬ nI j = nI 0 from fun q => by rw [nI_eq (by omega) (by omega)] at q; omega), vp_in_nI (by omega) (by decide), fun q => zcall (x_answer hT) hT (XG.ans (t := 0) ?_ h FL.refl), fun q => ?_⟩
      · unfold bd
        rw [if_neg (by omega)]
        rfl
      · have u1 := un_lt s.1 s.2.2.1 (j - 1) (by omega)
        have u2 := un_lt s.1 s.2.2.1 j (by omega)
        have b1 := vs.2.2.1 _ u1
        have b2 := vs.2.2.1 _ u2
        have c1 : iv (8 + 4) (j - 1) = nI (un s.1 s.2.2.1 (j - 1)) := c12 (j - 1) (by omega)
        have c2 : iv (8 + 4) j = nI (un s.1 s.2.2.1 j) := c12 j (by omega)
        rw [pk_sub (show 1 ≤ j by omega), nI_clamp (show j - 1 < 2 ^ 31 by omega), c1, c2, nI_clamp (show un s.1 s.2.2.1 (j - 1) < 2 ^ 31 by omega), nI_clamp (show un s.1 s.2.2.1 j < 2 ^ 31 by omega), cs.2.2.1 _ u1, cs.2.2.1 _ u2, nI_add, zmx_nI m0 (by omega)]
        refine ⟨vp_in_nI (by omega) (by decide), vp_in_nI (by omega) (by decide), vp_in_nI (by omega) (by decide), vp_in_nI (by omega) (by decide), zcall (x_answer hT) hT (XG.ans (t := 0) ?_ h FL.refl)⟩
        unfold bd
        rw [if_pos (by omega)]
        rfl
theorem y_bound {d : Nat} {S : St} {k : Int32} {iv : zI} {rv : zR} {lv : zJ} (hT : zTop rv) (h : MB S iv) (hv : VT S) : Ci mX11_bound (d + 9) [.ref 174, .int k] iv rv lv (YR (F_bound S k).2 (F_bound S k).1 iv rv lv) := by
  refine eX11_bound k (bX11_bound_0 k hT ?_)
  intro w0 e0
  have h0 : MB S w0 := e0 ▸ h.th
  have f0 : FM iv w0 := e0 ▸ FM.th
  unfold F_bound
  rw [h0.txt]
  cases e : S.2.1 with
  | none => exact ⟨fun q => absurd rfl q, fun _ => zcall (y_refused hT) hT (YR.tr' rfl h0 f0)⟩
  | some s =>
    have ms := h0.2.1.2 s e
    have vs := hv.2.1 s e
    have vn := vs.1
    have n1 : w0 176 0 = nI s.1 := ms.1
    have vb : ∀ i, i < s.1 → s.2.2.1 i < 100000 := fun i hi => by have := (vs.2.2.1 i hi).2; omega
    refine ⟨fun _ => zcall (y_isK hT) hT ?_, fun q => absurd (show (1 : Int32) = 0 from q) (by decide)⟩
    by_cases hx : k < 2 ∨ 4 < k
    · rw [in_f hx]
      simp only [hx, if_true]
      exact ⟨fun q => absurd rfl q, fun _ => zcall (y_refused hT) hT (YR.tr' rfl h0 f0)⟩
    · rw [in_t (fun q => hx (Or.inl q)) (fun q => hx (Or.inr q))]
      simp only [hx, if_false]
      obtain ⟨j, j1, j2, rfl⟩ := of_k hx
      have smb : sm s.2.2.1 s.1 ≤ 9999 * s.1 := sm_le s.1 (fun i hi => (vs.2.2.1 i hi).2)
      have u0 := un_lt s.1 s.2.2.1 0 (by omega)
      have b0 := vs.2.2.1 _ u0
      have dv : (sm s.2.2.1 s.1 + j - 1) / j ≤ sm s.2.2.1 s.1 + j - 1 := Nat.div_le_self _ _
      have m0 : bd0 s j < 2 ^ 31 := by unfold bd0; omega
      have fin : ∀ (y : Int32) (x2 x3 : Int32), y = nI (bd0 s j) → Zi mX11_bound (d + 9) 62 [some (.ref 174), some (.int (nI j)), some (.int x2), some (.int x3), none] [.int y] w0 rv lv (YR (ok S (nI (bd s j))).2 (ok S (nI (bd s j))).1 iv rv lv) := by
        intro y x2 x3 ey
        subst ey
        refine bX11_bound_62 _ _ _ _ hT ?_
        rw [n1, nI_leI (by omega) (by omega)]
        refine ⟨fun q => ⟨fun _ => zcall (y_good hT) hT (YR.tr' ?_ h0 f0), fun z => absurd (nI_pos' m0) z⟩, fun q => ?_⟩
        · unfold bd
          rw [if_neg (by omega)]
          rfl
        · have u1 := un_lt s.1 s.2.2.1 (j - 1) (by omega)
          have u2 := un_lt s.1 s.2.2.1 j (by omega)
          have b1 := vs.2.2.1 _ u1
          have b2 := vs.2.2.1 _ u2
          rw [z_1, pk_sub (show 1 ≤ j by omega)]
          refine zcall (y_ranked hT n1 vn.2 ms.vals vb (by omega)) hT (zcall (y_value hT ms.vals vn.2 u1) hT (zcall (y_ranked hT n1 vn.2 ms.vals vb (by omega)) hT (zcall (y_value hT ms.vals vn.2 u2) hT ?_)))
          rw [nI_add, nI_leI (by omega) m0]
          have eb : bd s j = max (bd0 s j) (s.2.2.1 (un s.1 s.2.2.1 (j - 1)) + s.2.2.1 (un s.1 s.2.2.1 j)) := if_pos (by omega)
          refine ⟨fun z => zcall (y_good hT) hT (YR.tr' ?_ h0 f0), fun z => zcall (y_good hT) hT (YR.tr' ?_ h0 f0)⟩
          · rw [eb, Nat.max_eq_left z]
            rfl
          · rw [eb, Nat.max_eq_right (by omega)]
            rfl
      rw [nI_clamp (show j < 2 ^ 31 by omega)]
      refine ⟨fun _ => zcall (y_total hT n1 vn.2 ms.vals) hT ⟨fun z => absurd z (show ¬ nI j = nI 0 from fun q => by rw [nI_eq (by omega) (by omega)] at q; omega), zcall (y_ranked (r := 0) hT n1 vn.2 ms.vals vb (by omega)) hT (zcall (y_value hT ms.vals vn.2 u0) hT ?_)⟩, fun q => absurd (show (1 : Int32) = 0 from q) (by decide)⟩
      rw [nI_add, z_1, pk_sub (by omega), pk_div (by omega) (by omega) (by omega), nI_leI (by omega) (by omega)]
      refine ⟨fun z => fin _ _ _ ?_, fun z => fin _ _ _ ?_⟩
      · unfold bd0
        rw [Nat.max_eq_left z]
      · unfold bd0
        rw [Nat.max_eq_right (by omega)]
