theorem y_least {d : Nat} {S : St} {k w : Int32} {iv : zI} {rv : zR} {lv : zJ} (hT : zTop rv) (h : MB S iv) (hv : VT S) : Ci mX11_least (d + 31) [.ref 174, .int k, .int w] iv rv lv (YR (F_least S k w).2 (F_least S k w).1 iv rv lv) := by
  refine eX11_least k w (bX11_least_0 k w hT ?_)
  intro w0 e0
  have h0 : MB S w0 := e0 ▸ h.th
  have f0 : FM iv w0 := e0 ▸ FM.th
  unfold F_least
  rw [h0.txt]
  cases e : S.2.1 with
  | none => exact ⟨fun _ => zcall (y_refused hT) hT (YR.tr' rfl h0 f0), fun q => absurd rfl q⟩
  | some s =>
    have ms := h0.2.1.2 s e
    have vs := hv.2.1 s e
    refine ⟨fun q => absurd (show (1 : Int32) = 0 from q) (by decide), fun _ => zcall (y_in hT) hT ?_⟩
    by_cases hw : w < 0 ∨ 1 < w
    · rw [in_f hw]
      simp only [hw, if_true]
      exact ⟨fun q => absurd rfl q, fun _ => zcall (y_refused hT) hT (YR.tr' rfl h0 f0)⟩
    · rw [in_t (fun q => hw (Or.inl q)) (fun q => hw (Or.inr q))]
      simp only [hw, if_false]
      refine ⟨fun _ => zcall (y_isK hT) hT ?_, fun q => absurd (show (1 : Int32) = 0 from q) (by decide)⟩
      by_cases hx : k < 2 ∨ 4 < k
      · rw [in_f hx]
        simp only [hx, if_true]
        exact ⟨fun q => absurd rfl q, fun _ => zcall (y_refused hT) hT (YR.tr' rfl h0 f0)⟩
      · rw [in_t (fun q => hx (Or.inl q)) (fun q => hx (Or.inr q))]
        simp only [hx, if_false]
        obtain ⟨j, j1, j2, rfl⟩ := of_k hx
        refine ⟨fun _ => zcallQ (y_areRows (d := d + 10) hT ms vs j1 j2) ?_, fun q => absurd (show (1 : Int32) = 0 from q) (by decide)⟩
        rintro _ a _ _ ⟨rfl, rfl, rfl, g1, g2⟩
        rw [nI_clamp (by omega)]
        have lp := lq_pos vs j
        refine ⟨hT, fun z => ?_, fun z => ?_⟩
        · have z : 0 < rq s j := of_decide_eq_true ((bI_n0 _).mp z)
          obtain ⟨b1, b2, b3, b4, b5, b6⟩ := g1.2.2 z
          rw [if_neg (show ¬ (lq s j).2.1 = 0 by have := lp.mpr z; omega)]
          refine ⟨fun q => ?_, fun q => ?_⟩
          · rw [if_neg q]
            exact zcall (y_good hT) hT (YR.fn b3 h0 f0 g2.fn)
          · rw [if_pos q]
            exact zcall (y_good hT) hT (YR.fn b2 h0 f0 g2.fn)
        · have z : ¬ 0 < rq s j := of_decide_eq_false ((bI_0 _).mp z)
          rw [if_pos (show (lq s j).2.1 = 0 by
            rcases Nat.eq_zero_or_pos (lq s j).2.1 with y | y
            · exact y
            · exact absurd (lp.mp y) z)]
          exact zcall (y_refused hT) hT (YR.fn rfl h0 f0 g2.fn)
theorem y_leastOf {d : Nat} {S : St} {k x : Int32} {iv : zI} {rv : zR} {lv : zJ} (hT : zTop rv) (h : MB S iv) (hv : VT S) : Ci mX11_leastOf (d + 31) [.ref 174, .int k, .int x] iv rv lv (YR (F_leastOf S k x).2 (F_leastOf S k x).1 iv rv lv) := by
  refine eX11_leastOf k x (bX11_leastOf_0 k x hT ?_)
  intro w0 e0
  have h0 : MB S w0 := e0 ▸ h.th
  have f0 : FM iv w0 := e0 ▸ FM.th
  unfold F_leastOf
  rcases nOf_cases S x hv with ⟨hn, hx⟩ | ⟨s, i, hn, es, hi, rfl⟩
  · rw [hn]
    exact zcall (y_isN0 hT h0 hv hx) hT ⟨fun q => absurd rfl q, fun _ => zcall (y_refused hT) hT (YR.tr' rfl h0 f0)⟩
  · rw [hn]
    have ms := h0.2.1.2 s es
    have vs := hv.2.1 s es
    have vn := vs.1
    simp only
    refine zcall (y_isN1 hT h0 hv es hi) hT ⟨fun _ => zcall (y_isK hT) hT ?_, fun q => absurd (show (1 : Int32) = 0 from q) (by decide)⟩
    by_cases hx : k < 2 ∨ 4 < k
    · rw [in_f hx]
      simp only [hx, if_true]
      exact ⟨fun q => absurd rfl q, fun _ => zcall (y_refused hT) hT (YR.tr' rfl h0 f0)⟩
    · rw [in_t (fun q => hx (Or.inl q)) (fun q => hx (Or.inr q))]
      simp only [hx, if_false]
      obtain ⟨j, j1, j2, rfl⟩ := of_k hx
      refine ⟨fun _ => zcallQ (y_areRows (d := d + 10) hT ms vs j1 j2) ?_, fun q => absurd (show (1 : Int32) = 0 from q) (by decide)⟩
      rintro _ a _ _ ⟨rfl, rfl, rfl, g1, g2⟩
      rw [nI_clamp (show j < 2 ^ 31 by omega)]
      have lp := lq_pos vs j
      refine ⟨hT, fun z => ?_, fun z => ?_⟩
      · have z : ¬ 0 < rq s j := of_decide_eq_false ((bI_0 _).mp z)
        rw [if_pos (show (lq s j).2.1 = 0 by
          rcases Nat.eq_zero_or_pos (lq s j).2.1 with y | y
          · exact y
          · exact absurd (lp.mp y) z)]
        exact zcall (y_refused hT) hT (YR.fn rfl h0 f0 g2.fn)
      · have z : 0 < rq s j := of_decide_eq_true ((bI_n0 _).mp z)
        obtain ⟨b1, b2, b3, b4, b5, b6⟩ := g1.2.2 z
        rw [if_neg (show ¬ (lq s j).2.1 = 0 by have := lp.mpr z; omega), nI_clamp (show i < 2 ^ 31 by omega)]
        exact ⟨vp_in_nI (by omega) (by decide), zcall (y_good hT) hT (YR.fn (b6 i hi) h0 f0 g2.fn)⟩
theorem y_flat {d : Nat} {S : St} {k : Int32} {iv : zI} {rv : zR} {lv : zJ} (hT : zTop rv) (h : MB S iv) (hv : VT S) : Ci mX11_flat (d + 31) [.ref 174, .int k] iv rv lv (YR (F_flat S k).2 (F_flat S k).1 iv rv lv) := by
  refine eX11_flat k (bX11_flat_0 k hT ?_)
  intro w0 e0
  have h0 : MB S w0 := e0 ▸ h.th
  have f0 : FM iv w0 := e0 ▸ FM.th
  unfold F_flat
  rw [h0.txt]
  cases e : S.2.1 with
  | none => exact ⟨fun q => absurd rfl q, fun _ => zcall (y_refused hT) hT (YR.tr' rfl h0 f0)⟩
  | some s =>
    have ms := h0.2.1.2 s e
    have vs := hv.2.1 s e
    refine ⟨fun _ => zcall (y_isK hT) hT ?_, fun q => absurd (show (1 : Int32) = 0 from q) (by decide)⟩
    by_cases hx : k < 2 ∨ 4 < k
    · rw [in_f hx]
      simp only [hx, if_true]
      exact ⟨fun q => absurd rfl q, fun _ => zcall (y_refused hT) hT (YR.tr' rfl h0 f0)⟩
    · rw [in_t (fun q => hx (Or.inl q)) (fun q => hx (Or.inr q))]
      simp only [hx, if_false]
      obtain ⟨j, j1, j2, rfl⟩ := of_k hx
      refine ⟨fun _ => zcallQ (y_areRows (d := d + 10) hT ms vs j1 j2) ?_, fun q => absurd (show (1 : Int32) = 0 from q) (by decide)⟩
      rintro _ a _ _ ⟨rfl, rfl, rfl, g1, g2⟩
      rw [nI_clamp (by omega)]
      have lp := lq_pos vs j
      refine ⟨hT, fun z => ?_, fun z => ?_⟩
      · have z : ¬ 0 < rq s j := of_decide_eq_false ((bI_0 _).mp z)
        rw [if_pos (show (lq s j).2.1 = 0 by
          rcases Nat.eq_zero_or_pos (lq s j).2.1 with y | y
          · exact y
          · exact absurd (lp.mp y) z)]
        exact zcall (y_refused hT) hT (YR.fn rfl h0 f0 g2.fn)
      · have z : 0 < rq s j := of_decide_eq_true ((bI_n0 _).mp z)
        obtain ⟨b1, b2, b3, b4, b5, b6⟩ := g1.2.2 z
        rw [if_neg (show ¬ (lq s j).2.1 = 0 by have := lp.mpr z; omega)]
        exact zcall (y_good hT) hT (YR.fn b4 h0 f0 g2.fn)
theorem y_rows {d : Nat} {S : St} {k : Int32} {iv : zI} {rv : zR} {lv : zJ} (hT : zTop rv) (h : MB S iv) (hv : VT S) : Ci mX11_rows (d + 31) [.ref 174, .int k] iv rv lv (YR (F_rows S k).2 (F_rows S k).1 iv rv lv) := by
  refine eX11_rows k (bX11_rows_0 k hT ?_)
  intro w0 e0
  have h0 : MB S w0 := e0 ▸ h.th
  have f0 : FM iv w0 := e0 ▸ FM.th
  unfold F_rows
  rw [h0.txt]
  cases e : S.2.1 with
  | none => exact ⟨fun q => absurd rfl q, fun _ => zcall (y_refused hT) hT (YR.tr' rfl h0 f0)⟩
  | some s =>
    have ms := h0.2.1.2 s e
    have vs := hv.2.1 s e
    refine ⟨fun _ => zcall (y_isK hT) hT ?_, fun q => absurd (show (1 : Int32) = 0 from q) (by decide)⟩
    by_cases hx : k < 2 ∨ 4 < k
    · rw [in_f hx]
      simp only [hx, if_true]
      exact ⟨fun q => absurd rfl q, fun _ => zcall (y_refused hT) hT (YR.tr' rfl h0 f0)⟩
    · rw [in_t (fun q => hx (Or.inl q)) (fun q => hx (Or.inr q))]
      simp only [hx, if_false]
      obtain ⟨j, j1, j2, rfl⟩ := of_k hx
      refine ⟨fun _ => zcallQ (y_areRows (d := d + 10) hT ms vs j1 j2) ?_, fun q => absurd (show (1 : Int32) = 0 from q) (by decide)⟩
      rintro _ a _ _ ⟨rfl, rfl, rfl, g1, g2⟩
      rw [nI_clamp (by omega)]
      refine ⟨hT, fun z => ?_, fun z => ?_⟩
      · have z : ¬ 0 < rq s j := of_decide_eq_false ((bI_0 _).mp z)
        rw [show rq s j = 0 by omega]
        exact zcall (y_good hT) hT (YR.fn rfl h0 f0 g2.fn)
      · exact zcall (y_good hT) hT (YR.fn g1.1 h0 f0 g2.fn)
