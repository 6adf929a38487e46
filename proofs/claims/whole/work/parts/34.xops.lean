/-! THE CLASS: what is told, and acts. -/
theorem XR.tr' {S : St} {t : Nat} {y r : Int32} {iv : zI} {rv : zR} {lv : zJ} (e : y = r) (h : CB S iv) : XR (sT S t) r iv rv lv y (zu (zu iv 0 12 (nI t)) 0 14 (-1)) rv lv := ⟨e, rfl, rfl, h.tr, fun a h1 _ => by rw [zu_row (by omega), zu_row (by omega)]⟩
theorem CB.nt {S : St} {iv : zI} (h : CB S iv) (hv : VT S) : decide (iv 8 0 = 0) = S.2.1.isNone := by
  have hn := h.2.1
  cases e : S.2.1 with
  | none =>
    rw [e] at hn
    have hn : iv 8 0 = nI 0 := hn
    rw [hn]
    rfl
  | some s =>
    rw [e] at hn
    have h1 := (hv.2.1 s e).1
    rw [hn.1.1]
    have : ¬ nI s.1 = 0 := nI_ne0 (by omega) (by omega)
    simp [this]
theorem CB.nn0 {S : St} {iv : zI} {x : Int32} (h : CB S iv) (hx : ∀ s, S.2.1 = some s → x < 0 ∨ nI s.1 ≤ x) : decide (x < 0 ∨ iv 8 0 ≤ x) = true := by
  have hn := h.2.1
  cases e : S.2.1 with
  | none =>
    rw [e] at hn
    have hn : iv 8 0 = nI 0 := hn
    rw [hn]
    simp only [decide_eq_true_eq]
    rcases Int32.lt_or_le x 0 with q | q
    · exact Or.inl q
    · exact Or.inr q
  | some s =>
    rw [e] at hn
    rw [hn.1.1]
    simp only [decide_eq_true_eq]
    exact hx s e
theorem CB.nn1 {S : St} {iv : zI} {s : Sn} {i : Nat} (h : CB S iv) (hv : VT S) (e : S.2.1 = some s) (hi : i < s.1) : decide (nI i < 0 ∨ iv 8 0 ≤ nI i) = false := by
  have hn := h.2.1
  rw [e] at hn
  have h1 := (hv.2.1 s e).1
  rw [hn.1.1]
  have a : ¬ nI i < 0 := nI_pos (by omega)
  have b : ¬ nI s.1 ≤ nI i := nI_ge hi (by omega)
  simp [a, b]
theorem x_about {d : Nat} {S : St} {w : Int32} {iv : zI} {rv : zR} {lv : zJ} (hT : zTop rv) (h : CB S iv) (hv : VT S) : Ci mX10_about (d + 9) [.ref 0, .int w] iv rv lv (XR (F_about S w).2 (F_about S w).1 iv rv lv) := by
  refine eX10_about w (bX10_about_0 w hT (zcall (x_noText hT) hT ?_))
  rw [h.nt hv]
  have hn := h.2.1
  unfold F_about
  cases e : S.2.1 with
  | none => exact ⟨fun q => absurd q (by decide), fun _ => zcall (x_refuse hT) hT (XR.tr' rfl h)⟩
  | some s =>
    rw [e] at hn
    obtain ⟨⟨c1, c2, c3, c4, c5⟩, c6⟩ := hn
    have vs := hv.2.1 s e
    have vn := vs.1
    have hh := hv.2.2.1.1
    have u0 := un_lt s.1 s.2.2.1 0 (by omega)
    have u1 := un_lt s.1 s.2.2.1 (s.1 - 1) (by omega)
    refine ⟨fun _ => ⟨fun hw => ?_, fun hw => ?_, fun hw => ?_, fun hw => ?_, fun hw => ?_, fun hw => ?_, fun hw => ?_, fun hw => ?_, fun w0 w1 w2 w3 w4 w5 w6 w7 => ?_⟩, fun q => absurd rfl q⟩
    · subst hw
      exact zcall (x_answer hT) hT (XR.tr' c1 h)
    · subst hw
      exact zcall (x_answer hT) hT (XR.tr' c2 h)
    · subst hw
      exact zcall (s_total (o := 8) hT (by decide) c1 vn.2 c3) hT (zcall (x_answer hT) hT (XR.tr' rfl h))
    · subst hw
      exact zcall (s_kept (o := 8) hT (by decide) c1 vn.2 c4 vs.2.2.2.1) hT (zcall (x_answer hT) hT (XR.tr' rfl h))
    · subst hw
      exact zcall (s_pairs (o := 8) hT (by decide) c1 vn.2 c5 vs.2.2.2.2.1) hT (zcall (x_answer hT) hT (XR.tr' rfl h))
    · subst hw
      obtain ⟨nx, -, -, h3, -⟩ := h.2.2.1
      exact zcall (x_answer hT) hT (XR.tr' h3 h)
    · subst hw
      have a1 : iv (8 + 4) 0 = nI (un s.1 s.2.2.1 0) := c6 0 (by omega)
      rw [a1, nI_clamp (by omega)]
      exact ⟨vp_in_nI (by omega) (by decide), zcall (x_answer hT) hT (XR.tr' (c3 _ u0) h)⟩
    · subst hw
      have a1 : iv (8 + 4) (s.1 - 1) = nI (un s.1 s.2.2.1 (s.1 - 1)) := c6 _ (by omega)
      rw [c1, z_1, pk_sub (by omega), nI_clamp (show s.1 - 1 < 2 ^ 31 by omega), a1, nI_clamp (show un s.1 s.2.2.1 (s.1 - 1) < 2 ^ 31 by omega)]
      exact ⟨vp_in_nI (by omega) (by decide), vp_in_nI (by omega) (by decide), zcall (x_answer hT) hT (XR.tr' (c3 _ u1) h)⟩
    · simp only [w0, w1, w2, w3, w4, w5, w6, w7, if_false]
      exact zcall (x_refuse hT) hT (XR.tr' rfl h)
theorem x_number {d : Nat} {S : St} {x w : Int32} {iv : zI} {rv : zR} {lv : zJ} (hT : zTop rv) (h : CB S iv) (hv : VT S) : Ci mX10_number (d + 9) [.ref 0, .int x, .int w] iv rv lv (XR (F_number S x w).2 (F_number S x w).1 iv rv lv) := by
  refine eX10_number x w (bX10_number_0 x w hT (zcall (x_noNumber hT) hT ?_))
  unfold F_number
  rcases nOf_cases S x hv with ⟨e, hx⟩ | ⟨s, i, e, es, hi, rfl⟩
  · rw [h.nn0 hx, e]
    exact ⟨fun q => absurd q (by decide), fun _ => zcall (x_refuse hT) hT (XR.tr' rfl h)⟩
  · rw [h.nn1 hv es hi, e]
    have hn := h.2.1
    rw [es] at hn
    obtain ⟨⟨c1, c2, c3, c4, c5⟩, c6⟩ := hn
    have vn := (hv.2.1 s es).1
    refine ⟨fun _ => ⟨fun hw => ⟨vp_in_nI (by omega) (by decide), ?_⟩, fun hw => ?_, fun hw => ⟨vp_in_nI (by omega) (by decide), ?_⟩, fun hw => ⟨vp_in_nI (by omega) (by decide), ?_⟩, fun w0 w1 w2 w3 => ?_⟩, fun q => absurd rfl q⟩
    · subst hw
      rw [nI_clamp (by omega)]
      exact zcall (x_answer hT) hT (XR.tr' (c3 i hi) h)
    · subst hw
      exact zcall (s_place (o := 8) hT (by decide) c1 vn.2 c6 hi) hT (zcall (x_answer hT) hT (XR.tr' rfl h))
    · subst hw
      rw [nI_clamp (by omega)]
      exact zcall (x_answer hT) hT (XR.tr' (c4 i hi) h)
    · subst hw
      rw [nI_clamp (by omega)]
      exact zcall (x_answer hT) hT (XR.tr' (c5 i hi) h)
    · simp only [w0, w1, w2, w3, if_false]
      exact zcall (x_refuse hT) hT (XR.tr' rfl h)
theorem x_sized {d : Nat} {S : St} {x : Int32} {iv : zI} {rv : zR} {lv : zJ} (hT : zTop rv) (h : CB S iv) (hv : VT S) : Ci mX10_sized (d + 9) [.ref 0, .int x] iv rv lv (XR (F_sized S x).2 (F_sized S x).1 iv rv lv) := by
  refine eX10_sized x (bX10_sized_0 x hT (zcall (x_noNumber hT) hT ?_))
  unfold F_sized
  rcases nOf_cases S x hv with ⟨e, hx⟩ | ⟨s, i, e, es, hi, rfl⟩
  · rw [h.nn0 hx, e]
    exact ⟨fun q => absurd q (by decide), fun _ => zcall (x_refuse hT) hT (XR.tr' rfl h)⟩
  · rw [h.nn1 hv es hi, e]
    have hn := h.2.1
    rw [es] at hn
    have vn := (hv.2.1 s es).1
    refine ⟨fun _ => ⟨vp_in_nI (by omega) (by decide), ?_⟩, fun q => absurd rfl q⟩
    rw [nI_clamp (by omega)]
    exact zcall (x_answer hT) hT (XR.tr' (hn.2 i hi) h)
/-- an act's end with its answer -/
theorem act_ans {d : Nat} {S : St} {s s' : Sn} {iv w : zI} {rv : zR} {lv : zJ} {f : zI → Int32} {r : Int32} {Q : Int32 → zI → zR → zJ → Prop} (hT : zTop rv) (h : CB S iv) (hr : ∀ a, a < 8 ∨ 65 < a → w a = iv a) (hH : HB w ((s :: S.2.2.1).take 10)) (hs : CS w 8 s') (hv : VS s') (hf : ∀ w2 : zI, w2 8 = w 8 → w2 13 = w 13 → f w2 = r) (hQ : ∀ a, XR (sA S s s') r iv rv lv r a rv lv → Q r a rv lv) :
    ∃ Q1 : zI → zR → zJ → Prop, Cv mX10_changed (d + 1) [.ref 0] w rv lv Q1 ∧ ∀ (a : zI) (b : zR) (c : zJ), Q1 a b c → zTop b ∧ ∃ Q2 : Int32 → zI → zR → zJ → Prop, Ci mX10_answer (d + 1) [.ref 0, .int (f a)] a b c Q2 ∧ ∀ (x : Int32) (a : zI) (b : zR) (c : zJ), Q2 x a b c → zTop b ∧ Q x a b c := by
  refine act_end hT h hr hH hs hv ?_
  intro w2 e1 e2 hC hF
  rw [hf w2 e1 e2]
  exact zcall (x_answer hT) hT (hQ _ ⟨rfl, rfl, rfl, hC, hF⟩)
theorem x_add {d : Nat} {S : St} {x : Int32} {iv : zI} {rv : zR} {lv : zJ} (hT : zTop rv) (h : CB S iv) (hv : VT S) : Ci mX10_add (d + 9) [.ref 0, .int x] iv rv lv (XR (F_add S x).2 (F_add S x).1 iv rv lv) := by
  refine eX10_add x (bX10_add_0 x hT (zcall (x_noText hT) hT (zcall (x_noSuchValue hT) hT ?_)))
  rw [h.nt hv]
  unfold F_add
  have hn := h.2.1
  cases e : S.2.1 with
  | none => exact zcall (x_refused hT) hT ⟨fun q => absurd (show (1 : Int32) = 0 from q) (by decide), fun _ => XR.tr' rfl h⟩
  | some s =>
    rw [e] at hn
    obtain ⟨cs, c6⟩ := hn
    have vs := hv.2.1 s e
    have vn := vs.1
    by_cases hx : x < 1 ∨ 9999 < x
    · simp only [hx, decide_true]
      exact zcall (x_refused hT) hT ⟨fun q => absurd (show (1 : Int32) = 0 from q) (by decide), fun _ => XR.tr' rfl h⟩
    · simp only [hx, decide_false, if_false]
      refine zcall (x_refused hT) hT ⟨fun _ => ?_, fun q => absurd rfl q⟩
      simp only [Option.isNone, if_false, Bool.false_eq_true]
      rw [cs.1]
      by_cases h10 : s.1 = 10
      · rw [if_pos h10]
        exact ⟨fun q => absurd q (show ¬ nI s.1 < nI 10 from nI_nlt (by omega) (by omega)), fun _ => zcall (x_refuse hT) hT (XR.tr' rfl h)⟩
      · rw [if_neg h10]
        refine ⟨fun _ => ?_, fun q => absurd (show nI s.1 < nI 10 from nI_lt (by omega) (by omega)) q⟩
        obtain ⟨j, hj, rfl⟩ : ∃ j : Nat, j ≤ 9999 ∧ x = nI j := nI_of2 (M := 9999) rfl (fun q => hx (Or.inl (Int32.lt_trans q (by decide)))) (Int32.not_lt.mp (fun q => hx (Or.inr q)))
        have j1 : 1 ≤ j := by
          rcases Nat.eq_zero_or_pos j with q | q
          · subst q
            exact absurd (Or.inl (by decide)) hx
          · exact q
        rw [nI_clamp (by omega)]
        refine ⟨_, x_keepAct hT h.2.2.1 hv.2.2.1.1 cs vn.2, ?_⟩
        rintro r w _ _ ⟨rfl, rfl, m1, m2, m3, m4, m5, m6⟩
        refine ⟨hT, m1, zcallV (s_append (o := 8) (c := s.1) hT (by decide) (by rw [m6 8 (by omega)]; exact cs.1) (by omega)) ?_⟩
        rintro w1 _ _ ⟨rfl, rfl, a0, a1, a2, a3, a4⟩
        have cs1 : CS w1 8 (addS s j) := by
          obtain ⟨b1, b2, b3, b4, b5⟩ := cs.fr (iv' := w) (fun t ht => m6 (8 + t) (by omega))
          refine ⟨by rw [a0, zu_eq]; rfl, by rw [a0, zu_k (by decide)]; exact b2, fun i hi => ?_, fun i hi => ?_, fun i hi => ?_⟩
          · have hi : i < s.1 + 1 := hi
            rw [a1]
            show zu w (8 + 1) s.1 (nI j) (8 + 1) i = nI (if i = s.1 then j else s.2.2.1 i)
            by_cases q : i = s.1
            · rw [q, zu_eq, if_pos rfl]
            · rw [zu_k q, if_neg q]; exact b3 i (by omega)
          · have hi : i < s.1 + 1 := hi
            rw [a2]
            show zu w (8 + 2) s.1 (-2) (8 + 2) i = kpI (if i = s.1 then 0 else s.2.2.2.1 i)
            by_cases q : i = s.1
            · rw [q, zu_eq, if_pos rfl]; rfl
            · rw [zu_k q, if_neg q]; exact b4 i (by omega)
          · have hi : i < s.1 + 1 := hi
            rw [a3]
            show zu w (8 + 3) s.1 0 (8 + 3) i = nI (mk (apb s.2.2.2.2 i) (s.1 + 1))
            have last : apb s.2.2.2.2 i s.1 = false := by
              cases c : apb s.2.2.2.2 i s.1 with
              | false => rfl
              | true => exact absurd (apb_lt vs.2.2.2.2.1 c).2.1 (by omega)
            by_cases q : i = s.1
            · rw [q, zu_eq]
              have : mk (apb s.2.2.2.2 s.1) (s.1 + 1) = 0 := Nat.eq_of_testBit_eq fun t => by
                rw [mk_bit]
                cases c : apb s.2.2.2.2 s.1 t with
                | false => simp
                | true => exact absurd (apb_lt vs.2.2.2.2.1 c).1 (by omega)
              rw [this]
              rfl
            · rw [zu_k q]
              have : mk (apb s.2.2.2.2 i) (s.1 + 1) = mk (apb s.2.2.2.2 i) s.1 := by simp [mk, last]
              rw [this]
              exact b5 i (by omega)
        refine ⟨hT, act_ans (f := fun a => a 8 0) (r := nI (s.1 + 1)) hT h (fun a ha => by rw [a4 a (by omega), m6 a (by omega)]) (m4.fr (fun a p q => a4 a (by omega))) cs1 (VS_add vs (by omega) j1 hj) (fun w2 e1 _ => by rw [e1]; exact cs1.1) (fun a q => q)⟩
