/-! THE CLASS: the search is kept for as long as nothing has changed. -/
abbrev ver (S : St) : Nat := S.2.2.2.2.2.2
abbrev sTp (s : Sn) : Nat := sm s.2.2.1 s.1 % 2
def Cs (S : St) (w : zI) : Prop := w 86 10 = -1 ∨ ∃ v, v ≤ ver S ∧ w 86 10 = nI v ∧ (v = ver S → ∀ s, S.2.1 = some s → SC w (sTp s) (srch s))
def XS (S' : St) (r : Int32) (iv : zI) (rv : zR) (lv : zJ) : Int32 → zI → zR → zJ → Prop := fun y a b c => y = r ∧ b = rv ∧ c = lv ∧ CB S' a ∧ Cs S' a ∧ ∀ p, 130 ≤ p → a p = iv p
theorem srch_lst {s : Sn} (vs : VS s) : sLst (srch s) < 2 ^ 31 := by
  have vn := vs.1
  have pb : 9999 * 2 ^ (s.1 - 1) ≤ 9999 * 2 ^ 9 := Nat.mul_le_mul_left _ (Nat.pow_le_pow_right (by omega) (by omega))
  exact sv_LB (tp := sTp s) s.1 (tk s.2.2.1 s.1) st0 9999 vn.1 (tk_b s.1 vn.2 (fun i hi => (vs.2.2.1 i hi).2)) (by omega) (fun z => absurd z (Nat.lt_irrefl _)) (srch_ok vs).2.2.2
theorem nI_m1 {v : Nat} (hv : v < 2 ^ 31) : ¬ (-1 : Int32) = nI v := by
  intro q
  have : (0 : Int32) ≤ nI v := nI_pos' hv
  rw [← q] at this
  exact absurd this (by decide)
theorem x_prepS {d v : Nat} {s : Sn} {iv : zI} {rv : zR} {lv : zJ} (hT : zTop rv) (cs : CS iv 8 s) (vs : VS s) (hv : v < 2 ^ 31) (hc : iv 86 10 = -1 ∨ ∃ u, u ≤ v ∧ iv 86 10 = nI u ∧ (u = v → SC iv (sTp s) (srch s))) :
    Cv mX7_prepare (d + 30) [.ref 86, .ref 8, .int (nI v)] iv rv lv (fun a b c' => b = rv ∧ c' = lv ∧ a 86 10 = nI v ∧ SC a (sTp s) (srch s) ∧ ∀ p, p < 86 ∨ 129 < p → a p = iv p) := by
  have vn := vs.1
  refine eX7_prepare 8 _ (bX7_prepare_0 8 _ hT (by decide) ⟨fun hne => ?_, fun he => ?_⟩)
  · intro w1 e1 w2 e2 w3 e3 w4 e4 w5 e5
    have r5 : ∀ p, p ≠ 86 → w5 p = iv p := fun p hp => by rw [e5, zu_row hp, e4, zu_row hp, e3, zu_row hp, e2, zu_row hp, e1, zu_row hp]
    refine zcall (s_total (v := s.2.2.1) (c := s.1) hT (by decide) (by rw [r5 8 (by decide)]; exact cs.1) vn.2 (fun i hi => by rw [r5 (8 + 1) (by decide)]; exact cs.2.2.1 i hi)) hT ?_
    intro w6 e6
    have smb : sm s.2.2.1 s.1 ≤ 9999 * s.1 := sm_le s.1 (fun i hi => (vs.2.2.1 i hi).2)
    rw [z_2, pk_rem (by omega) (by omega) (by omega)] at e6
    have r6 : ∀ p, p ≠ 86 → w6 p = iv p := fun p hp => by rw [e6, zu_row hp, r5 p hp]
    have cs6 : CS w6 8 s := by
      unfold CS
      rw [r6 8 (by decide), r6 (8 + 1) (by decide), r6 (8 + 2) (by decide), r6 (8 + 3) (by decide)]
      exact cs
    refine ⟨90 + 4 * 0, hT.2.2.2.2.2.2.1 0 (by omega), itM 0 (by omega), zcallV (x_take (d := d + 26) hT (itM 0 (by omega)) cs6 vs) ?_⟩
    rintro w7 rv1 lv1 ⟨q1, q2, g1, g2⟩
    have q1 := q1.symm
    have q2 := q2.symm
    subst q1 q2
    obtain ⟨m, hm⟩ : ∃ m, s.1 = m + 1 := ⟨s.1 - 1, by omega⟩
    obtain ⟨e, he⟩ : ∃ e, d + 29 = e + 2 * m + 8 := ⟨d + 29 - 8 - 2 * m, by omega⟩
    have pb : 9999 * 2 ^ m ≤ 9999 * 2 ^ 9 := Nat.mul_le_mul_left _ (Nat.pow_le_pow_right (by omega) (by omega))
    have pc : 2 ^ m ≤ 2 ^ 9 := Nat.pow_le_pow_right (by omega) (by omega)
    have s7 : SC w7 (sTp s) st0 := by
      unfold SC
      rw [g2 86 (by omega)]
      refine ⟨⟨?_, ?_, ?_, ?_, ?_⟩, fun z => absurd z (Nat.lt_irrefl _), fun j hj => absurd hj (Nat.not_lt_zero _)⟩
      · rw [e6, zu_k (by decide), e5, zu_k (by decide), e4, zu_k (by decide), e3, zu_k (by decide), e2, zu_eq]; rfl
      · rw [e6, zu_k (by decide), e5, zu_k (by decide), e4, zu_k (by decide), e3, zu_eq]; rfl
      · rw [e6, zu_k (by decide), e5, zu_k (by decide), e4, zu_eq]; rfl
      · rw [e6, zu_k (by decide), e5, zu_eq]; rfl
      · rw [e6, zu_eq]
    have t7 : w7 86 10 = nI v := by
      rw [g2 86 (by omega), e6, zu_k (by decide), e5, zu_k (by decide), e4, zu_k (by decide), e3, zu_k (by decide), e2, zu_k (by decide), e1, zu_eq]
    refine ⟨hT, ?_⟩
    have bt := tk_b s.1 vn.2 (fun i hi => (vs.2.2.1 i hi).2)
    have st := tk_s s.2.2.1 s.1
    have sb := tk_sum s.2.2.1 s.1
    have es : srch s = sv (sTp s) s.1 (tk s.2.2.1 s.1) st0 := rfl
    rw [es, he]
    generalize tk s.2.2.1 s.1 = f at g1 bt st sb ⊢
    rw [hm] at g1 bt st sb ⊢
    refine zcallV (x_visit (tp := sTp s) hT (by show sm s.2.2.1 s.1 % 2 < 2; omega) m e 0 9999 f st0 w7 (by omega) g1 st bt (by omega) (by rw [sb, ← hm]) (st0_SI _) s7 (fun z => absurd z (Nat.lt_irrefl _)) rfl (by show 0 + 2 ^ m ≤ 512; omega)) ?_
    rintro a _ _ ⟨rfl, rfl, k1, k2, k3⟩
    exact ⟨hT, rfl, rfl, by rw [k2, t7], k1, fun p hp => by rw [k3 p (by omega), g2 p (by omega), r6 p (by omega)]⟩
  · refine ⟨rfl, rfl, he, ?_, fun _ _ => rfl⟩
    rcases hc with hc | ⟨u, hu, hc, hk⟩
    · rw [hc] at he
      exact absurd he (nI_m1 hv)
    · rw [hc, nI_eq (by omega) hv] at he
      exact hk he
def F_search (S : St) (x : Int32) : Int32 × St := match S.2.1 with
  | none => rf S 1
  | some s => if x = 0 then ok S (nI (sLst (srch s))) else if x = 1 then ok S (nI (sVis (srch s))) else if x = 2 then ok S (nI (sLea (srch s))) else if x = 3 then ok S (nI (sFin (srch s))) else if x = 4 then ok S (bI (sPrf (srch s))) else rf S 1
def F_find (S : St) (x w : Int32) : Int32 × St := match S.2.1 with
  | none => rf S 1
  | some s => if w < 0 ∨ 1 < w then rf S 1 else if x < 0 ∨ nI (sFin (srch s)) ≤ x then rf S 1 else if w = 0 then ok S (nI (sFo (srch s) x.toNatClampNeg)) else ok S (nI (sFa (srch s) x.toNatClampNeg))
def F_searchOf (S : St) (x : Int32) : Int32 × St := match nOf S x with
  | none => rf S 1
  | some (s, i) => ok S (bI ((sSid (srch s)).testBit i != (sSid (srch s)).testBit 0))
theorem XS.ans {S : St} {t : Nat} {y r : Int32} {iv a : zI} {rv : zR} {lv : zJ} (e : y = r) (h : CB S iv) (hc : Cs S a) (hf : ∀ p, p < 86 ∨ 129 < p → a p = iv p) : XS (sT S t) r iv rv lv y (zu (zu a 0 12 (nI t)) 0 14 (-1)) rv lv := by
  refine ⟨e, rfl, rfl, (h.fr (fun p hp => hf p (by omega))).tr, ?_, fun p hp => by rw [zu_row (by omega), zu_row (by omega)]; exact hf p (by omega)⟩
  unfold Cs SC
  rw [zu_row (by omega), zu_row (by omega), zu_row (by omega), zu_row (by omega), zu_row (by omega), zu_row (by omega)]
  exact hc
theorem Cs.new {S : St} {s : Sn} {a : zI} (e : S.2.1 = some s) (h1 : a 86 10 = nI (ver S)) (h2 : SC a (sTp s) (srch s)) : Cs S a := Or.inr ⟨ver S, Nat.le_refl _, h1, fun _ s' e' => by
  rw [e] at e'
  cases e'
  exact h2⟩
theorem Cs.pre {S : St} {s : Sn} {w : zI} (h : Cs S w) (e : S.2.1 = some s) : w 86 10 = -1 ∨ ∃ u, u ≤ ver S ∧ w 86 10 = nI u ∧ (u = ver S → SC w (sTp s) (srch s)) := h.elim Or.inl (fun ⟨v, h1, h2, h3⟩ => Or.inr ⟨v, h1, h2, fun q => h3 q s e⟩)
theorem x_search {d : Nat} {S : St} {x : Int32} {iv : zI} {rv : zR} {lv : zJ} (hT : zTop rv) (h : CB S iv) (hv : VT S) (hs : Cs S iv) (hk : ver S < 2 ^ 31) : Ci mX10_search (d + 31) [.ref 0, .int x] iv rv lv (XS (F_search S x).2 (F_search S x).1 iv rv lv) := by
  refine eX10_search x (bX10_search_0 x hT (zcall (x_noText hT) hT ?_))
  rw [h.nt hv]
  have hn := h.2.1
  have hver : iv 0 3 = nI (ver S) := h.2.2.2.2.2.2
  cases e : S.2.1 with
  | none =>
    have eF : F_search S x = rf S 1 := by unfold F_search; rw [e]
    rw [eF]
    exact ⟨fun q => absurd (show (1 : Int32) = 0 from q) (by decide), fun _ => zcall (x_refuse hT) hT (XS.ans (t := 1) rfl h hs (fun _ _ => rfl))⟩
  | some s =>
    rw [e] at hn
    obtain ⟨cs, c12⟩ := hn
    have vs := hv.2.1 s e
    have ok1 := srch_ok vs
    rw [hver]
    refine ⟨fun _ => zcallV (x_prepS (d := d) hT cs vs hk (hs.pre e)) ?_, fun q => absurd rfl q⟩
    rintro a _ _ ⟨rfl, rfl, g1, g2, g3⟩
    have cn : Cs S a := Cs.new e g1 g2
    obtain ⟨⟨s1, s2, s3, s4, s5⟩, s6, s7⟩ := g2
    refine ⟨hT, fun q => ?_, fun q => ?_, fun q => ?_, fun q => ?_, fun q => ⟨fun z => ?_, fun z => ?_⟩, fun q0 q1 q2 q3 q4 => ?_⟩
    · have eF : F_search S x = ok S (nI (sLst (srch s))) := by subst q; unfold F_search; rw [e]; rfl
      rw [eF]
      exact zcall (x_answer hT) hT (XS.ans (t := 0) (s6 ok1.2.2.2).1 h cn g3)
    · have eF : F_search S x = ok S (nI (sVis (srch s))) := by subst q; unfold F_search; rw [e]; rfl
      rw [eF]
      exact zcall (x_answer hT) hT (XS.ans (t := 0) s1 h cn g3)
    · have eF : F_search S x = ok S (nI (sLea (srch s))) := by subst q; unfold F_search; rw [e]; rfl
      rw [eF]
      exact zcall (x_answer hT) hT (XS.ans (t := 0) s2 h cn g3)
    · have eF : F_search S x = ok S (nI (sFin (srch s))) := by subst q; unfold F_search; rw [e]; rfl
      rw [eF]
      exact zcall (x_answer hT) hT (XS.ans (t := 0) s3 h cn g3)
    · have eF : F_search S x = ok S (bI (sPrf (srch s))) := by subst q; unfold F_search; rw [e]; rfl
      rw [eF, show sPrf (srch s) = false from (bI_0 _).mp (s4 ▸ z)]
      exact zcall (x_answer hT) hT (XS.ans (t := 0) rfl h cn g3)
    · have eF : F_search S x = ok S (bI (sPrf (srch s))) := by subst q; unfold F_search; rw [e]; rfl
      rw [eF, show sPrf (srch s) = true from (bI_n0 _).mp (s4 ▸ z)]
      exact zcall (x_answer hT) hT (XS.ans (t := 0) rfl h cn g3)
    · have eF : F_search S x = rf S 1 := by unfold F_search; rw [e]; simp only [q0, q1, q2, q3, q4, if_false]
      rw [eF]
      exact zcall (x_refuse hT) hT (XS.ans (t := 1) rfl h cn g3)
theorem x_find {d : Nat} {S : St} {x w : Int32} {iv : zI} {rv : zR} {lv : zJ} (hT : zTop rv) (h : CB S iv) (hv : VT S) (hs : Cs S iv) (hk : ver S < 2 ^ 31) : Ci mX10_find (d + 31) [.ref 0, .int x, .int w] iv rv lv (XS (F_find S x w).2 (F_find S x w).1 iv rv lv) := by
  refine eX10_find x w (bX10_find_0 x w hT (zcall (x_noText hT) hT ?_))
  rw [h.nt hv]
  have hn := h.2.1
  have hver : iv 0 3 = nI (ver S) := h.2.2.2.2.2.2
  have no : ∃ Q1 : Int32 → zI → zR → zJ → Prop, Ci mX10_refuse (d + 30) [.ref 0, .int 1] iv rv lv Q1 ∧ ∀ (v : Int32) (a : zI) (b : zR) (c : zJ), Q1 v a b c → zTop b ∧ XS (rf S 1).2 (rf S 1).1 iv rv lv v a b c := zcall (x_refuse hT) hT (XS.ans (t := 1) rfl h hs (fun _ _ => rfl))
  cases e : S.2.1 with
  | none =>
    have eF : F_find S x w = rf S 1 := by unfold F_find; rw [e]
    rw [eF]
    exact ⟨fun _ => no, fun q => absurd (show (1 : Int32) = 0 from q) (by decide)⟩
  | some s =>
    rw [e] at hn
    obtain ⟨cs, c12⟩ := hn
    have vs := hv.2.1 s e
    have ok1 := srch_ok vs
    have okf : sFin (srch s) ≤ sLea (srch s) := ok1.1.1
    have eF : F_find S x w = if w < 0 ∨ 1 < w then rf S 1 else if x < 0 ∨ nI (sFin (srch s)) ≤ x then rf S 1 else if w = 0 then ok S (nI (sFo (srch s) x.toNatClampNeg)) else ok S (nI (sFa (srch s) x.toNatClampNeg)) := by unfold F_find; rw [e]
    rw [eF]
    refine ⟨fun q => absurd rfl q, fun _ => zcall (x_not01 hT) hT ?_⟩
    by_cases hw : w < 0 ∨ 1 < w
    · rw [if_pos hw]
      simp only [hw, decide_true]
      exact ⟨fun _ => no, fun q => absurd (show (1 : Int32) = 0 from q) (by decide)⟩
    · rw [if_neg hw]
      simp only [hw, decide_false]
      refine ⟨fun q => absurd rfl q, fun _ => ⟨fun x0 => ?_, fun x0 => ?_⟩⟩
      · rw [hver]
        refine zcallV (x_prepS (d := d) hT cs vs hk (hs.pre e)) ?_
        rintro a _ _ ⟨rfl, rfl, g1, g2, g3⟩
        have cn : Cs S a := Cs.new e g1 g2
        obtain ⟨⟨s1, s2, s3, s4, s5⟩, s6, s7⟩ := g2
        rw [s3]
        refine ⟨hT, fun z => ?_, fun z => ?_⟩
        · rcases pk_ix x (show sFin (srch s) < 2 ^ 31 by omega) with q | q | ⟨j, hj, rfl⟩
          · exact absurd x0 (Int32.not_le.mpr q)
          · exact absurd z (Int32.not_lt.mpr q)
          · have nn : ¬ (nI j < 0 ∨ nI (sFin (srch s)) ≤ nI j) := fun z => z.elim (nI_pos (by omega)) (nI_ge hj (by omega))
            rw [if_neg nn, nI_clamp (by omega)]
            refine ⟨fun q => ?_, fun q => ?_⟩
            · rw [if_neg q]
              exact ⟨vp_in_nI (by omega) (by decide), zcall (x_answer hT) hT (XS.ans (t := 0) (s7 j hj).2 h cn g3)⟩
            · rw [if_pos q]
              exact ⟨vp_in_nI (by omega) (by decide), zcall (x_answer hT) hT (XS.ans (t := 0) (s7 j hj).1 h cn g3)⟩
        · rw [if_pos (Or.inr (Int32.not_lt.mp z))]
          exact zcall (x_refuse hT) hT (XS.ans (t := 1) rfl h cn g3)
      · rw [if_pos (Or.inl (Int32.not_le.mp x0))]
        exact no
theorem x_searchOf {d : Nat} {S : St} {x : Int32} {iv : zI} {rv : zR} {lv : zJ} (hT : zTop rv) (h : CB S iv) (hv : VT S) (hs : Cs S iv) (hk : ver S < 2 ^ 31) : Ci mX10_searchOf (d + 31) [.ref 0, .int x] iv rv lv (XS (F_searchOf S x).2 (F_searchOf S x).1 iv rv lv) := by
  refine eX10_searchOf x (bX10_searchOf_0 x hT (zcall (x_noNumber hT) hT ?_))
  have hn := h.2.1
  have hver : iv 0 3 = nI (ver S) := h.2.2.2.2.2.2
  unfold F_searchOf
  rcases nOf_cases S x hv with ⟨hn, hx⟩ | ⟨s, i, hn2, es, hi, rfl⟩
  · rw [hn, h.nn0 hx]
    exact ⟨fun q => absurd (show (1 : Int32) = 0 from q) (by decide), fun _ => zcall (x_refuse hT) hT (XS.ans (t := 1) rfl h hs (fun _ _ => rfl))⟩
  · rw [hn2, h.nn1 hv es hi, hver]
    rw [es] at hn
    obtain ⟨cs, c12⟩ := hn
    have vs := hv.2.1 s es
    have vn := vs.1
    have ok1 := srch_ok vs
    refine ⟨fun _ => zcallV (x_prepS (d := d) hT cs vs hk (hs.pre es)) ?_, fun q => absurd rfl q⟩
    rintro a _ _ ⟨rfl, rfl, g1, g2, g3⟩
    have cn : Cs S a := Cs.new es g1 g2
    rw [(g2.2.1 ok1.2.2.2).2]
    exact ⟨hT, zcall (x_sideOf (by omega) (srch_sid vs) hT) hT (zcall (x_answer hT) hT (XS.ans (t := 0) rfl h cn g3))⟩
