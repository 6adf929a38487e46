theorem RQA.tr {iv w : zI} {rv : zR} {lv : zJ} {tp : Nat → Nat} {n : Nat} {r : PR} {y : Int32} {a : zI} {b : zR} {c : zJ} (h : RQA w rv lv tp n r y a b c) (hF : FR iv w) (h2 : w 1 2 = iv 1 2) : RQA iv rv lv tp n r y a b c := ⟨h.1, h.2.1, h.2.2.1, h.2.2.2.1, fun z => ⟨(h.2.2.2.2.1 z).1, by rw [(h.2.2.2.2.1 z).2]; exact h2⟩, hF.trans h.2.2.2.2.2⟩
theorem x_rLine {tp : Nat → Nat} {n d : Nat} {st : PS} {iv : zI} {rv : zR} {lv : zJ} (hT : zTop rv) (hW : XWd) (hx : TX tp n) (hS : TS iv tp n st) (hP : PO n st) : Ci mX6_readLine (d + 14) [.ref 1] iv rv lv (RQA iv rv lv tp n (rLine tp n st)) := by
  have bo : ∀ r : PR, bI (r.1 == 0) = 0 ∨ bI (r.1 == 0) = 1 := fun r => bI_01 _
  refine eX6_readLine (bX6_readLine_0 hT (zcall (hW (i := 0) (d := d + 1) hT hx hS hP (by omega)) hT ?_))
  show (bI (tw tp st.1 wNum) = 0 → _) ∧ (¬ bI (tw tp st.1 wNum) = 0 → _)
  unfold rLine
  cases t0 : tw tp st.1 wNum with
  | true =>
    rw [if_pos rfl]
    refine ⟨fun z => absurd (show (1 : Int32) = 0 from z) (by decide), fun _ => zcallQ (x_rNum (d := d + 10) hT hx hS hP) (fun y a b c h => ⟨h.2.1 ▸ hT, ?_, h⟩)⟩
    rw [h.1]
    exact bo _
  | false =>
    rw [if_neg (by simp)]
    refine ⟨fun _ => zcall (hW (i := 1) (d := d + 1) hT hx hS hP (by omega)) hT ?_, fun z => absurd rfl z⟩
    show (bI (tw tp st.1 wHps) = 0 → _) ∧ (¬ bI (tw tp st.1 wHps) = 0 → _)
    cases t1 : tw tp st.1 wHps with
    | true =>
      rw [if_pos rfl]
      refine ⟨fun z => absurd (show (1 : Int32) = 0 from z) (by decide), fun _ => zcallQ (x_rHps (d := d + 10) hT hx hS hP) (fun y a b c h => ⟨h.2.1 ▸ hT, ?_, h⟩)⟩
      rw [h.1]
      exact bo _
    | false =>
      rw [if_neg (by simp)]
      refine ⟨fun _ => zcall (hW (i := 2) (d := d + 1) hT hx hS hP (by omega)) hT ?_, fun z => absurd rfl z⟩
      show (bI (tw tp st.1 wKp) = 0 → _) ∧ (¬ bI (tw tp st.1 wKp) = 0 → _)
      cases t2 : tw tp st.1 wKp with
      | true =>
        rw [if_pos rfl]
        refine ⟨fun z => absurd (show (1 : Int32) = 0 from z) (by decide), fun _ => zcallQ (x_rKeep (d := d) hT hW hx hS hP) (fun y a b c h => ⟨h.2.1 ▸ hT, ?_, h⟩)⟩
        rw [h.1]
        exact bo _
      | false =>
        rw [if_neg (by simp)]
        refine ⟨fun _ => zcall (hW (i := 4) (d := d + 1) hT hx hS hP (by omega)) hT ?_, fun z => absurd rfl z⟩
        show (bI (tw tp st.1 wApt) = 0 → _) ∧ (¬ bI (tw tp st.1 wApt) = 0 → _)
        cases t3 : tw tp st.1 wApt with
        | true =>
          rw [if_pos rfl]
          refine ⟨fun z => absurd (show (1 : Int32) = 0 from z) (by decide), fun _ => zcallQ (x_rApt (d := d + 10) hT hx hS hP) (fun y a b c h => ⟨h.2.1 ▸ hT, ?_, h⟩)⟩
          rw [h.1]
          exact bo _
        | false =>
          rw [if_neg (by simp)]
          exact ⟨fun _ => zcall (x_stop hT) hT ⟨Or.inl rfl, RQA.fail (f := 1) (by omega) rfl hS FR.refl⟩, fun z => absurd rfl z⟩
theorem x_rLines {tp : Nat → Nat} {n d : Nat} {st0 : PS} {iv : zI} {rv : zR} {lv : zJ} (hT : zTop rv) (hW : XWd) (hx : TX tp n) (hS : TS iv tp n st0) (hP : PO n st0) : Ci mX6_readLines (d + 15) [.ref 1] iv rv lv (RQA iv rv lv tp n (rLines tp n (n + 1) st0)) := by
  refine eX6_readLines (bX6_readLines_0 hT ?_)
  have hn := hx.1
  have go : ∀ (f t : Nat) (st : PS) (w : zI), t + f = n + 1 → TS w tp n st → PO n st → w 1 2 = iv 1 2 → FR iv w → Zi mX6_readLines (d + 15) 2 [some (.ref 1), some (.int (nI t))] [] w rv lv (RQA iv rv lv tp n (rLines tp n f st)) := by
    intro f
    induction f with
    | zero =>
      intro t st w htf hS hP h2 hF
      refine bX6_readLines_2 _ hT ?_
      rw [hS.1.1, nI_ltI (by omega) (by omega)]
      exact ⟨fun _ => zcall (x_stop hT) hT ⟨Or.inl rfl, RQA.fail (f := 1) (by omega) rfl hS hF⟩, fun z => absurd (by omega) z⟩
    | succ f ih =>
      intro t st w htf hS hP h2 hF
      refine bX6_readLines_2 _ hT ?_
      rw [hS.1.1, nI_ltI (by omega) (by omega), nI_1]
      refine ⟨fun z => absurd z (by omega), fun _ => zcallQ (x_rLine (d := d) hT hW hx hS hP) ?_⟩
      rintro y a rv1 lv1 ⟨q0, q1, q2, g1, g2, g3⟩
      have q1 := q1.symm
      have q2 := q2.symm
      subst q0 q1 q2
      have ro := rLine_O (tp := tp) hP
      rw [rLines]
      generalize rLine tp n st = r at *
      have f1 := hF.trans g3
      refine ⟨hT, ?_⟩
      by_cases q : r.1 = 0
      · rw [if_pos q, beq_iff_eq.mpr q]
        obtain ⟨ts, h2a⟩ := g2 q
        have h2b : a 1 2 = iv 1 2 := by rw [h2a]; exact h2
        have po := ro.1
        have k5 := po.2.2.1
        have c10 := po.2.2.2.2.1
        refine ⟨fun _ => ?_, fun z => absurd (show (1 : Int32) = 0 from z) (by decide)⟩
        rw [ts.2.1.1, z_0, nI_eq (by omega) (by omega), z_3, nI_eq (by omega) (by omega)]
        refine ⟨fun k => ⟨fun k3 => ?_, fun k3 => ?_⟩, fun k => ?_⟩
        · rw [if_neg k, if_pos k3]
          refine zcallV (x_nx (d := d + 12) hT hx ts po) ?_
          rintro u rv1 lv1 ⟨q1, q2, m1, m2, m3⟩
          have q1 := q1.symm
          have q2 := q2.symm
          subst q1 q2
          exact ⟨hT, ih (t + 1) _ u (by omega) m1 (po.nx).1 (by rw [m2]; exact h2b) (f1.trans m3)⟩
        · rw [if_neg k, if_neg k3]
          exact zcall (x_stop hT) hT ⟨Or.inl rfl, RQA.fail (f := 1) (by omega) rfl ts f1⟩
        · rw [if_pos k, ts.2.2.2.1, nI_ltI (by omega) (by omega)]
          refine ⟨fun c => ?_, fun c => ?_⟩
          · rw [if_pos c]
            have e : r = (0, r.2) := by rw [← q]
            rw [e]
            exact RQA.good rfl ts h2b f1
          · rw [if_neg c]
            exact zcall (x_stop hT) hT ⟨fun _ => RQA.fail (f := 5) (by omega) rfl ts f1, fun z => absurd rfl z⟩
      · rw [if_neg q, beq_eq_false_iff_ne.mpr q]
        refine ⟨fun z => absurd rfl z, fun _ => ⟨?_, rfl, rfl, g1, fun z => absurd z q, f1⟩⟩
        rw [beq_eq_false_iff_ne.mpr q]
        rfl
  exact go (n + 1) 0 st0 iv (by omega) hS hP rfl FR.refl
theorem PO_0 (n : Nat) : PO n ((0, 0, 0, 0), false, s00) := ⟨Nat.le_refl _, Nat.zero_le _, Nat.zero_le _, Nat.zero_le _, Nat.zero_le _, ⟨Nat.le_refl _, by show 2 ≤ 4; omega⟩, fun i hi => absurd hi (Nat.not_lt_zero _), fun i hi => absurd hi (Nat.not_lt_zero _), trivial, Nat.zero_le _⟩
theorem x_readText {tp : Nat → Nat} {n d : Nat} {iv : zI} {rv : zR} {lv : zJ} (hT : zTop rv) (hW : XWd) (hx : TX tp n) (h7 : ∀ j, j < n → iv 7 j = sbI (tp j)) : Ci mX6_readText (d + 16) [.ref 1, .int (nI n)] iv rv lv (fun y a b c => y = bI ((rTxt tp n).1 == 0) ∧ b = rv ∧ c = lv ∧ ((rTxt tp n).1 ≠ 0 → a 1 2 = nI (rTxt tp n).1 ∧ a 1 3 = nI (rTxt tp n).2.1.2.1) ∧ ((rTxt tp n).1 = 0 → CS a 2 (rTxt tp n).2.2.2 ∧ a 1 2 = nI 0) ∧ (∀ p, p = 0 ∨ 6 < p → a p = iv p) ∧ a 1 0 = nI 0) := by
  have hn := hx.1
  refine eX6_readText _ (bX6_readText_0 _ hT ?_)
  intro w1 e1 w2 e2 w3 e3 w4 e4 w5 e5
  rw [show (300 : Int32) = nI 300 from rfl, zmn_nI (by omega) (by omega), Nat.min_eq_left hn] at e1
  have r5 : ∀ p, p ≠ 1 → w5 p = iv p := fun p hp => by rw [e5, zu_row hp, e4, zu_row hp, e3, zu_row hp, e2, zu_row hp, e1, zu_row hp]
  have s9 : w5 1 9 = nI 0 := by rw [e5, zu_eq]; rfl
  have s2 : w5 1 2 = nI 0 := by rw [e5, zu_k (by decide), e4, zu_eq]; rfl
  have s6 : w5 1 6 = nI 0 := by rw [e5, zu_k (by decide), e4, zu_k (by decide), e3, zu_eq]; rfl
  have s0 : w5 1 0 = nI 0 := by rw [e5, zu_k (by decide), e4, zu_k (by decide), e3, zu_k (by decide), e2, zu_eq]; rfl
  have s5 : w5 1 5 = nI n := by rw [e5, zu_k (by decide), e4, zu_k (by decide), e3, zu_k (by decide), e2, zu_k (by decide), e1, zu_eq]
  refine zcallV (s_empty (o := 2) hT (by decide)) ?_
  rintro w6 rv1 lv1 ⟨q1, q2, m1, m2, m3⟩
  have q1 := q1.symm
  have q2 := q2.symm
  subst q1 q2
  have rt6 : RT w6 tp n := ⟨by rw [m3 1 (by decide)]; exact s5, fun j hj => by rw [m3 7 (by decide), r5 7 (by decide)]; exact h7 j hj⟩
  refine ⟨hT, zcallV (x_nextToken (d := d + 13) hT hx.1 hx.2 rt6 (a0 := 0) (by rw [m3 1 (by decide)]; exact s6) (Nat.zero_le _)) ?_⟩
  rintro w7 rv1 lv1 ⟨q1, q2, t1, t2⟩
  have q1 := q1.symm
  have q2 := q2.symm
  subst q1 q2
  have ts : TS w7 tp n (nx tp n ((0, 0, 0, 0), false, s00)) := by
    refine ⟨t2.rt rt6, t1, ?_, ⟨?_, ?_, fun i hi => absurd hi (Nat.not_lt_zero _), fun i hi => absurd hi (Nat.not_lt_zero _), fun i hi => absurd hi (Nat.not_lt_zero _)⟩⟩
    · rw [t2.2 9 (by decide) (by decide) (by decide) (by decide), m3 1 (by decide)]; exact s9
    · rw [t2.1 2 (by decide)]; exact m1
    · rw [t2.1 2 (by decide)]; exact m2
  refine ⟨hT, zcallQ (x_rLines (d := d) hT hW hx ts ((PO_0 n).nx).1) ?_⟩
  rintro y a rv1 lv1 ⟨q0, q1, q2, g1, g2, g3⟩
  have q1 := q1.symm
  have q2 := q2.symm
  subst q0 q1 q2
  have b2 : w7 1 2 = nI 0 := by rw [t2.2 2 (by decide) (by decide) (by decide) (by decide), m3 1 (by decide)]; exact s2
  refine ⟨hT, bI_01 _, rfl, rfl, rfl, g1, fun z => ⟨(g2 z).1.2.2.2, by rw [(g2 z).2]; exact b2⟩, fun p hp => ?_, ?_⟩
  · rw [g3.1 p hp, t2.1 p (by omega), m3 p (by omega), r5 p (by omega)]
  · rw [g3.2, t2.2 0 (by decide) (by decide) (by decide) (by decide), m3 1 (by decide)]; exact s0
def F_text (S : St) (x : Int32) : Int32 × St := if x < 0 ∨ nI S.1.1 < x then rf S 2 else if (rTxt S.1.2 x.toNatClampNeg).1 = 0 then (nI (rTxt S.1.2 x.toNatClampNeg).2.2.2.1, ((0, S.1.2), some (rTxt S.1.2 x.toNatClampNeg).2.2.2, [], (fun _ => none), (0, -1, 0), S.2.2.2.2.2.1, S.2.2.2.2.2.2 + 1)) else (-1, ((0, S.1.2), S.2.1, S.2.2.1, S.2.2.2.1, ((rTxt S.1.2 x.toNatClampNeg).1, nI (rTxt S.1.2 x.toNatClampNeg).2.1.2.1, 4), S.2.2.2.2.2))
theorem rTxt_O (tp : Nat → Nat) (n : Nat) : PO n (rTxt tp n).2 ∧ (rTxt tp n).1 ≤ 5 ∧ ((rTxt tp n).1 = 0 → 0 < (rTxt tp n).2.2.2.1) := rLines_O _ _ ((PO_0 n).nx).1
theorem rTxt_VS {tp : Nat → Nat} {n : Nat} (h : (rTxt tp n).1 = 0) : VS (rTxt tp n).2.2.2 := by
  obtain ⟨o1, o2, o3⟩ := rTxt_O tp n
  obtain ⟨v1, v2⟩ := o1.2.2.2.2
  exact ⟨⟨o3 h, v1⟩, v2⟩
theorem VT_text {S : St} {x : Int32} (h : VT S) : VT (F_text S x).2 := by
  unfold F_text
  by_cases hx : x < 0 ∨ nI S.1.1 < x
  · rw [if_pos hx]
    exact h.tr (by omega)
  · rw [if_neg hx]
    obtain ⟨h1, h2, h3, h4, h5, h6, h7⟩ := h
    by_cases q : (rTxt S.1.2 x.toNatClampNeg).1 = 0
    · rw [if_pos q]
      refine ⟨⟨Nat.zero_le _, h1.2⟩, fun s e => ?_, ⟨Nat.zero_le _, fun s hs => absurd hs (List.not_mem_nil)⟩, fun i s e => (by cases e), fun e => (by cases e), ⟨Nat.zero_le _, Nat.zero_le _⟩, h7⟩
      cases e
      exact rTxt_VS q
    · rw [if_neg q]
      exact ⟨⟨Nat.zero_le _, h1.2⟩, h2, h3, h4, h5, ⟨(rTxt_O _ _).2.1, by show 4 ≤ 6; omega⟩, h7⟩
theorem x_text {d : Nat} {S : St} {x : Int32} {iv : zI} {rv : zR} {lv : zJ} (hT : zTop rv) (hW : XWd) (h : CB S iv) (hv : VT S) : Ci mX10_text (d + 17) [.ref 0, .int x] iv rv lv (XR (F_text S x).2 (F_text S x).1 iv rv lv) := by
  refine eX10_text x (bX10_text_0 x hT ?_)
  obtain ⟨c1, c2, c3, c4, c5, c6, c7⟩ := id h
  have t300 := hv.1.1
  rw [c1.1]
  have no : ∃ Q1 : Int32 → zI → zR → zJ → Prop, Ci mX10_refuse (d + 16) [.ref 0, .int 2] iv rv lv Q1 ∧ ∀ (v : Int32) (a : zI) (b : zR) (c : zJ), Q1 v a b c → zTop b ∧ XR (rf S 2).2 (rf S 2).1 iv rv lv v a b c := zcall (x_refuse hT) hT (XR.tr' rfl h)
  rcases pk_ix x (show S.1.1 + 1 < 2 ^ 31 by omega) with q | q | ⟨n, hn, rfl⟩
  · have eF : F_text S x = rf S 2 := by unfold F_text; rw [if_pos (Or.inl q)]
    rw [eF]
    exact ⟨fun _ => no, fun z => absurd q z⟩
  · have q2 : nI S.1.1 < x := Int32.lt_of_lt_of_le (show nI S.1.1 < nI (S.1.1 + 1) from nI_lt (by omega) (by omega)) q
    have eF : F_text S x = rf S 2 := by unfold F_text; rw [if_pos (Or.inr q2)]
    rw [eF]
    exact ⟨fun _ => no, fun _ => ⟨fun z => absurd q2 (Int32.not_lt.mpr z), fun _ => no⟩⟩
  · have nn : ¬ (nI n < 0 ∨ nI S.1.1 < nI n) := fun z => z.elim (nI_pos (by omega)) (fun z => by rw [nI_ltI (by omega) (by omega)] at z; omega)
    have eF : F_text S (nI n) = if (rTxt S.1.2 n).1 = 0 then (nI (rTxt S.1.2 n).2.2.2.1, ((0, S.1.2), some (rTxt S.1.2 n).2.2.2, [], (fun _ => none), (0, -1, 0), S.2.2.2.2.2.1, S.2.2.2.2.2.2 + 1)) else (-1, ((0, S.1.2), S.2.1, S.2.2.1, S.2.2.2.1, ((rTxt S.1.2 n).1, nI (rTxt S.1.2 n).2.1.2.1, 4), S.2.2.2.2.2)) := by
      unfold F_text
      rw [if_neg nn, nI_clamp (by omega)]
    rw [eF]
    refine ⟨fun z => absurd z (nI_pos (by omega)), fun _ => ⟨fun _ => zcallQ (x_readText (d := d) hT hW ⟨by omega, hv.1.2⟩ (fun j hj => c1.2 j (by omega))) ?_, fun z => absurd (nI_le (by omega) (by omega)) z⟩⟩
    rintro y a rv1 lv1 ⟨q0, q1, q2, g1, g2, g3, g4⟩
    have q1 := q1.symm
    have q2 := q2.symm
    subst q0 q1 q2
    have rvs := rTxt_VS (tp := S.1.2) (n := n)
    generalize rTxt S.1.2 n = r at *
    refine ⟨hT, fun w0 e0 => ?_⟩
    have r0 : ∀ p, p ≠ 0 → w0 p = a p := fun p hp => by rw [e0, zu_row hp]
    by_cases q : r.1 = 0
    · rw [if_pos q, beq_iff_eq.mpr q]
      obtain ⟨cs2, a12⟩ := g2 q
      have vs := rvs q
      have vn := vs.1
      rw [a12] at e0
      refine ⟨fun _ => zcallV (s_copy (o := 8) (p := 2) (d := d + 15) hT (by decide) (by decide)) ?_, fun z => absurd (show (1 : Int32) = 0 from z) (by decide)⟩
      rintro w1 rv1 lv1 ⟨q1, q2, k1, k2, k3⟩
      have q1 := q1.symm
      have q2 := q2.symm
      subst q1 q2
      have cs8 : CS w1 8 r.2.2.2 := by
        obtain ⟨b1, b2, b3, b4, b5⟩ := cs2
        refine ⟨by rw [k1.1, r0 2 (by decide)]; exact b1, by rw [k1.2, r0 2 (by decide)]; exact b2, fun i hi => ?_, fun i hi => ?_, fun i hi => ?_⟩
        · rw [k2 1 (by omega) (by omega) i (by omega), r0 (2 + 1) (by decide)]; exact b3 i hi
        · rw [k2 2 (by omega) (by omega) i (by omega), r0 (2 + 2) (by decide)]; exact b4 i hi
        · rw [k2 3 (by omega) (by omega) i (by omega), r0 (2 + 3) (by decide)]; exact b5 i hi
      refine ⟨hT, zcallE (x_forgetActs hT) hT (zcallV (x_forgetImages (d := d + 15) hT) ?_)⟩
      rintro w2 rv1 lv1 ⟨q1, q2, l1, l2⟩
      have q1 := q1.symm
      have q2 := q2.symm
      subst q1 q2
      have r2 : ∀ p, p ≠ 13 → p ≠ 66 → p ≠ 71 → w2 p = w1 p := fun p p1 p2 p3 => by rw [l2 p p2 p3, zu_row p1]
      have cs82 : CS w2 8 r.2.2.2 := cs8.fr (fun t ht => r2 (8 + t) (by omega) (by omega) (by omega))
      have w203 : w2 0 3 = nI (ver S) := by rw [r2 0 (by decide) (by decide) (by decide), k3 0 (by omega), e0, zu_k (by decide), g3 0 (by omega)]; exact c7
      refine ⟨hT, zcallV (x_changed (d := d + 15) hT cs82 vs w203) ?_⟩
      rintro w3 rv1 lv1 ⟨q1, q2, o1, o2, o3⟩
      have q1 := q1.symm
      have q2 := q2.symm
      subst q1 q2
      have big : ∀ p, 76 ≤ p → w3 p = iv p := fun p hp => by rw [o3 p (by omega) (by omega), r2 p (by omega) (by omega) (by omega), k3 p (by omega), r0 p (by omega), g3 p (by omega)]
      have z0 : ∀ b, b ≠ 3 → b ≠ 13 → w3 0 b = iv 0 b := fun b b1 b2 => by rw [o2, zu_k b1, r2 0 (by decide) (by decide) (by decide), k3 0 (by omega), e0, zu_k b2, g3 0 (by omega)]
      have cs83 : CS w3 8 r.2.2.2 := cs82.fr (fun t ht => o3 (8 + t) (by omega) (by omega))
      refine ⟨hT, ?_⟩
      rw [cs83.1]
      refine zcall (x_answer hT) hT ⟨rfl, rfl, rfl, ?_, fun p p1 _ => by rw [zu_row (by omega), zu_row (by omega)]; exact big p p1⟩
      have row : ∀ p, p ≠ 0 → zu (zu w3 0 12 0) 0 14 (-1) p = w3 p := fun p hp => by rw [zu_row hp, zu_row hp]
      refine ⟨⟨?_, fun j hj => absurd hj (Nat.not_lt_zero _)⟩, ⟨cs83.fr (fun t ht => row (8 + t) (by omega)), fun j hj => by rw [row 12 (by decide)]; exact o1 j hj⟩, ?_, fun i hi => ?_, ⟨?_, ?_, ?_⟩, ⟨?_, fun j hj => ?_⟩, ?_⟩
      · rw [row 1 (by decide), o3 1 (by decide) (by decide), r2 1 (by decide) (by decide) (by decide), k3 1 (by omega), r0 1 (by decide)]; exact g4
      · obtain ⟨nx', n1, n2, n3, n4⟩ := c3
        refine ⟨nx', n1, ?_, ?_, fun j hj => absurd hj (Nat.not_lt_zero _)⟩
        · rw [row 13 (by decide), o3 13 (by decide) (by decide), l2 13 (by decide) (by decide), zu_k (by decide), k3 13 (by omega), r0 13 (by decide), g3 13 (by omega)]; exact n2
        · rw [row 13 (by decide), o3 13 (by decide) (by decide), l2 13 (by decide) (by decide), zu_eq]; rfl
      · show zu (zu w3 0 12 0) 0 14 (-1) (66 + 5 * i) 0 = nI 0
        rw [row _ (by omega), o3 _ (by omega) (by omega)]
        exact l1 i hi
      · rw [zu_k (by decide), zu_k (by decide), o2, zu_k (by decide), r2 0 (by decide) (by decide) (by decide), k3 0 (by omega), e0, zu_eq]
      · rw [zu_eq]
      · rw [zu_k (by decide), zu_eq]; rfl
      · rw [zu_k (by decide), zu_k (by decide), z0 11 (by decide) (by decide)]; exact c6.1
      · rw [row 158 (by decide), big 158 (by omega)]; exact c6.2 j hj
      · rw [zu_k (by decide), zu_k (by decide), o2, zu_eq]
    · rw [if_neg q, beq_eq_false_iff_ne.mpr q]
      obtain ⟨a12, a13⟩ := g1 q
      rw [a12] at e0
      refine ⟨fun z => absurd rfl z, fun _ => zcall (x_refuse hT) hT (fun w5 e5 => ?_)⟩
      rw [zu_row (by decide), zu_row (by decide), r0 1 (by decide), a13] at e5
      have row : ∀ p, p ≠ 0 → p = 0 ∨ 6 < p → w5 p = iv p := fun p hp h6 => by rw [e5, zu_row hp, zu_row hp, zu_row hp, r0 p hp]; exact g3 p h6
      have z0 : ∀ b, b ≠ 12 → b ≠ 13 → b ≠ 14 → w5 0 b = iv 0 b := fun b b1 b2 b3 => by rw [e5, zu_k b3, zu_k b3, zu_k b1, e0, zu_k b2, g3 0 (by omega)]
      refine ⟨rfl, rfl, rfl, ⟨⟨?_, fun j hj => absurd hj (Nat.not_lt_zero _)⟩, c2.fr (fun p p1 p2 => row p (by omega) (by omega)), c3.fr (fun p p1 p2 => row p (by omega) (by omega)), c4.fr (fun p p1 p2 => row p (by omega) (by omega)), ⟨?_, ?_, ?_⟩, ⟨?_, fun j hj => ?_⟩, ?_⟩, fun p p1 _ => row p (by omega) (by omega)⟩
      · rw [e5, zu_row (by decide), zu_row (by decide), zu_row (by decide), r0 1 (by decide)]; exact g4
      · rw [e5, zu_k (by decide), zu_k (by decide), zu_k (by decide), e0, zu_eq]
      · rw [e5, zu_eq]
      · rw [e5, zu_k (by decide), zu_k (by decide), zu_eq]; rfl
      · rw [z0 11 (by decide) (by decide) (by decide)]; exact c6.1
      · rw [row 158 (by decide) (by omega)]; exact c6.2 j hj
      · rw [z0 3 (by decide) (by decide) (by decide)]; exact c7
