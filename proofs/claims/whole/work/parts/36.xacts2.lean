/-! THE CLASS: sort, heaps, undo, images, the small calls. -/
theorem x_sort {d : Nat} {S : St} {iv : zI} {rv : zR} {lv : zJ} (hT : zTop rv) (h : CB S iv) (hv : VT S) : Ci mX10_sort (d + 9) [.ref 0] iv rv lv (XR (F_sort S).2 (F_sort S).1 iv rv lv) := by
  refine eX10_sort (bX10_sort_0 hT (zcall (x_noText hT) hT ?_))
  rw [h.nt hv]
  unfold F_sort
  have hn := h.2.1
  cases e : S.2.1 with
  | none => exact ⟨fun q => absurd q (by decide), fun _ => zcall (x_refuse hT) hT (XR.tr' rfl h)⟩
  | some s =>
    rw [e] at hn
    obtain ⟨cs, c6⟩ := hn
    have vs := hv.2.1 s e
    have vn := vs.1
    refine ⟨fun _ => ?_, fun q => absurd rfl q⟩
    refine zfor (P := fun j => Zi mX10_sort (d + 9) 17 [some (.ref 0), some (.int (nI (cn (fun j => !(un s.1 s.2.2.1 j == j)) j))), some (.int (nI j))] [] iv rv lv (XR (sA S s (sortS s)) (nI (cn (fun j => !(un s.1 s.2.2.1 j == j)) s.1)) iv rv lv)) (c := s.1) ?_ ?_ 0 (Nat.zero_le _)
    · refine bX10_sort_17 _ _ hT ⟨fun _ => ?_, fun q => absurd (by rw [cs.1]; exact nI_le (Nat.le_refl _) (by omega)) q⟩
      refine ⟨_, x_keepAct hT h.2.2.1 hv.2.2.1.1 cs vn.2, ?_⟩
      rintro r w _ _ ⟨rfl, rfl, m1, m2, m3, m4, m5, m6⟩
      have csw : CS w 8 s := cs.fr (fun t ht => m6 (8 + t) (by omega))
      have m54 : ∀ j, j < s.1 → w (r + 4) j = nI (un s.1 s.2.2.1 j) := fun j hj => by rw [m5 4 (by omega) (by omega) j (by omega)]; exact c6 j hj
      have m53 : ∀ j, j < s.1 → w (r + 3) j = nI (mk (apb s.2.2.2.2 j) s.1) := fun j hj => by rw [m5 3 (by omega) (by omega) j (by omega)]; exact cs.2.2.2.2 j hj
      refine ⟨hT, m1, zcallV (s_lay (o := 8) (p := r) (c := s.1) (u := un s.1 s.2.2.1) (q := apb s.2.2.2.2) hT (by decide) m1 (by omega) csw.1 vn.2 (fun j hj => ⟨m54 j hj, un_lt _ _ _ hj⟩) m53) ?_⟩
      rintro w1 _ _ ⟨rfl, rfl, a1, a2, a3, a4⟩
      have cs1 : CS w1 8 (sortS s) := by
        refine ⟨by rw [a4 8 (by omega)]; exact csw.1, by rw [a4 8 (by omega)]; exact csw.2.1, fun t ht => ?_, fun t ht => ?_, fun t ht => ?_⟩
        · have hu := un_lt s.1 s.2.2.1 t ht
          rw [a1 t ht, m5 1 (by omega) (by omega) _ (by omega)]
          exact cs.2.2.1 _ hu
        · have hu := un_lt s.1 s.2.2.1 t ht
          rw [a2 t ht, m5 2 (by omega) (by omega) _ (by omega)]
          exact cs.2.2.2.1 _ hu
        · rw [a3 t ht]
          congr 1
          exact mk_congr fun u hu => (apb_rkP vs.2.2.2.2.1 ht hu).symm
      exact ⟨hT, act_ans (f := fun _ => nI (cn (fun j => !(un s.1 s.2.2.1 j == j)) s.1)) (r := nI (cn (fun j => !(un s.1 s.2.2.1 j == j)) s.1)) hT h (fun a ha => by rw [a4 a (by omega), m6 a (by omega)]) (m4.fr (fun a p q => a4 a (by omega))) cs1 (VS_sort vs) (fun _ _ _ => rfl) (fun a q => q)⟩
    · intro j hj ih
      have hu := un_lt s.1 s.2.2.1 j hj
      refine bX10_sort_17 _ _ hT ⟨fun q => ?_, fun _ => ⟨vp_in_nI (by omega) (by decide), ?_⟩⟩
      · rw [cs.1] at q
        exact absurd q (nI_ge hj (by omega))
      · have a1 : iv (8 + 4) j = nI (un s.1 s.2.2.1 j) := c6 j hj
        rw [nI_clamp (by omega), a1, nI_eq (by omega) (by omega), nI_1, nI_1]
        refine ⟨fun q => ?_, fun q => ?_⟩
        · have : cn (fun j => !(un s.1 s.2.2.1 j == j)) (j + 1) = cn (fun j => !(un s.1 s.2.2.1 j == j)) j := by simp [cn, q]
          rw [this] at ih
          exact ih
        · have : cn (fun j => !(un s.1 s.2.2.1 j == j)) (j + 1) = cn (fun j => !(un s.1 s.2.2.1 j == j)) j + 1 := by simp [cn, q]
          rw [this] at ih
          exact ih
theorem of_k {x : Int32} (hx : ¬ (x < 2 ∨ 4 < x)) : ∃ j : Nat, 2 ≤ j ∧ j ≤ 4 ∧ x = nI j := by
  obtain ⟨j, hj, rfl⟩ : ∃ j : Nat, j ≤ 4 ∧ x = nI j := nI_of2 (M := 4) rfl (fun q => hx (Or.inl (Int32.lt_trans q (by decide)))) (Int32.not_lt.mp (fun q => hx (Or.inr q)))
  refine ⟨j, ?_, hj, rfl⟩
  rcases (show j = 0 ∨ j = 1 ∨ 2 ≤ j by omega) with q | q | q
  · subst q
    exact absurd (Or.inl (by decide)) hx
  · subst q
    exact absurd (Or.inl (by decide)) hx
  · exact q
theorem x_heaps {d : Nat} {S : St} {x : Int32} {iv : zI} {rv : zR} {lv : zJ} (hT : zTop rv) (h : CB S iv) (hv : VT S) : Ci mX10_heaps (d + 9) [.ref 0, .int x] iv rv lv (XR (F_heaps S x).2 (F_heaps S x).1 iv rv lv) := by
  refine eX10_heaps x (bX10_heaps_0 x hT (zcall (x_noText hT) hT (zcall (x_noSuchHeaps hT) hT ?_)))
  rw [h.nt hv]
  unfold F_heaps
  have hn := h.2.1
  cases e : S.2.1 with
  | none => exact zcall (x_refused hT) hT ⟨fun q => absurd (show (1 : Int32) = 0 from q) (by decide), fun _ => XR.tr' rfl h⟩
  | some s =>
    rw [e] at hn
    obtain ⟨cs, c6⟩ := hn
    have vs := hv.2.1 s e
    have vn := vs.1
    by_cases hx : x < 2 ∨ 4 < x
    · simp only [hx, decide_true, if_true]
      exact zcall (x_refused hT) hT ⟨fun q => absurd (show (1 : Int32) = 0 from q) (by decide), fun _ => XR.tr' rfl h⟩
    · simp only [hx, decide_false, if_false]
      refine zcall (x_refused hT) hT ⟨fun _ => ?_, fun q => absurd rfl q⟩
      simp only [Option.isNone, if_false, Bool.false_eq_true]
      obtain ⟨j, j1, j2, rfl⟩ := of_k hx
      refine ⟨_, x_keepAct hT h.2.2.1 hv.2.2.1.1 cs vn.2, ?_⟩
      rintro r w _ _ ⟨rfl, rfl, m1, m2, m3, m4, m5, m6⟩
      have csw : CS w 8 s := cs.fr (fun t ht => m6 (8 + t) (by omega))
      refine ⟨hT, m1, fun w1 a1 => ?_⟩
      have cs1 : CS w1 8 (hpS s j) := ⟨by rw [a1, zu_k (by decide)]; exact csw.1, by rw [a1, zu_eq]; rfl, fun t ht => by rw [a1, zu_row (by omega)]; exact csw.2.2.1 t ht, fun t ht => by rw [a1, zu_row (by omega)]; exact csw.2.2.2.1 t ht, fun t ht => by rw [a1, zu_row (by omega)]; exact csw.2.2.2.2 t ht⟩
      rw [cs.2.1, nI_clamp (by omega)]
      exact act_ans (f := fun _ => nI s.2.1) (r := nI s.2.1) hT h (fun a ha => by rw [a1, zu_row (by omega), m6 a (by omega)]) (m4.fr (fun a p q => by rw [a1, zu_row (by omega)])) cs1 (VS_hp vs j1 j2) (fun _ _ _ => rfl) (fun a q => q)
/-- 'changed' with other numbers and another history: undo, back -/
theorem chg_end {d : Nat} {S : St} {s' : Sn} {hist' : List Sn} {iv w : zI} {rv : zR} {lv : zJ} {K : zI → zR → zJ → Prop} (hT : zTop rv) (h : CB S iv) (hr : ∀ a, a < 8 ∨ 65 < a → w a = iv a) (hH : HB w hist') (hs : CS w 8 s') (hv : VS s')
    (hk : ∀ w2 : zI, w2 13 = w 13 → CB (S.1, some s', hist', S.2.2.2.1, (S.2.2.2.2.1.1, -1, 0), S.2.2.2.2.2.1, S.2.2.2.2.2.2 + 1) (zu (zu w2 0 12 0) 0 14 (-1)) → FC iv (zu (zu w2 0 12 0) 0 14 (-1)) → K w2 rv lv) :
    ∃ Q1 : zI → zR → zJ → Prop, Cv mX10_changed (d + 1) [.ref 0] w rv lv Q1 ∧ ∀ (a : zI) (b : zR) (c : zJ), Q1 a b c → zTop b ∧ K a b c := by
  obtain ⟨h1, h2, h3, h4, h5, h6, h7⟩ := h
  refine zcallV (x_changed hT hs hv (by rw [hr 0 (by omega)]; exact h7)) ?_
  rintro w2 _ _ ⟨rfl, rfl, c1, c2, c3⟩
  have r : ∀ a, a ≠ 0 → a ≠ 12 → zu (zu w2 0 12 0) 0 14 (-1) a = w a := fun a a1 a2 => by rw [zu_row a1, zu_row a1]; exact c3 a a1 a2
  have r0 : ∀ b, b ≠ 3 → b ≠ 12 → b ≠ 14 → zu (zu w2 0 12 0) 0 14 (-1) 0 b = iv 0 b := fun b b1 b2 b3 => by
    rw [zu_k b3, zu_k b2, c2, zu_k b1, hr 0 (by omega)]
  refine ⟨hT, hk w2 (c3 13 (by omega) (by omega)) ⟨?_, ⟨hs.fr (fun t ht => r _ (by omega) (by omega)), fun j hj => ?_⟩, hH.fr (fun a _ _ => r a (by omega) (by omega)), h4.fr (fun a a1 a2 => by rw [r a (by omega) (by omega)]; exact hr a (by omega)), ⟨?_, zu_eq, ?_⟩, ⟨?_, ?_⟩, ?_⟩ (fun a a1 a2 => by rw [r a (by omega) (by omega)]; exact hr a (by omega))⟩
  · rw [r 1 (by omega) (by omega), r 7 (by omega) (by omega), hr 1 (by omega), hr 7 (by omega)]; exact h1
  · rw [zu_row (by omega), zu_row (by omega)]; exact c1 j hj
  · rw [r0 13 (by decide) (by decide) (by decide)]; exact h5.1
  · rw [zu_k (by decide), zu_eq]; rfl
  · rw [r0 11 (by decide) (by decide) (by decide)]; exact h6.1
  · intro j hj
    rw [r 158 (by omega) (by omega), hr 158 (by omega)]
    exact h6.2 j hj
  · rw [zu_k (by decide), zu_k (by decide), c2, zu_eq]
theorem x_undo {d : Nat} {S : St} {iv : zI} {rv : zR} {lv : zJ} (hT : zTop rv) (h : CB S iv) (hv : VT S) : Ci mX10_undo (d + 9) [.ref 0] iv rv lv (XR (F_undo S).2 (F_undo S).1 iv rv lv) := by
  refine eX10_undo (bX10_undo_0 hT (zcall (x_noText hT) hT ?_))
  rw [h.nt hv]
  unfold F_undo
  have hn := h.2.1
  have hH := h.2.2.1
  have hl := hv.2.2.1
  cases e : S.2.1 with
  | none => exact ⟨fun q => absurd q (by decide), fun _ => zcall (x_refuse hT) hT (XR.tr' rfl h)⟩
  | some s =>
    refine ⟨fun _ => ?_, fun q => absurd rfl q⟩
    cases eh : S.2.2.1 with
    | nil =>
      rw [eh] at hH
      obtain ⟨nx, -, -, h3, -⟩ := hH
      rw [h3]
      exact ⟨fun q => absurd rfl q, fun _ => zcall (x_refuse hT) hT (XR.tr' rfl h)⟩
    | cons s1 t =>
      rw [eh] at hH hl
      have hl1 : (s1 :: t).length = t.length + 1 := rfl
      have vs1 := hl.2 s1 List.mem_cons_self
      obtain ⟨nx, -, -, h3, -⟩ := id hH
      rw [h3, hl1]
      refine ⟨fun _ => ?_, fun q => absurd q (nI_ne0 (by omega) (by omega))⟩
      refine zcallV (x_takeBack hT hH (by omega) vs1.1.2) ?_
      rintro w _ _ ⟨rfl, rfl, m1, m2, m3⟩
      refine ⟨hT, chg_end hT h (fun a ha => m3 a (by omega)) m1 m2 vs1 ?_⟩
      intro w2 e1 hC hF
      obtain ⟨nx2, -, -, h32, -⟩ := m1
      rw [e1, h32]
      exact zcall (x_answer hT) hT ⟨rfl, rfl, rfl, hC, hF⟩
theorem of_i {x : Int32} (hx : ¬ (x < 0 ∨ 2 ≤ x)) : ∃ j : Nat, j < 2 ∧ x = nI j := by
  rcases pk_ix x (show 2 < 2 ^ 31 by decide) with q | q | q
  · exact absurd (Or.inl q) hx
  · exact absurd (Or.inr q) hx
  · exact q
theorem x_image {d : Nat} {S : St} {x : Int32} {iv : zI} {rv : zR} {lv : zJ} (hT : zTop rv) (h : CB S iv) (hv : VT S) : Ci mX10_image (d + 9) [.ref 0, .int x] iv rv lv (XR (F_image S x).2 (F_image S x).1 iv rv lv) := by
  refine eX10_image x (bX10_image_0 x hT (zcall (x_noText hT) hT ?_))
  rw [h.nt hv]
  unfold F_image
  have hn := h.2.1
  cases e : S.2.1 with
  | none => exact ⟨fun _ => zcall (x_refuse hT) hT (XR.tr' rfl h), fun q => absurd q (by decide)⟩
  | some s =>
    rw [e] at hn
    obtain ⟨cs, c6⟩ := hn
    have vs := hv.2.1 s e
    have vn := vs.1
    refine ⟨fun q => absurd rfl q, fun _ => ⟨fun q => ?_, fun q => ⟨fun q2 => ?_, fun q2 => ?_⟩⟩⟩
    · simp only [q, true_or, if_true]
      exact zcall (x_refuse hT) hT (XR.tr' rfl h)
    · have q3 : ¬ 2 ≤ x := Int32.not_le.mpr q2
      have q4 : ¬ (x < 0 ∨ 2 ≤ x) := fun z => z.elim q q3
      simp only [q4, if_false]
      obtain ⟨j, hj, rfl⟩ := of_i q4
      rw [nI_clamp (by omega)]
      refine ⟨vp_in_nI hj (by decide), _, hT.2.2.2.2.2.1 j hj, imgM j hj, zcallV (s_copy hT (imgM j hj) (by decide)) ?_⟩
      rintro w _ _ ⟨rfl, rfl, c1, c2, c3⟩
      have csi : CS w (66 + 5 * j) s := cs.copy vn.2 c1 c2
      refine ⟨hT, zcall (x_answer hT) hT ⟨rfl, rfl, rfl, ?_, fun a a1 a2 => ?_⟩⟩
      · obtain ⟨h1, h2, h3, h4, h5, h6, h7⟩ := h
        have r : ∀ a, a ≠ 0 → a < 66 + 5 * j ∨ 66 + 5 * j + 4 < a → zu (zu w 0 12 0) 0 14 (-1) a = iv a := fun a a1 a2 => by rw [zu_row a1, zu_row a1]; exact c3 a a2
        have r0 : ∀ b, b ≠ 12 → b ≠ 14 → zu (zu w 0 12 0) 0 14 (-1) 0 b = iv 0 b := fun b b1 b2 => by rw [zu_k b2, zu_k b1, c3 0 (by omega)]
        refine ⟨?_, ?_, h3.fr (fun a a1 a2 => r a (by omega) (by omega)), fun i hi => ?_, ⟨?_, zu_eq, ?_⟩, ?_, ?_⟩
        · rw [r 1 (by omega) (by omega), r 7 (by omega) (by omega)]; exact h1
        · rw [e] at h2
          exact h2.fr (fun a a1 a2 => r a (by omega) (by omega))
        · show match (if i = j then some s else S.2.2.2.1 i) with | none => _ | some s => _
          by_cases q : i = j
          · rw [if_pos q, q]
            exact csi.fr (fun t ht => by rw [zu_row (by omega), zu_row (by omega)])
          · rw [if_neg q]
            have h41 := h4 i hi
            cases c : S.2.2.2.1 i with
            | none =>
              rw [c] at h41
              show zu (zu w 0 12 0) 0 14 (-1) (66 + 5 * i) 0 = nI 0
              rw [r _ (by omega) (by omega)]
              exact h41
            | some s3 =>
              rw [c] at h41
              exact CS.fr h41 (fun t ht => r _ (by omega) (by omega))
        · rw [r0 13 (by decide) (by decide)]; exact h5.1
        · rw [zu_k (by decide), zu_eq]; rfl
        · rw [r0 11 (by decide) (by decide), r 158 (by omega) (by omega)]; exact h6
        · rw [r0 3 (by decide) (by decide)]; exact h7
      · rw [zu_row (by omega), zu_row (by omega)]; exact c3 a (by omega)
    · have q3 : 2 ≤ x := Int32.not_lt.mp q2
      simp only [q3, or_true, if_true]
      exact zcall (x_refuse hT) hT (XR.tr' rfl h)
theorem x_back {d : Nat} {S : St} {x : Int32} {iv : zI} {rv : zR} {lv : zJ} (hT : zTop rv) (h : CB S iv) (hv : VT S) : Ci mX10_back (d + 9) [.ref 0, .int x] iv rv lv (XR (F_back S x).2 (F_back S x).1 iv rv lv) := by
  refine eX10_back x (bX10_back_0 x hT ?_)
  unfold F_back
  refine ⟨fun q => ?_, fun q => ⟨fun q2 => ?_, fun q2 => ?_⟩⟩
  · simp only [q, true_or, if_true]
    exact zcall (x_refuse hT) hT (XR.tr' rfl h)
  · simp only [q2, or_true, if_true]
    exact zcall (x_refuse hT) hT (XR.tr' rfl h)
  · have q4 : ¬ (x < 0 ∨ 2 ≤ x) := fun z => z.elim q q2
    simp only [q4, if_false]
    obtain ⟨j, hj, rfl⟩ := of_i q4
    rw [nI_clamp (by omega)]
    refine ⟨vp_in_nI hj (by decide), _, hT.2.2.2.2.2.1 j hj, imgM j hj, ?_⟩
    have h41 := h.2.2.2.1 j hj
    cases c : S.2.2.2.1 j with
    | none =>
      rw [c] at h41
      have h41 : iv (66 + 5 * j) 0 = nI 0 := h41
      rw [h41]
      exact ⟨fun z => absurd rfl z, fun _ => zcall (x_refuse hT) hT (XR.tr' rfl h)⟩
    | some s =>
      rw [c] at h41
      have vs := hv.2.2.2.1 j s c
      have h41 : CS iv (66 + 5 * j) s := h41
      rw [h41.1]
      refine ⟨fun _ => ?_, fun z => absurd z (nI_ne0 (by have := vs.1; omega) (by have := vs.1; omega))⟩
      refine ⟨_, hT.2.2.2.2.2.1 j hj, imgM j hj, zcallV (s_copy hT (by decide) (imgM j hj)) ?_⟩
      rintro w _ _ ⟨rfl, rfl, c1, c2, c3⟩
      refine ⟨hT, zcallE (x_forgetActs hT) hT ?_⟩
      have cs1 : CS (zu w 13 2 0) 8 s := (h41.copy vs.1.2 c1 c2).fr (fun t ht => by rw [zu_row (by omega)])
      obtain ⟨nx, n1, n2, n3, n4⟩ := h.2.2.1
      have hH : HB (zu w 13 2 0) [] := ⟨nx, n1, by rw [zu_k (by decide), c3 13 (by omega)]; exact n2, by rw [zu_eq]; rfl, fun j hj => absurd hj (Nat.not_lt_zero _)⟩
      refine chg_end hT h (fun a ha => by rw [zu_row (by omega), c3 a (by omega)]) hH cs1 vs ?_
      intro w2 e1 hC hF
      exact zcall (x_answer hT) hT ⟨rfl, rfl, rfl, hC, hF⟩
theorem x_fault {d : Nat} {S : St} {iv : zI} {rv : zR} {lv : zJ} (hT : zTop rv) (h : CB S iv) : Ci mX10_fault d [.ref 0] iv rv lv (XR S (nI S.2.2.2.2.1.1) iv rv lv) := eX10_fault (bX10_fault_0 hT ⟨h.2.2.2.2.1.1, rfl, rfl, h, fun _ _ _ => rfl⟩)
theorem x_where {d : Nat} {S : St} {iv : zI} {rv : zR} {lv : zJ} (hT : zTop rv) (h : CB S iv) : Ci mX10_where d [.ref 0] iv rv lv (XR S S.2.2.2.2.1.2.1 iv rv lv) := eX10_where (bX10_where_0 hT ⟨h.2.2.2.2.1.2.1, rfl, rfl, h, fun _ _ _ => rfl⟩)
theorem x_trouble {d : Nat} {S : St} {iv : zI} {rv : zR} {lv : zJ} (hT : zTop rv) (h : CB S iv) : Ci mX10_trouble d [.ref 0] iv rv lv (XR S (nI S.2.2.2.2.1.2.2) iv rv lv) := eX10_trouble (bX10_trouble_0 hT ⟨h.2.2.2.2.1.2.2, rfl, rfl, h, fun _ _ _ => rfl⟩)
theorem x_bytes {d : Nat} {S : St} {iv : zI} {rv : zR} {lv : zJ} (hT : zTop rv) (h : CB S iv) : Ci mX10_bytes d [.ref 0] iv rv lv (XR S (nI S.1.1) iv rv lv) := eX10_bytes (bX10_bytes_0 hT ⟨h.1.1, rfl, rfl, h, fun _ _ _ => rfl⟩)
