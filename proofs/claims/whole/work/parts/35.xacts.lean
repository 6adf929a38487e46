/-! THE CLASS: acts. -/
theorem x_drop {d : Nat} {S : St} {x : Int32} {iv : zI} {rv : zR} {lv : zJ} (hT : zTop rv) (h : CB S iv) (hv : VT S) : Ci mX10_drop (d + 9) [.ref 0, .int x] iv rv lv (XR (F_drop S x).2 (F_drop S x).1 iv rv lv) := by
  refine eX10_drop x (bX10_drop_0 x hT (zcall (x_noNumber hT) hT ?_))
  unfold F_drop
  rcases nOf_cases S x hv with ⟨e, hx⟩ | ⟨s, i, e, es, hi, rfl⟩
  · rw [h.nn0 hx, e]
    exact ⟨fun q => absurd q (by decide), fun _ => zcall (x_refuse hT) hT (XR.tr' rfl h)⟩
  · rw [h.nn1 hv es hi, e]
    have hn := h.2.1
    rw [es] at hn
    obtain ⟨cs, c6⟩ := hn
    have vs := hv.2.1 s es
    have vn := vs.1
    refine ⟨fun _ => ?_, fun q => absurd rfl q⟩
    rw [cs.1, z_1, nI_eq (by omega) (by omega)]
    by_cases h1 : s.1 = 1
    · simp only [h1, if_true]
      exact ⟨fun q => absurd trivial q, fun _ => zcall (x_refuse hT) hT (XR.tr' rfl h)⟩
    · simp only [h1, if_false]
      refine ⟨fun _ => ⟨vp_in_nI (by omega) (by decide), ?_⟩, fun q => absurd q (by simp)⟩
      refine ⟨_, x_keepAct hT h.2.2.1 hv.2.2.1.1 cs vn.2, ?_⟩
      rintro r w _ _ ⟨rfl, rfl, m1, m2, m3, m4, m5, m6⟩
      have csw : CS w 8 s := cs.fr (fun t ht => m6 (8 + t) (by omega))
      refine ⟨hT, m1, zcallV (s_remove (o := 8) (c := s.1) (p := apb s.2.2.2.2) hT (by decide) csw.1 vn.2 hi csw.2.2.2.2) ?_⟩
      rintro w1 _ _ ⟨rfl, rfl, a0, a1, a2, a3, a4⟩
      have cs1 : CS w1 8 (dropS s i) := by
        refine ⟨by rw [a0, zu_eq]; rfl, by rw [a0, zu_k (by decide)]; exact csw.2.1, fun t ht => ?_, fun t ht => ?_, fun t ht => ?_⟩
        · rw [a1 t ht]; exact csw.2.2.1 _ (inc_lt hi ht)
        · rw [a2 t ht]; exact csw.2.2.2.1 _ (inc_lt hi ht)
        · rw [a3 t ht]
          congr 1
          refine mk_congr fun u _ => ?_
          exact (apb_dropP i s.2.2.2.2 t u).symm
      have va : iv (8 + 1) i = nI (s.2.2.1 i) := cs.2.2.1 i hi
      rw [nI_clamp (by omega), va]
      exact ⟨hT, act_ans (f := fun _ => nI (s.2.2.1 i)) (r := nI (s.2.2.1 i)) hT h (fun a ha => by rw [a4 a (by omega), m6 a (by omega)]) (m4.fr (fun a p q => a4 a (by omega))) cs1 (VS_drop vs h1 hi) (fun _ _ _ => rfl) (fun a q => q)⟩
theorem of_val {v : Int32} (hx : ¬ (v < 1 ∨ 9999 < v)) : ∃ j : Nat, 1 ≤ j ∧ j ≤ 9999 ∧ v = nI j := by
  obtain ⟨j, hj, rfl⟩ : ∃ j : Nat, j ≤ 9999 ∧ v = nI j := nI_of2 (M := 9999) rfl (fun q => hx (Or.inl (Int32.lt_trans q (by decide)))) (Int32.not_lt.mp (fun q => hx (Or.inr q)))
  rcases Nat.eq_zero_or_pos j with q | q
  · subst q
    exact absurd (Or.inl (by decide)) hx
  · exact ⟨j, q, hj, rfl⟩
theorem x_become {d : Nat} {S : St} {x v : Int32} {iv : zI} {rv : zR} {lv : zJ} (hT : zTop rv) (h : CB S iv) (hv : VT S) : Ci mX10_become (d + 9) [.ref 0, .int x, .int v] iv rv lv (XR (F_become S x v).2 (F_become S x v).1 iv rv lv) := by
  refine eX10_become x v (bX10_become_0 x v hT (zcall (x_noNumber hT) hT (zcall (x_noSuchValue hT) hT ?_)))
  unfold F_become
  rcases nOf_cases S x hv with ⟨e, hx⟩ | ⟨s, i, e, es, hi, rfl⟩
  · rw [h.nn0 hx, e]
    exact zcall (x_refused hT) hT ⟨fun q => absurd (show (1 : Int32) = 0 from q) (by decide), fun _ => XR.tr' rfl h⟩
  · rw [h.nn1 hv es hi, e]
    have hn := h.2.1
    rw [es] at hn
    obtain ⟨cs, c6⟩ := hn
    have vs := hv.2.1 s es
    have vn := vs.1
    by_cases hx : v < 1 ∨ 9999 < v
    · simp only [hx, decide_true, if_true]
      exact zcall (x_refused hT) hT ⟨fun q => absurd (show (1 : Int32) = 0 from q) (by decide), fun _ => XR.tr' rfl h⟩
    · simp only [hx, decide_false, if_false]
      refine zcall (x_refused hT) hT ⟨fun _ => ⟨vp_in_nI (by omega) (by decide), ?_⟩, fun q => absurd rfl q⟩
      simp only [if_false, Bool.false_eq_true]
      obtain ⟨j, j1, j2, rfl⟩ := of_val hx
      refine ⟨_, x_keepAct hT h.2.2.1 hv.2.2.1.1 cs vn.2, ?_⟩
      rintro r w _ _ ⟨rfl, rfl, m1, m2, m3, m4, m5, m6⟩
      have csw : CS w 8 s := cs.fr (fun t ht => m6 (8 + t) (by omega))
      refine ⟨hT, m1, fun w1 a1 => ?_⟩
      rw [nI_clamp (by omega)] at a1
      have cs1 : CS w1 8 (becS s i j) := by
        refine ⟨by rw [a1, zu_row (by omega)]; exact csw.1, by rw [a1, zu_row (by omega)]; exact csw.2.1, fun t ht => ?_, fun t ht => by rw [a1, zu_row (by omega)]; exact csw.2.2.2.1 t ht, fun t ht => by rw [a1, zu_row (by omega)]; exact csw.2.2.2.2 t ht⟩
        rw [a1]
        show _ = nI (if t = i then j else s.2.2.1 t)
        by_cases q : t = i
        · rw [q, zu_eq, if_pos rfl]
        · rw [zu_k q, if_neg q]; exact csw.2.2.1 t ht
      have va : iv (8 + 1) i = nI (s.2.2.1 i) := cs.2.2.1 i hi
      rw [nI_clamp (show i < 2 ^ 31 by omega), va, nI_clamp (show j < 2 ^ 31 by omega)]
      exact act_ans (f := fun _ => nI (s.2.2.1 i)) (r := nI (s.2.2.1 i)) hT h (fun a ha => by rw [a1, zu_row (by omega), m6 a (by omega)]) (m4.fr (fun a p q => by rw [a1, zu_row (by omega)])) cs1 (VS_bec vs j1 j2) (fun _ _ _ => rfl) (fun a q => q)
theorem x_keep26 {d : Nat} {S : St} {s : Sn} {i x : Nat} {h0 : Int32} {iv : zI} {rv : zR} {lv : zJ} (hT : zTop rv) (h : CB S iv) (hv : VT S) (es : S.2.1 = some s) (hi : i < s.1) (hx : x ≤ 4) (hk : h0 = kpI x) : Zi mX10_keepIn (d + 9) 26 [some (.ref 0), some (.int (nI i)), some (.int h0), none] [.int 0, .int (bI false), .ref 0] iv rv lv (XR (sA S s (kpS s i x)) (kpI (s.2.2.2.1 i)) iv rv lv) := by
  have hn := h.2.1
  rw [es] at hn
  obtain ⟨cs, c6⟩ := hn
  have vs := hv.2.1 s es
  have vn := vs.1
  refine bX10_keepIn_26 _ _ _ _ hT (zcall (x_refused (b := false) hT) hT ⟨fun _ => ⟨vp_in_nI (by omega) (by decide), ?_⟩, fun q => absurd rfl q⟩)
  simp only [if_false, Bool.false_eq_true]
  refine ⟨_, x_keepAct hT h.2.2.1 hv.2.2.1.1 cs vn.2, ?_⟩
  rintro r w _ _ ⟨rfl, rfl, m1, m2, m3, m4, m5, m6⟩
  have csw : CS w 8 s := cs.fr (fun t ht => m6 (8 + t) (by omega))
  refine ⟨hT, m1, fun w1 a1 => ?_⟩
  rw [nI_clamp (by omega)] at a1
  have cs1 : CS w1 8 (kpS s i x) := by
    refine ⟨by rw [a1, zu_row (by omega)]; exact csw.1, by rw [a1, zu_row (by omega)]; exact csw.2.1, fun t ht => by rw [a1, zu_row (by omega)]; exact csw.2.2.1 t ht, fun t ht => ?_, fun t ht => by rw [a1, zu_row (by omega)]; exact csw.2.2.2.2 t ht⟩
    rw [a1]
    show _ = kpI (if t = i then x else s.2.2.2.1 t)
    by_cases q : t = i
    · rw [q, zu_eq, if_pos rfl]; exact hk
    · rw [zu_k q, if_neg q]; exact csw.2.2.2.1 t ht
  have va : iv (8 + 2) i = kpI (s.2.2.2.1 i) := cs.2.2.2.1 i hi
  rw [nI_clamp (show i < 2 ^ 31 by omega), va]
  exact act_ans (f := fun _ => kpI (s.2.2.2.1 i)) (r := kpI (s.2.2.2.1 i)) hT h (fun a ha => by rw [a1, zu_row (by omega), m6 a (by omega)]) (m4.fr (fun a p q => by rw [a1, zu_row (by omega)])) cs1 (VS_kp vs hx) (fun _ _ _ => rfl) (fun a q => q)
theorem x_keepIn {d : Nat} {S : St} {x h0 : Int32} {iv : zI} {rv : zR} {lv : zJ} (hT : zTop rv) (h : CB S iv) (hv : VT S) : Ci mX10_keepIn (d + 9) [.ref 0, .int x, .int h0] iv rv lv (XR (F_keepIn S x h0).2 (F_keepIn S x h0).1 iv rv lv) := by
  refine eX10_keepIn x h0 (bX10_keepIn_0 x h0 hT (zcall (x_noNumber hT) hT ?_))
  unfold F_keepIn
  rcases nOf_cases S x hv with ⟨e, hx⟩ | ⟨s, i, e, es, hi, rfl⟩
  · rw [h.nn0 hx, e]
    have b0 : Zi mX10_keepIn (d + 9) 26 [some (.ref 0), some (.int x), some (.int h0), none] [.int 0, .int (bI true), .ref 0] iv rv lv (XR (rf S 1).2 (rf S 1).1 iv rv lv) := bX10_keepIn_26 _ _ _ _ hT (zcall (x_refused (b := false) hT) hT ⟨fun q => absurd (show (1 : Int32) = 0 from q) (by decide), fun _ => XR.tr' rfl h⟩)
    have b1 : Zi mX10_keepIn (d + 9) 26 [some (.ref 0), some (.int x), some (.int h0), none] [.int 1, .int (bI true), .ref 0] iv rv lv (XR (rf S 1).2 (rf S 1).1 iv rv lv) := bX10_keepIn_26 _ _ _ _ hT (zcall (x_refused (b := true) hT) hT ⟨fun q => absurd (show (1 : Int32) = 0 from q) (by decide), fun _ => XR.tr' rfl h⟩)
    exact ⟨fun _ => b0, fun _ => ⟨fun _ => b1, fun _ => ⟨fun _ => b0, fun _ => b1⟩⟩⟩
  · rw [h.nn1 hv es hi, e]
    have b1 : Zi mX10_keepIn (d + 9) 26 [some (.ref 0), some (.int (nI i)), some (.int h0), none] [.int 1, .int (bI false), .ref 0] iv rv lv (XR (rf S 2).2 (rf S 2).1 iv rv lv) := bX10_keepIn_26 _ _ _ _ hT (zcall (x_refused (b := true) hT) hT ⟨fun q => absurd (show (1 : Int32) = 0 from q) (by decide), fun _ => XR.tr' rfl h⟩)
    refine ⟨fun q => ?_, fun q => ⟨fun q2 => ?_, fun q2 => ⟨fun q3 => ?_, fun q3 => ?_⟩⟩⟩
    · simp only [q, if_true]
      exact x_keep26 (x := 0) hT h hv es hi (by omega) rfl
    · simp only [q, q2, true_or, if_true, if_false]
      exact b1
    · have n3 : ¬ 4 ≤ h0 := Int32.not_le.mpr q3
      simp only [q, q2, n3, or_self, if_false]
      obtain ⟨j, hj, rfl⟩ : ∃ j : Nat, j ≤ 3 ∧ h0 = nI j := nI_of2 (M := 3) rfl q2 (by
        rcases Int32.lt_or_le 3 h0 with z | z
        · exfalso
          apply n3
          rw [Int32.le_iff_toInt_le]
          rw [Int32.lt_iff_toInt_lt] at z
          have c3 : (3 : Int32).toInt = 3 := rfl
          have c4 : (4 : Int32).toInt = 4 := rfl
          omega
        · exact z)
      rw [nI_clamp (by omega)]
      exact x_keep26 (x := j + 1) hT h hv es hi (by omega) (by simp [kpI])
    · have n3 : 4 ≤ h0 := Int32.not_lt.mp q3
      simp only [q, n3, or_true, if_true, if_false]
      exact b1
theorem x_apart52 {d : Nat} {S : St} {s : Sn} {i j : Nat} {iv : zI} {rv : zR} {lv : zJ} (hT : zTop rv) (h : CB S iv) (hv : VT S) (es : S.2.1 = some s) (hi : i < s.1) (hj : j < s.1) (hl : ¬ (s.2.2.2.2.length = 6 ∧ apb s.2.2.2.2 i j = false)) : Zi mX10_apart (d + 9) 52 [some (.ref 0), some (.int (nI i)), some (.int (nI j))] [] iv rv lv (XR (if i = j then rf S 5 else (nI (togP s.2.2.2.2 i j).length, sA S s (apS s i j))).2 (if i = j then rf S 5 else (nI (togP s.2.2.2.2 i j).length, sA S s (apS s i j))).1 iv rv lv) := by
  have hn := h.2.1
  rw [es] at hn
  obtain ⟨cs, c6⟩ := hn
  have vs := hv.2.1 s es
  have vn := vs.1
  refine bX10_apart_52 _ _ hT ?_
  rw [nI_eq (by omega) (by omega)]
  by_cases hij : i = j
  · simp only [hij, if_true]
    exact ⟨fun q => absurd trivial q, fun _ => zcall (x_refuse hT) hT (XR.tr' rfl h)⟩
  · simp only [hij, if_false]
    refine ⟨fun _ => ?_, fun q => absurd q (by simp)⟩
    refine ⟨_, x_keepAct hT h.2.2.1 hv.2.2.1.1 cs vn.2, ?_⟩
    rintro r w _ _ ⟨rfl, rfl, m1, m2, m3, m4, m5, m6⟩
    have csw : CS w 8 s := cs.fr (fun t ht => m6 (8 + t) (by omega))
    refine ⟨hT, m1, zcallV (s_toggle (o := 8) (c := s.1) (p := apb s.2.2.2.2) (q := apb (togP s.2.2.2.2 i j)) hT (by decide) vn.2 csw.2.2.2.2 hi hj hij (fun a b _ _ => apb_tog vs.2.2.2.2.1 a b)) ?_⟩
    rintro w1 _ _ ⟨rfl, rfl, a0, a1⟩
    have cs1 : CS w1 8 (apS s i j) := ⟨by rw [a1 8 (by omega)]; exact csw.1, by rw [a1 8 (by omega)]; exact csw.2.1, fun t ht => by rw [a1 (8 + 1) (by omega)]; exact csw.2.2.1 t ht, fun t ht => by rw [a1 (8 + 2) (by omega)]; exact csw.2.2.2.1 t ht, fun t ht => a0 t ht⟩
    have vs1 := VS_ap vs hi hj hij hl
    refine ⟨hT, act_end hT h (fun a ha => by rw [a1 a (by omega), m6 a (by omega)]) (m4.fr (fun a p q => a1 a (by omega))) cs1 vs1 ?_⟩
    intro w2 e1 e2 hC hF
    have cs2 : CS w2 8 (apS s i j) := by
      have := hC.2.1
      exact CS.fr this.1 (fun t ht => by
        by_cases t0 : t = 0
        · subst t0
          rw [zu_row (by omega), zu_row (by omega)]
        · rw [zu_row (by omega), zu_row (by omega)])
    exact zcall (s_pairs (o := 8) (c := s.1) (ap := togP s.2.2.2.2 i j) hT (by decide) cs2.1 vn.2 cs2.2.2.2.2 vs1.2.2.2.2.1) hT (zcall (x_answer hT) hT ⟨rfl, rfl, rfl, hC, hF⟩)
theorem x_apart {d : Nat} {S : St} {x y : Int32} {iv : zI} {rv : zR} {lv : zJ} (hT : zTop rv) (h : CB S iv) (hv : VT S) : Ci mX10_apart (d + 9) [.ref 0, .int x, .int y] iv rv lv (XR (F_apart S x y).2 (F_apart S x y).1 iv rv lv) := by
  refine eX10_apart x y (bX10_apart_0 x y hT (zcall (x_noNumber hT) hT ?_))
  unfold F_apart
  rcases nOf_cases S x hv with ⟨e, hx⟩ | ⟨s, i, e, es, hi, rfl⟩
  · rw [h.nn0 hx, e]
    exact ⟨fun _ => zcall (x_refuse hT) hT (XR.tr' rfl h), fun q => absurd q (by decide)⟩
  · rw [h.nn1 hv es hi, e]
    refine ⟨fun q => absurd rfl q, fun _ => zcall (x_noNumber hT) hT ?_⟩
    rcases nOf_cases S y hv with ⟨e2, hy⟩ | ⟨s2, j, e2, es2, hj, rfl⟩
    · rw [h.nn0 hy, e2]
      exact ⟨fun q => absurd q (by decide), fun _ => zcall (x_refuse hT) hT (XR.tr' rfl h)⟩
    · rw [es] at es2
      cases es2
      rw [h.nn1 hv es hj, e2]
      have hn := h.2.1
      rw [es] at hn
      obtain ⟨cs, c6⟩ := hn
      have vs := hv.2.1 s es
      have vn := vs.1
      have vl := vs.2.2.2.2.2
      refine ⟨fun _ => zcall (s_pairs (o := 8) hT (by decide) cs.1 vn.2 cs.2.2.2.2 vs.2.2.2.2.1) hT ⟨fun q => ?_, fun q => zcall (s_areApart (o := 8) hT (by decide) vn.2 cs.2.2.2.2 hi hj) hT ⟨fun q2 => ?_, fun q2 => ?_⟩⟩, fun q => absurd rfl q⟩
      · have q : nI s.2.2.2.2.length < nI 6 := q
        rw [nI_ltI (by omega) (by omega)] at q
        have n6 : ¬ (s.2.2.2.2.length = 6 ∧ apb s.2.2.2.2 i j = false) := by omega
        simp only [n6, if_false]
        exact x_apart52 hT h hv es hi hj n6
      · have ap1 : apb s.2.2.2.2 i j = true := by
          cases c : apb s.2.2.2.2 i j with
          | true => rfl
          | false => rw [c] at q2; exact absurd rfl q2
        have n6 : ¬ (s.2.2.2.2.length = 6 ∧ apb s.2.2.2.2 i j = false) := by rw [ap1]; simp
        simp only [n6, if_false]
        exact x_apart52 hT h hv es hi hj n6
      · have q : ¬ nI s.2.2.2.2.length < nI 6 := q
        rw [nI_ltI (by omega) (by omega)] at q
        have ap1 : apb s.2.2.2.2 i j = false := by
          cases c : apb s.2.2.2.2 i j with
          | false => rfl
          | true => rw [c] at q2; exact absurd q2 (by decide)
        have n6 : s.2.2.2.2.length = 6 ∧ apb s.2.2.2.2 i j = false := ⟨by omega, ap1⟩
        simp only [n6, and_self, if_true]
        exact zcall (x_refuse hT) hT (XR.tr' rfl h)
