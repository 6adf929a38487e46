/-! THE REFERENCE: number, drop. -/
theorem MS.vals {iv : zI} {a : Nat} {s : Sn} (h : MS iv a 0 s) : ∀ i, i < s.1 → iv a (2 + i) = nI (s.2.2.1 i) := fun i hi => by
  have := h.2.2.1 i hi
  rw [Nat.zero_add] at this
  exact this
theorem MS.keeps {iv : zI} {a : Nat} {s : Sn} (h : MS iv a 0 s) : ∀ i, i < s.1 → iv a (12 + i) = nI (s.2.2.2.1 i) := fun i hi => by
  have := h.2.2.2.1 i hi
  rw [Nat.zero_add] at this
  exact this
theorem VS.ends {s : Sn} (h : VS s) : ∀ p ∈ s.2.2.2.2, p.1 < 10 ∧ p.2 < 10 := fun p hp => by
  have := VP_mem h.2.2.2.2.1 p hp
  have := h.1.2
  omega
theorem VS.vb {s : Sn} (h : VS s) : ∀ i, i < s.1 → s.2.2.1 i < 100000 := fun i hi => by have := (h.2.2.1 i hi).2; omega
theorem y_apartFrom {d i : Nat} {s : Sn} {iv : zI} {rv : zR} {lv : zJ} (hT : zTop rv) (ms : MS iv 176 0 s) (vs : VS s) (hi : i < s.1) : Ci mX11_apartFrom (d + 1) [.ref 174, .int (nI i)] iv rv lv (zP (nI (mk (apb s.2.2.2.2 i) s.1)) iv rv lv) := by
  have vn := vs.1
  have n1 : iv 176 0 = nI s.1 := ms.1
  refine eX11_apartFrom _ (bX11_apartFrom_0 _ hT ?_)
  have key := zfor (c := s.1) (P := fun j => Zi mX11_apartFrom (d + 1) 4 [some (.ref 174), some (.int (nI i)), some (.int (nI (mk (apb s.2.2.2.2 i) j))), some (.int (nI j))] [] iv rv lv (zP (nI (mk (apb s.2.2.2.2 i) s.1)) iv rv lv)) ?_ ?_
  · exact key 0 (by omega)
  · refine bX11_apartFrom_4 _ _ _ hT ⟨fun _ => zP.mk rfl, fun z => absurd (by rw [n1]; exact nI_le (by omega) (by omega)) z⟩
  · intro j hj ih
    refine bX11_apartFrom_4 _ _ _ hT ⟨fun z => ?_, fun _ => ?_⟩
    · rw [n1] at z
      exact absurd z (nI_ge hj (by omega))
    · have no : apb s.2.2.2.2 i j = false → Zi mX11_apartFrom (d + 1) 4 [some (.ref 174), some (.int (nI i)), some (.int (nI (mk (apb s.2.2.2.2 i) j) ||| (0 : Int32))), some (.int (nI j + 1))] [] iv rv lv (zP (nI (mk (apb s.2.2.2.2 i) s.1)) iv rv lv) := fun q => by
        rw [z_0, bI_or, nI_1]
        simp only [mk, q] at ih
        exact ih
      rw [nI_eq (by omega) (by omega)]
      refine ⟨fun e => no (e ▸ apb_self vs.2.2.2.2.1 _), fun e => zcallQ (y_pairOf hT (Or.inl rfl) ms.plr vs.2.2.2.2.2 vs.ends (by omega) (by omega)) ?_⟩
      rintro z _ _ _ ⟨hz, rfl, rfl, rfl⟩
      refine ⟨hT, ?_⟩
      rcases hz with ⟨ha, p, hp, rfl, he⟩ | ⟨ha, rfl⟩
      · have np : ¬ nI p = -1 := fun q => by
          have : nI p < 0 := by rw [q]; decide
          exact absurd this (nI_pos (by have := vs.2.2.2.2.2; omega))
        refine ⟨fun q => absurd q np, fun _ => ?_⟩
        rw [bI_1shl (by omega), bI_or, nI_1]
        simp only [mk, ha, if_true] at ih
        exact ih
      · exact ⟨fun _ => no ha, fun q => absurd rfl q⟩
theorem y_number {d : Nat} {S : St} {x w : Int32} {iv : zI} {rv : zR} {lv : zJ} (hT : zTop rv) (h : MB S iv) (hv : VT S) : Ci mX11_number (d + 9) [.ref 174, .int x, .int w] iv rv lv (YR (F_number S x w).2 (F_number S x w).1 iv rv lv) := by
  refine eX11_number x w (bX11_number_0 x w hT ?_)
  intro w0 e0
  have h0 : MB S w0 := e0 ▸ h.th
  have f0 : FM iv w0 := e0 ▸ FM.th
  unfold F_number
  rcases nOf_cases S x hv with ⟨hn, hx⟩ | ⟨s, i, hn, es, hi, rfl⟩
  · rw [hn]
    exact zcall (y_isN0 hT h0 hv hx) hT ⟨fun _ => zcall (y_refused hT) hT (YR.tr' rfl h0 f0), fun q => absurd rfl q⟩
  · rw [hn]
    have ms := h0.2.1.2 s es
    have vs := hv.2.1 s es
    have vn := vs.1
    have vk := vs.2.2.2.1 i hi
    have n1 : w0 176 0 = nI s.1 := ms.1
    refine zcall (y_isN1 hT h0 hv es hi) hT ⟨fun q => absurd (show (1 : Int32) = 0 from q) (by decide), fun _ => zcall (y_in hT) hT ?_⟩
    simp only
    by_cases hw : w < 0 ∨ 3 < w
    · rw [in_f hw]
      have a0 : ¬ w = 0 := fun e => by subst e; exact absurd hw (by decide)
      have a1 : ¬ w = 1 := fun e => by subst e; exact absurd hw (by decide)
      have a2 : ¬ w = 2 := fun e => by subst e; exact absurd hw (by decide)
      have a3 : ¬ w = 3 := fun e => by subst e; exact absurd hw (by decide)
      simp only [a0, a1, a2, a3, if_false]
      exact ⟨fun q => absurd rfl q, fun _ => zcall (y_refused hT) hT (YR.tr' rfl h0 f0)⟩
    · rw [in_t (fun q => hw (Or.inl q)) (fun q => hw (Or.inr q))]
      refine ⟨fun _ => ⟨fun q => ?_, fun q => ?_, fun q => ?_, fun q0 q1 q2 => ?_⟩, fun q => absurd (show (1 : Int32) = 0 from q) (by decide)⟩
      · subst q
        exact zcall (y_value hT ms.vals vn.2 hi) hT (zcall (y_good hT) hT (YR.tr' rfl h0 f0))
      · subst q
        exact zcall (y_rank hT n1 vn.2 ms.vals vs.vb hi) hT (zcall (y_good hT) hT (YR.tr' rfl h0 f0))
      · subst q
        rw [z_12, nI_add, nI_clamp (show 12 + i < 2 ^ 31 by omega), ms.keeps i hi]
        have e := kp_ans vk
        exact ⟨vp_in_nI (by omega) (by decide), fun q => zcall (y_good hT) hT (YR.tr' (e.1 q) h0 f0), fun q => zcall (y_good hT) hT (YR.tr' (e.2 q) h0 f0)⟩
      · have q3 : w = 3 := by
          have h1 := Int32.not_lt.mp (fun q => hw (Or.inl q))
          have h2 := Int32.not_lt.mp (fun q => hw (Or.inr q))
          rcases pk_ix w (show 4 < 2 ^ 31 by omega) with q | q | ⟨j, hj, rfl⟩
          · exact absurd q (fun z => hw (Or.inl z))
          · exact absurd (Int32.le_trans q h2) (by decide)
          · rcases (by omega : j = 0 ∨ j = 1 ∨ j = 2 ∨ j = 3) with rfl | rfl | rfl | rfl
            · exact absurd rfl q0
            · exact absurd rfl q1
            · exact absurd rfl q2
            · rfl
        subst q3
        exact zcall (y_apartFrom hT ms vs hi) hT (zcall (y_good hT) hT (YR.tr' rfl h0 f0))
theorem pl_map {i k : Nat} {l : List (Nat × Nat)} (hk : k < 2 * l.length) : pl (l.map (fun p => (dec i p.1, dec i p.2))) k = dec i (pl l k) := by
  unfold pl
  simp only [List.getD_eq_getElem?_getD, List.getElem?_map]
  rw [List.getElem?_eq_getElem (by omega)]
  split <;> rfl
theorem nI_dn (p : Nat) : nI p + -1 = nI p - 1 := by rw [Int32.sub_eq_add_neg]
theorem pl_app {l r : List (Nat × Nat)} {k : Nat} (hk : k < 2 * l.length) : pl (l ++ r) k = pl l k := by
  unfold pl
  simp only [List.getD_eq_getElem?_getD]
  rw [List.getElem?_append_left (by omega)]
/-- pairs of i go, from the last on -/
theorem y_drop121 {d i : Nat} {ap : List (Nat × Nat)} {x2 : Int32} {w0 : zI} {rv : zR} {lv : zJ} {Q : Int32 → zI → zR → zJ → Prop} (hT : zTop rv) (hi : i < 10) (hl : ap.length ≤ 6) (hb : ∀ p ∈ ap, p.1 < 10 ∧ p.2 < 10)
    (hQ : ∀ w : zI, PL 176 w (ap.filter (fun p => !(p.1 == i) && !(p.2 == i))) → (∀ k, k < 22 → w 176 k = w0 176 k) → (∀ q, q ≠ 176 → w q = w0 q) → Zi mX11_drop (d + 1) 170 [some (.ref 174), some (.int (nI i)), some (.int x2), some (.int 0)] [] w rv lv Q) :
    ∀ p, p ≤ ap.length → ∀ w : zI, PL 176 w (ap.take p ++ (ap.drop p).filter (fun p => !(p.1 == i) && !(p.2 == i))) → (∀ k, k < 22 → w 176 k = w0 176 k) → (∀ q, q ≠ 176 → w q = w0 q) → Zi mX11_drop (d + 1) 121 [some (.ref 174), some (.int (nI i)), some (.int x2), some (.int (nI p - 1))] [] w rv lv Q
  | 0, _, w, g1, g2, g3 => by
    refine bX11_drop_121 _ _ _ hT ⟨fun _ => hQ w ?_ g2 g3, fun z => absurd (by decide) z⟩
    simpa using g1
  | p + 1, hp, w, g1, g2, g3 => by
    have g := hb _ (getD_mem (show p < ap.length by omega))
    have e1 : ap.drop p = ap.getD p (0, 0) :: ap.drop (p + 1) := by
      rw [List.drop_eq_getElem_cons (by omega), List.getD_eq_getElem?_getD, List.getElem?_eq_getElem (by omega)]
      rfl
    have e2 : ap.take (p + 1) = ap.take p ++ [ap.getD p (0, 0)] := by
      rw [List.take_add_one, List.getD_eq_getElem?_getD, List.getElem?_eq_getElem (by omega)]
      rfl
    have lt : (ap.take p).length = p := by rw [List.length_take]; omega
    have lf : ((ap.drop (p + 1)).filter (fun p => !(p.1 == i) && !(p.2 == i))).length ≤ ap.length - (p + 1) := by
      have := List.length_filter_le (fun p : Nat × Nat => !(p.1 == i) && !(p.2 == i)) (ap.drop (p + 1))
      rw [List.length_drop] at this
      exact this
    generalize hR : (ap.drop (p + 1)).filter (fun p => !(p.1 == i) && !(p.2 == i)) = R at *
    have len : (ap.take (p + 1) ++ R).length ≤ 6 := by
      rw [List.length_append, List.length_take]
      omega
    have len2 : p < (ap.take (p + 1) ++ R).length := by
      rw [List.length_append, List.length_take]
      omega
    have ix : (ap.take (p + 1) ++ R).getD p (0, 0) = ap.getD p (0, 0) := by
      rw [e2, List.append_assoc, List.getD_eq_getElem?_getD, List.getElem?_append_right (by omega), lt, Nat.sub_self]
      rfl
    have er : (ap.take (p + 1) ++ R).eraseIdx p = ap.take p ++ R := by
      rw [e2, List.append_assoc, List.eraseIdx_append_of_length_le (by omega), lt, Nat.sub_self]
      rfl
    have a1 := g1.2 (2 * p) (by omega)
    have a2 := g1.2 (2 * p + 1) (by omega)
    rw [pl_0, ix] at a1
    rw [pl_1, ix, ← Nat.add_assoc] at a2
    rw [nI_pred]
    refine bX11_drop_121 _ _ _ hT ⟨fun z => absurd z (nI_pos (by omega)), fun _ => ?_⟩
    rw [z_2, pk_mul, z_23, nI_add, nI_1, nI_clamp (show 23 + 2 * p < 2 ^ 31 by omega), nI_clamp (show 23 + 2 * p + 1 < 2 ^ 31 by omega), a1, a2, nI_dn]
    have go : ((ap.getD p (0, 0)).1 = i ∨ (ap.getD p (0, 0)).2 = i) → ∃ Q2 : zI → zR → zJ → Prop, Cv mX11_parts d [.ref 174, .int (nI p)] w rv lv Q2 ∧ ∀ (iv3 : zI) (rv4 : zR) (lv5 : zJ), Q2 iv3 rv4 lv5 → zTop rv4 ∧ (Zi mX11_drop (d + 1) 121 [some (.ref 174), some (.int (nI i)), some (.int x2), some (.int (nI p - 1))] [] iv3 rv4 lv5 Q) := fun c => zcallV (y_parts hT g1 len len2) (by
      rintro w1 _ _ ⟨rfl, rfl, b1, b2, b3⟩
      refine ⟨hT, y_drop121 hT hi hl hb hQ p (by omega) w1 ?_ (fun k hk => by rw [b2 k hk]; exact g2 k hk) (fun q hq => by rw [b3 q hq]; exact g3 q hq)⟩
      rw [er] at b1
      rw [e1, List.filter_cons, hR]
      have : (!((ap.getD p (0, 0)).1 == i) && !((ap.getD p (0, 0)).2 == i)) = false := by
        rcases c with c | c
        · rw [beq_iff_eq.mpr c]
          rfl
        · rw [beq_iff_eq.mpr c, Bool.not_true, Bool.and_false]
      rw [this]
      exact b1)
    refine ⟨vp_in_nI (by omega) (by decide), ?_⟩
    rw [nI_eq (by omega) (by omega), nI_eq (by omega) (by omega)]
    refine ⟨fun c => go (Or.inl c), fun c1 => ⟨vp_in_nI (by omega) (by decide), fun c2 => ?_, fun c => go (Or.inr c)⟩⟩
    refine y_drop121 hT hi hl hb hQ p (by omega) w ?_ g2 g3
    rw [e1, List.filter_cons, hR]
    have : (!((ap.getD p (0, 0)).1 == i) && !((ap.getD p (0, 0)).2 == i)) = true := by rw [beq_eq_false_iff_ne.mpr c1, beq_eq_false_iff_ne.mpr c2]; rfl
    rw [this, if_pos rfl]
    rw [e2, List.append_assoc] at g1
    exact g1
theorem dec_nI {i a : Nat} (ha : a < 10) (hi : i < 10) : (nI a ≤ nI i → nI a - 0 = nI (dec i a)) ∧ (¬ nI a ≤ nI i → nI a - 1 = nI (dec i a)) := by
  rw [nI_leI (by omega) (by omega)]
  unfold dec
  refine ⟨fun q => ?_, fun q => ?_⟩
  · rw [if_neg (by omega), z_0, pk_sub (by omega)]
    rfl
  · rw [if_pos (by omega), z_1, pk_sub (by omega)]
theorem y_drop170 {d i : Nat} {l : List (Nat × Nat)} {x2 : Int32} {w0 : zI} {rv : zR} {lv : zJ} {Q : Int32 → zI → zR → zJ → Prop} (hT : zTop rv) (hi : i < 10) (hl : l.length ≤ 6) (hb : ∀ p ∈ l, p.1 < 10 ∧ p.2 < 10) (h0 : PL 176 w0 l)
    (hQ : ∀ w : zI, PL 176 w (l.map (fun p => (dec i p.1, dec i p.2))) → (∀ k, k < 22 → w 176 k = w0 176 k) → (∀ q, q ≠ 176 → w q = w0 q) → ∃ Q1 : Int32 → zI → zR → zJ → Prop, Ci mX11_good d [.ref 174, .int x2] w rv lv Q1 ∧ ∀ (v6 : Int32) (iv2 : zI) (rv3 : zR) (lv4 : zJ), Q1 v6 iv2 rv3 lv4 → zTop rv3 ∧ (Q v6 iv2 rv3 lv4)) :
    Zi mX11_drop (d + 1) 170 [some (.ref 174), some (.int (nI i)), some (.int x2), some (.int 0)] [] w0 rv lv Q := by
  have plb : ∀ k, k < 2 * l.length → pl l k < 10 := fun k hk => by
    have := hb _ (getD_mem (show k / 2 < l.length by omega))
    unfold pl
    split <;> omega
  have key := zfor (c := 2 * l.length) (P := fun k => ∀ w : zI, (∀ q, q < k → w 176 (23 + q) = nI (dec i (pl l q))) → (∀ q, k ≤ q → q < 2 * l.length → w 176 (23 + q) = nI (pl l q)) → (∀ q, q < 23 → w 176 q = w0 176 q) → (∀ q, q ≠ 176 → w q = w0 q) → Zi mX11_drop (d + 1) 170 [some (.ref 174), some (.int (nI i)), some (.int x2), some (.int (nI k))] [] w rv lv Q) ?_ ?_
  · exact key 0 (by omega) w0 (fun q hq => absurd hq (Nat.not_lt_zero _)) (fun q _ hq => h0.2 q hq) (fun _ _ => rfl) (fun _ _ => rfl)
  · intro w g1 g2 g3 g4
    have c22 : w 176 22 = nI l.length := by rw [g3 22 (by omega)]; exact h0.1
    refine bX11_drop_170 _ _ _ hT ⟨fun _ => hQ w ⟨by rw [List.length_map]; exact c22, fun k hk => ?_⟩ (fun k hk => g3 k (by omega)) g4, fun z => ?_⟩
    · rw [List.length_map] at hk
      rw [g1 k hk, pl_map hk]
    · rw [c22, z_2, pk_mul] at z
      exact absurd (nI_le (by omega) (by omega)) z
  · intro k hk ih w g1 g2 g3 g4
    have c22 : w 176 22 = nI l.length := by rw [g3 22 (by omega)]; exact h0.1
    refine bX11_drop_170 _ _ _ hT ⟨fun z => ?_, fun _ => ?_⟩
    · rw [c22, z_2, pk_mul] at z
      exact absurd z (nI_ge hk (by omega))
    · rw [z_23, nI_add, nI_clamp (show 23 + k < 2 ^ 31 by omega), g2 k (by omega) hk, nI_1]
      have dn := dec_nI (plb k hk) hi
      have nx : ∀ w1 : zI, w1 = zu w 176 (23 + k) (nI (dec i (pl l k))) → Zi mX11_drop (d + 1) 170 [some (.ref 174), some (.int (nI i)), some (.int x2), some (.int (nI (k + 1)))] [] w1 rv lv Q := fun w1 e1 => by
        subst e1
        refine ih _ (fun q hq => ?_) (fun q q1 q2 => ?_) (fun q hq => ?_) (fun q hq => by rw [zu_row hq]; exact g4 q hq)
        · by_cases e : q = k
          · rw [e, zu_eq]
          · rw [zu_k (by omega)]; exact g1 q (by omega)
        · rw [zu_k (by omega)]; exact g2 q (by omega) q2
        · rw [zu_k (by omega)]; exact g3 q hq
      refine ⟨vp_in_nI (by omega) (by decide), fun q w1 e1 => ?_, fun q w1 e1 => ?_⟩
      · rw [dn.1 q] at e1
        exact nx w1 e1
      · rw [dn.2 q] at e1
        exact nx w1 e1
theorem y_drop {d : Nat} {S : St} {x : Int32} {iv : zI} {rv : zR} {lv : zJ} (hT : zTop rv) (h : MB S iv) (hv : VT S) : Ci mX11_drop (d + 9) [.ref 174, .int x] iv rv lv (YR (F_drop S x).2 (F_drop S x).1 iv rv lv) := by
  refine eX11_drop x (bX11_drop_0 x hT ?_)
  intro w0 e0
  have h0 : MB S w0 := e0 ▸ h.th
  have f0 : FM iv w0 := e0 ▸ FM.th
  unfold F_drop
  rcases nOf_cases S x hv with ⟨hn, hx⟩ | ⟨s, i, hn, es, hi, rfl⟩
  · rw [hn]
    exact zcall (y_isN0 hT h0 hv hx) hT ⟨fun q => absurd rfl q, fun _ => zcall (y_refused hT) hT (YR.tr' rfl h0 f0)⟩
  · rw [hn]
    have ms := h0.2.1.2 s es
    have vs := hv.2.1 s es
    have vn := vs.1
    have vl := vs.2.2.2.2.2
    have n1 : w0 176 0 = nI s.1 := ms.1
    have n2 : w0 176 1 = nI s.2.1 := ms.2.1
    refine zcall (y_isN1 hT h0 hv es hi) hT ⟨fun _ => ?_, fun q => absurd (show (1 : Int32) = 0 from q) (by decide)⟩
    rw [n1, z_1, nI_eq (by omega) (by omega)]
    simp only
    by_cases o : s.1 = 1
    · simp only [o, if_true]
      exact ⟨fun q => absurd trivial q, fun _ => zcall (y_refused hT) hT (YR.tr' rfl h0 f0)⟩
    · simp only [o, if_false]
      refine ⟨fun _ => zcallV (y_remembers hT h0.hm hv.2.2.1.1 vs hv.2.2.1.2 ms) ?_, fun q => absurd q (by simp)⟩
      rintro w rv1 lv1 ⟨er, el, m1, m2, m3⟩
      have er := er.symm
      have el := el.symm
      subst er el
      have r176 : w 176 = w0 176 := m3 176 (by omega) (by omega)
      refine ⟨hT, zcall (y_value (v := s.2.2.1) (n := s.1) hT (fun i hi => by rw [r176]; exact ms.vals i hi) vn.2 hi) hT ?_⟩
      intro w1 e1
      rw [r176, n1, pk_sub (by omega)] at e1
      have c0 : w1 176 0 = nI (s.1 - 1) := by rw [e1, zu_eq]
      have key := zfor (c := s.1 - 1) (P := fun j => i ≤ j → ∀ u : zI, (∀ t, t < j → u 176 (2 + t) = nI (s.2.2.1 (inc i t))) → (∀ t, j ≤ t → t < s.1 → u 176 (2 + t) = nI (s.2.2.1 t)) → (∀ t, t < j → u 176 (12 + t) = nI (s.2.2.2.1 (inc i t))) → (∀ t, j ≤ t → t < s.1 → u 176 (12 + t) = nI (s.2.2.2.1 t)) → (∀ k, k < 2 ∨ 22 ≤ k → u 176 k = w1 176 k) → (∀ a, a ≠ 176 → u a = w a) → Zi mX11_drop (d + 9) 57 [some (.ref 174), some (.int (nI i)), some (.int (nI (s.2.2.1 i))), some (.int (nI j))] [] u rv lv (YR (sA S s (dropS s i)) (nI (s.2.2.1 i)) iv rv lv)) ?_ ?_
      · refine key i (by omega) (Nat.le_refl _) w1 (fun t ht => ?_) (fun t _ ht => ?_) (fun t ht => ?_) (fun t _ ht => ?_) (fun _ _ => rfl) (fun a ha => by rw [e1, zu_row ha])
        · rw [e1, zu_k (by omega), r176, ms.vals t (by omega)]
          unfold inc
          rw [if_pos ht]
        · rw [e1, zu_k (by omega), r176, ms.vals t (by omega)]
        · rw [e1, zu_k (by omega), r176, ms.keeps t (by omega)]
          unfold inc
          rw [if_pos ht]
        · rw [e1, zu_k (by omega), r176, ms.keeps t (by omega)]
      · intro hij u g1 g2 g3 g4 g5 g6
        have u0 : u 176 0 = nI (s.1 - 1) := by rw [g5 0 (by omega)]; exact c0
        have u22 : u 176 22 = nI s.2.2.2.2.length := by rw [g5 22 (by omega), e1, zu_k (by omega), r176]; exact ms.plr.1
        refine bX11_drop_57 _ _ _ hT ⟨fun _ => ?_, fun z => absurd (by rw [u0]; exact nI_le (by omega) (by omega)) z⟩
        rw [u22]
        refine y_drop121 (i := i) (w0 := u) hT (by omega) vl vs.ends ?_ s.2.2.2.2.length (Nat.le_refl _) u ?_ (fun _ _ => rfl) (fun _ _ => rfl)
        · intro u1 b1 b2 b3
          have lf : (s.2.2.2.2.filter (fun p => !(p.1 == i) && !(p.2 == i))).length ≤ 6 := Nat.le_trans (List.length_filter_le _ _) vl
          refine y_drop170 (i := i) (l := s.2.2.2.2.filter (fun p => !(p.1 == i) && !(p.2 == i))) hT (by omega) lf (fun p hp => vs.ends p (List.mem_filter.mp hp).1) b1 ?_
          intro u2 t1 t2 t3
          refine zcall (y_good hT) hT (YR.act rfl h0 f0 ?_ (fun b hb => ?_) (fun a a1 a2 a3 _ => ?_) ?_ es)
          · unfold HM MS at m1 ⊢
            rw [t3 174 (by omega), t3 178 (by omega), b3 174 (by omega), b3 178 (by omega), g6 174 (by omega), g6 178 (by omega)]
            exact m1
          · rw [t3 174 (by omega), b3 174 (by omega), g6 174 (by omega)]; exact m2 b hb
          · rw [t3 a a3, b3 a a3, g6 a a3]; exact m3 a a1 a2
          · refine PL.ms (s := dropS s i) t1 ?_ ?_ (fun t ht => ?_) (fun t ht => ?_)
            · rw [t2 0 (by omega), b2 0 (by omega)]; exact u0
            · rw [t2 1 (by omega), b2 1 (by omega), g5 1 (by omega), e1, zu_k (by omega), r176]; exact n2
            · have ht : t < s.1 - 1 := ht
              rw [t2 _ (by omega), b2 _ (by omega)]; exact g1 t ht
            · have ht : t < s.1 - 1 := ht
              rw [t2 _ (by omega), b2 _ (by omega)]; exact g3 t ht
        · rw [List.take_length, List.drop_length]
          simp only [List.filter_nil, List.append_nil]
          refine ⟨u22, fun k hk => ?_⟩
          rw [g5 _ (by omega), e1, zu_k (by omega), r176]
          exact ms.plr.2 k hk
      · intro j hj ih hij u g1 g2 g3 g4 g5 g6
        have u0 : u 176 0 = nI (s.1 - 1) := by rw [g5 0 (by omega)]; exact c0
        have ii : inc i j = j + 1 := by unfold inc; rw [if_neg (by omega)]
        refine bX11_drop_57 _ _ _ hT ⟨fun z => ?_, fun _ => ?_⟩
        · rw [u0] at z
          exact absurd z (nI_ge hj (by omega))
        · rw [z_2, nI_add, nI_1, nI_1, nI_clamp (show 2 + j < 2 ^ 31 by omega), nI_clamp (show 2 + j + 1 < 2 ^ 31 by omega), z_12, nI_add, nI_1, nI_clamp (show 12 + j < 2 ^ 31 by omega), nI_clamp (show 12 + j + 1 < 2 ^ 31 by omega)]
          refine ⟨vp_in_nI (by omega) (by decide), vp_in_nI (by omega) (by decide), fun u1 e2 => ⟨vp_in_nI (by omega) (by decide), vp_in_nI (by omega) (by decide), fun u2 e3 => ?_⟩⟩
          rw [Nat.add_assoc, g2 (j + 1) (by omega) (by omega)] at e2
          have x1 : u1 176 (12 + j + 1) = nI (s.2.2.2.1 (j + 1)) := by rw [e2, zu_k (by omega), Nat.add_assoc]; exact g4 (j + 1) (by omega) (by omega)
          rw [x1] at e3
          have bs : ∀ k, k ≠ 2 + j → k ≠ 12 + j → u2 176 k = u 176 k := fun k k1 k2 => by rw [e3, zu_k k2, e2, zu_k k1]
          refine ih (by omega) u2 (fun t ht => ?_) (fun t t1 t2 => ?_) (fun t ht => ?_) (fun t t1 t2 => ?_) (fun k hk => ?_) (fun a ha => by rw [e3, zu_row ha, e2, zu_row ha]; exact g6 a ha)
          · by_cases c : t = j
            · rw [c, ii, e3, zu_k (by omega), e2, zu_eq]
            · rw [bs _ (by omega) (by omega)]; exact g1 t (by omega)
          · rw [bs _ (by omega) (by omega)]; exact g2 t (by omega) t2
          · by_cases c : t = j
            · rw [c, ii, e3, zu_eq]
            · rw [bs _ (by omega) (by omega)]; exact g3 t (by omega)
          · rw [bs _ (by omega) (by omega)]; exact g4 t (by omega) t2
          · rw [bs _ (by omega) (by omega)]; exact g5 k hk
