/-! THE REFERENCE: reading. -/
def TM (w : zI) (l : zJ) (tp : Nat → Nat) (n : Nat) (st : PS) : Prop := RTm w tp n ∧ w 174 7 = nI 0 ∧ TKm w l tp st.1 ∧ w 174 20 = bI st.2.1 ∧ MS w 177 0 st.2.2 ∧ ∀ i, st.2.2.1 ≤ i → i < 10 → w 177 (12 + i) = nI 0
def FX (iv a : zI) : Prop := (∀ p, p ≠ 174 → p ≠ 177 → a p = iv p) ∧ ∀ b, (b < 6 ∨ 12 < b) → b ≠ 20 → a 174 b = iv 174 b
theorem FX.refl {iv : zI} : FX iv iv := ⟨fun _ _ _ => rfl, fun _ _ _ => rfl⟩
theorem FX.trans {iv a b : zI} (h : FX iv a) (g : FX a b) : FX iv b := ⟨fun p p1 p2 => by rw [g.1 p p1 p2]; exact h.1 p p1 p2, fun q q1 q2 => by rw [g.2 q q1 q2]; exact h.2 q q1 q2⟩
theorem FZm.fx {iv a : zI} (h : FZm iv a) : FX iv a := ⟨fun p p1 _ => h.1 p p1, fun b b1 b2 => h.2 b (by omega) (by omega) (by omega) (by omega) (by omega)⟩
def RMA (iv : zI) (rv : zR) (lv : zJ) (tp : Nat → Nat) (n : Nat) (r : PR) : zI → zR → zJ → Prop := fun a b c => b = rv ∧ (r.1 ≠ 0 → a 174 7 = nI r.1 ∧ a 174 8 = nI r.2.1.2.1) ∧ (r.1 = 0 → TM a c tp n r.2) ∧ FX iv a ∧ ∀ p, p ≠ 174 → c p = lv p
theorem RMA.tr {iv w : zI} {rv : zR} {lv l : zJ} {tp : Nat → Nat} {n : Nat} {r : PR} {a : zI} {b : zR} {c : zJ} (h : RMA w rv l tp n r a b c) (hF : FX iv w) (hl : ∀ p, p ≠ 174 → l p = lv p) : RMA iv rv lv tp n r a b c := ⟨h.1, h.2.1, h.2.2.1, hF.trans h.2.2.2.1, fun p hp => by rw [h.2.2.2.2 p hp]; exact hl p hp⟩
theorem y_nx {tp : Nat → Nat} {n d : Nat} {st : PS} {iv : zI} {rv : zR} {lv : zJ} (hT : zTop rv) (hx : TX tp n) (hS : TM iv lv tp n st) (hP : PO n st) : Cv mX11_goOn (d + 2) [.ref 174] iv rv lv (fun a b c => b = rv ∧ TM a c tp n (nx tp n st) ∧ FX iv a ∧ ∀ p, p ≠ 174 → c p = lv p) := by
  obtain ⟨s1, s2, s3, s4, s5, s6⟩ := hS
  refine Cv.mono (y_goOn (d := d) hT hx s1 s3.2.2.1 s2 hP.2.1) ?_
  rintro a b c ⟨g1, g2, g3, g4⟩
  refine ⟨g1, ⟨g3.rt s1, ?_, g2, ?_, ?_, fun i i1 i2 => ?_⟩, g3.fx, g4⟩
  · rw [g3.2 7 (by decide) (by decide) (by decide) (by decide) (by decide)]; exact s2
  · rw [g3.2 20 (by decide) (by decide) (by decide) (by decide) (by decide)]; exact s4
  · unfold MS
    rw [g3.1 177 (by decide)]
    exact s5
  · rw [g3.1 177 (by decide)]; exact s6 i i1 i2
/-- a fault was found -/
def FD5 (w : zI) (f s : Nat) : Prop := 0 < f ∧ f ≤ 5 ∧ w 174 7 = nI f ∧ w 174 8 = nI s
theorem y_goOnF {d f s : Nat} {iv : zI} {rv : zR} {lv : zJ} (hT : zTop rv) (h : FD5 iv f s) : Cv mX11_goOn (d + 1) [.ref 174] iv rv lv (zV iv rv lv) := by
  obtain ⟨h1, h2, h3, h4⟩ := h
  refine eX11_goOn (bX11_goOn_0 hT ?_)
  rw [h3, z_0, nI_leI (by omega) (by omega)]
  exact ⟨fun z => absurd z (by omega), fun _ => ⟨rfl, rfl, rfl⟩⟩
theorem y_flawF {d f s : Nat} {x : Int32} {iv : zI} {rv : zR} {lv : zJ} (hT : zTop rv) (h : FD5 iv f s) : Cv mX11_flaw d [.ref 174, .int x] iv rv lv (zV iv rv lv) := by
  obtain ⟨h1, h2, h3, h4⟩ := h
  refine eX11_flaw _ (bX11_flaw_0 _ hT ?_)
  rw [h3, z_0, nI_leI (by omega) (by omega)]
  exact ⟨fun z => absurd z (by omega), fun _ => ⟨rfl, rfl, rfl⟩⟩
theorem y_flaw {tp : Nat → Nat} {n d f : Nat} {st : PS} {iv : zI} {rv : zR} {lv : zJ} (hT : zTop rv) (hS : TM iv lv tp n st) (hf : 0 < f ∧ f ≤ 5) : Cv mX11_flaw d [.ref 174, .int (nI f)] iv rv lv (fun a b c => b = rv ∧ c = lv ∧ FD5 a f st.1.2.1 ∧ FX iv a ∧ ∀ p, p ≠ 174 → a p = iv p) := by
  obtain ⟨s1, s2, s3, s4, s5, s6⟩ := hS
  refine eX11_flaw _ (bX11_flaw_0 _ hT ?_)
  rw [s2]
  refine ⟨fun _ u eu v ev => ?_, fun z => absurd (by decide) z⟩
  rw [eu, zu_k (by decide), s3.2.1] at ev
  exact ⟨rfl, rfl, ⟨hf.1, hf.2, by rw [ev, zu_k (by decide), zu_eq], by rw [ev, zu_eq]⟩, ⟨fun p p1 _ => by rw [ev, zu_row p1, zu_row p1], fun b b1 b2 => by rw [ev, zu_k (by omega), zu_k (by omega)]⟩, fun p p1 => by rw [ev, zu_row p1, zu_row p1]⟩
theorem y_wholeF {d f s : Nat} {x1 x2 : Int32} {iv : zI} {rv : zR} {lv : zJ} (hT : zTop rv) (h : FD5 iv f s) : Ci mX11_whole (d + 2) [.ref 174, .int x1, .int x2] iv rv lv (fun y a b c => a = iv ∧ b = rv ∧ c = lv) := by
  refine eX11_whole _ _ (bX11_whole_0 _ _ hT ⟨fun _ => zcall (y_in hT) hT ⟨fun _ => zcallE (y_goOnF hT h) hT ⟨rfl, rfl, rfl⟩, fun _ => zcallE (y_flawF hT h) hT (zcallE (y_goOnF hT h) hT ⟨rfl, rfl, rfl⟩)⟩, fun _ => zcallE (y_flawF hT h) hT (zcallE (y_goOnF hT h) hT ⟨rfl, rfl, rfl⟩)⟩)
theorem kmap_3 {k : Nat} (hk : k ≤ 5) : (nI (kmap k) = 3) ↔ k = 2 := by
  have : k = 0 ∨ k = 1 ∨ k = 2 ∨ k = 3 ∨ k = 4 ∨ k = 5 := by omega
  rcases this with rfl | rfl | rfl | rfl | rfl | rfl <;> decide
theorem kmap_2 {k : Nat} (hk : k ≤ 5) : (nI (kmap k) = 2) ↔ k = 1 := by
  have : k = 0 ∨ k = 1 ∨ k = 2 ∨ k = 3 ∨ k = 4 ∨ k = 5 := by omega
  rcases this with rfl | rfl | rfl | rfl | rfl | rfl <;> decide
theorem kmap_4 {k : Nat} (hk : k ≤ 5) : (nI (kmap k) = 4) ↔ (k = 3 ∨ k = 4) := by
  have : k = 0 ∨ k = 1 ∨ k = 2 ∨ k = 3 ∨ k = 4 ∨ k = 5 := by omega
  rcases this with rfl | rfl | rfl | rfl | rfl | rfl <;> decide
theorem kmap_1 {k : Nat} (hk : k ≤ 5) : (nI (kmap k) = 1) ↔ k = 0 := by
  have : k = 0 ∨ k = 1 ∨ k = 2 ∨ k = 3 ∨ k = 4 ∨ k = 5 := by omega
  rcases this with rfl | rfl | rfl | rfl | rfl | rfl <;> decide
theorem y_whole {tp : Nat → Nat} {n d lo c0 : Nat} {x1 x2 : Int32} {st : PS} {iv : zI} {rv : zR} {lv : zJ} (hT : zTop rv) (hx : TX tp n) (hS : TM iv lv tp n st) (hP : PO n st) (h1 : x1 = nI lo) (hl : lo ≤ 9999) (h2 : ∀ v, v ≤ 9999 → (nI v ≤ x2 ↔ v < c0)) :
    Ci mX11_whole (d + 3) [.ref 174, .int x1, .int x2] iv rv lv (fun y a b c => b = rv ∧ (wW st lo c0 = 0 → y = nI st.1.2.2.2 ∧ TM a c tp n (nx tp n st)) ∧ (wW st lo c0 ≠ 0 → FD5 a (wW st lo c0) st.1.2.1) ∧ FX iv a ∧ ∀ p, p ≠ 174 → c p = lv p) := by
  have v9 := hP.2.2.2.1
  have k5 := hP.2.2.1
  have bad : ∀ f : Nat, 0 < f → f ≤ 5 → wW st lo c0 = f → ∃ Q : zI → zR → zJ → Prop, Cv mX11_flaw (d + 2) [.ref 174, .int (nI f)] iv rv lv Q ∧ ∀ (a : zI) (b : zR) (c : zJ), Q a b c → zTop b ∧ ∃ Q2 : zI → zR → zJ → Prop, Cv mX11_goOn (d + 2) [.ref 174] a b c Q2 ∧ ∀ (a2 : zI) (b2 : zR) (c2 : zJ), Q2 a2 b2 c2 → zTop b2 ∧ (b2 = rv ∧ (wW st lo c0 = 0 → a 174 12 = nI st.1.2.2.2 ∧ TM a2 c2 tp n (nx tp n st)) ∧ (wW st lo c0 ≠ 0 → FD5 a2 (wW st lo c0) st.1.2.1) ∧ FX iv a2 ∧ ∀ p, p ≠ 174 → c2 p = lv p) := by
    intro f f1 f2 e
    refine zcallV (y_flaw hT hS ⟨f1, f2⟩) ?_
    rintro a rv1 lv1 ⟨q1, q2, g1, g2, g3⟩
    have q1 := q1.symm
    have q2 := q2.symm
    subst q1 q2
    exact ⟨hT, zcallE (y_goOnF hT g1) hT ⟨rfl, fun z => absurd z (by omega), fun _ => by rw [e]; exact g1, g2, fun _ _ => rfl⟩⟩
  refine eX11_whole _ _ (bX11_whole_0 _ _ hT ?_)
  rw [hS.2.2.1.1, kmap_3 k5]
  refine ⟨fun k => zcall (y_in hT) hT ?_, fun k => bad 1 (by omega) (by omega) (by unfold wW; rw [if_neg k])⟩
  have t12 := hS.2.2.1.2.2.2.1 k
  have ed : decide (x1 ≤ iv 174 12 ∧ iv 174 12 ≤ x2) = decide (lo ≤ st.1.2.2.2 ∧ st.1.2.2.2 < c0) := decide_eq_decide.mpr (by rw [t12, h1, nI_leI (by omega) (by omega), h2 _ v9])
  rw [ed]
  by_cases z : lo ≤ st.1.2.2.2 ∧ st.1.2.2.2 < c0
  · have e : wW st lo c0 = 0 := by unfold wW; rw [if_pos k, if_neg (by omega)]
    rw [decide_eq_true z]
    refine ⟨fun _ => zcallV (y_nx (d := d) hT hx hS hP) ?_, fun z => absurd (show (1 : Int32) = 0 from z) (by decide)⟩
    rintro a b c ⟨g1, g2, g3, g4⟩
    exact ⟨g1 ▸ hT, g1, fun _ => ⟨t12, g2⟩, fun y => absurd e y, g3, g4⟩
  · rw [decide_eq_false z]
    exact ⟨fun z => absurd rfl z, fun _ => bad 2 (by omega) (by omega) (by unfold wW; rw [if_pos k, if_pos (by omega)])⟩
theorem y_isSign {tp : Nat → Nat} {n d x : Nat} {st : PS} {iv : zI} {rv : zR} {lv : zJ} (hT : zTop rv) (hS : TM iv lv tp n st) (hP : PO n st) (hx : x = 44 ∨ x = 59) : Ci mX11_isSign d [.ref 174, .int (nI x)] iv rv lv (zP (bI (st.1.1 == (if x = 44 then 4 else 3))) iv rv lv) := by
  have k5 := hP.2.2.1
  refine eX11_isSign _ (bX11_isSign_0 _ hT ?_)
  rw [hS.2.1, hS.2.2.1.1, kmap_4 k5]
  refine ⟨fun z => absurd rfl z, fun _ => ⟨fun k => zP.mk ?_, fun k => ?_⟩⟩
  · rw [beq_eq_false_iff_ne.mpr (by rcases hx with rfl | rfl <;> simp <;> omega)]; rfl
  · rcases k with k | k
    · rw [hS.2.2.1.2.2.2.2.2.1 k, k]
      rcases hx with rfl | rfl
      · exact ⟨fun _ => zP.mk rfl, fun z => absurd z (by decide)⟩
      · exact ⟨fun z => absurd rfl z, fun _ => zP.mk rfl⟩
    · rw [hS.2.2.1.2.2.2.2.2.2 k, k]
      rcases hx with rfl | rfl
      · exact ⟨fun z => absurd rfl z, fun _ => zP.mk rfl⟩
      · exact ⟨fun _ => zP.mk rfl, fun z => absurd z (by decide)⟩
theorem y_isSignF {d f s : Nat} {x : Int32} {iv : zI} {rv : zR} {lv : zJ} (hT : zTop rv) (h : FD5 iv f s) : Ci mX11_isSign d [.ref 174, .int x] iv rv lv (zP 0 iv rv lv) := by
  obtain ⟨h1, h2, h3, h4⟩ := h
  refine eX11_isSign _ (bX11_isSign_0 _ hT ?_)
  rw [h3, z_0, nI_eq (by omega) (by omega)]
  exact ⟨fun _ => zP.mk rfl, fun z => absurd z (by omega)⟩
/-- words by their numbers -/
def encW (w : List Nat) : Nat := encT (fun j => w.getD j 0) 0 w.length
theorem enc_inj {tp tq : Nat → Nat} {s q : Nat} : ∀ (m k : Nat), (∀ j, j < m → isL (tp (s + j)) = true) → (∀ j, j < k → isL (tq (q + j)) = true) → encT tp s m = encT tq q k → m = k ∧ ∀ j, j < m → tp (s + j) = tq (q + j)
  | 0, 0, _, _, _ => ⟨rfl, fun j hj => absurd hj (Nat.not_lt_zero _)⟩
  | 0, k + 1, _, h2, e => by
    have := of_decide_eq_true (h2 k (by omega))
    rw [encT, encT] at e
    omega
  | m + 1, 0, h1, _, e => by
    have := of_decide_eq_true (h1 m (by omega))
    rw [encT, encT] at e
    omega
  | m + 1, k + 1, h1, h2, e => by
    have a := of_decide_eq_true (h1 m (by omega))
    have b := of_decide_eq_true (h2 k (by omega))
    rw [encT, encT] at e
    obtain ⟨i1, i2⟩ := enc_inj (tp := tp) (tq := tq) (s := s) (q := q) m k (fun j hj => h1 j (by omega)) (fun j hj => h2 j (by omega)) (by omega)
    subst i1
    refine ⟨rfl, fun j hj => ?_⟩
    by_cases z : j = m
    · rw [z]; omega
    · exact i2 j (by omega)
theorem alB_iff {tp : Nat → Nat} {s : Nat} {w : List Nat} : ∀ m, alB tp s w m = true ↔ ∀ j, j < m → tp (s + j) = w.getD j 0
  | 0 => ⟨fun _ j hj => absurd hj (Nat.not_lt_zero _), fun _ => rfl⟩
  | m + 1 => by
    rw [alB, Bool.and_eq_true, alB_iff m, beq_iff_eq]
    constructor
    · rintro ⟨h1, h2⟩ j hj
      by_cases z : j = m
      · rw [z]; exact h2
      · exact h1 j (by omega)
    · intro h
      exact ⟨fun j hj => h j (by omega), h m (by omega)⟩
theorem wds_L : ∀ i, i < 5 → (wds i).length ≤ 6 ∧ ∀ j, j < (wds i).length → isL ((wds i).getD j 0) = true := by
  intro i hi
  have : i = 0 ∨ i = 1 ∨ i = 2 ∨ i = 3 ∨ i = 4 := by omega
  rcases this with rfl | rfl | rfl | rfl | rfl <;> decide
def YWd : Prop := ∀ {d i : Nat} {iv : zI} {rv : zR} {lv : zJ}, zTop rv → i < 5 → Cl mX11_wordOf (d + 10) [.ref (1000000 + i)] iv rv lv (fun y a b c => y = nL (encW (wds i)) ∧ a = iv ∧ b = rv ∧ c = lv)
/-- a word's letters -/
def TL (tp : Nat → Nat) (t : Tk) : Prop := t.1 = 1 → t.2.2.1 - t.2.1 ≤ 6 ∧ ∀ j, t.2.1 ≤ j → j < t.2.2.1 → isL (tp j) = true
theorem tkn_L {tp : Nat → Nat} {n a v : Nat} : TL tp (tkn tp n a v) := by
  unfold tkn
  generalize rr (fun j => tp j == 32) n a = s
  by_cases h : s < n
  · rw [if_pos h]
    by_cases hl : isL (tp s) = true
    · rw [if_pos hl]
      obtain ⟨e1, e2, e3, e4⟩ := rr_ok (p := fun j => isL (tp j)) (n := n) (n - s) s rfl
      intro z
      have z : (if rr (fun j => isL (tp j)) n s - s ≤ 6 then 1 else 5) = 1 := z
      refine ⟨?_, fun j j1 j2 => e3 j j1 j2⟩
      show rr (fun j => isL (tp j)) n s - s ≤ 6
      split at z
      · assumption
      · cases z
    · rw [if_neg hl]
      by_cases hd : isD (tp s) = true
      · rw [if_pos hd]
        intro z
        have z : (if rr (fun j => isD (tp j)) n s - s ≤ 4 then 2 else 5) = 1 := z
        split at z <;> cases z
      · rw [if_neg hd]
        intro z
        have z : (if tp s = 59 then 3 else if tp s = 44 then 4 else 5) = 1 := z
        split at z
        · cases z
        · split at z <;> cases z
  · rw [if_neg h]
    intro z
    cases z
theorem y_isWord {tp : Nat → Nat} {n d i : Nat} {st : PS} {iv : zI} {rv : zR} {lv : zJ} (hT : zTop rv) (hY : YWd) (hx : TX tp n) (hS : TM iv lv tp n st) (hP : PO n st) (hL : TL tp st.1) (hi : i < 5) : Ci mX11_isWord (d + 11) [.ref 174, .ref (1000000 + i)] iv rv lv (zP (bI (tw tp st.1 (wds i))) iv rv lv) := by
  have k5 := hP.2.2.1
  have hn := hx.1
  have sa := hP.1
  refine eX11_isWord _ (bX11_isWord_0 _ hT ?_)
  rw [hS.2.1, hS.2.2.1.1, kmap_2 k5]
  refine ⟨fun z => absurd rfl z, fun _ => ⟨fun k => zP.mk ?_, fun k => ⟨_, hY hT hi, ?_⟩⟩⟩
  · unfold tw
    rw [beq_eq_false_iff_ne.mpr k]; rfl
  · rintro v a b c ⟨rfl, rfl, rfl, rfl⟩
    refine ⟨hT, ?_⟩
    obtain ⟨l1, l2⟩ := hL k
    obtain ⟨w1, w2⟩ := wds_L i hi
    have b1 := encT_b (tp := tp) (s := st.1.2.1) (st.1.2.2.1 - st.1.2.1) (fun j hj => l2 _ (by omega) (by omega))
    have b2 := encT_b (tp := fun j => (wds i).getD j 0) (s := 0) (wds i).length (fun j hj => by rw [Nat.zero_add]; exact w2 j hj)
    have p1 : 32 ^ (st.1.2.2.1 - st.1.2.1) ≤ 32 ^ 6 := Nat.pow_le_pow_right (by omega) l1
    have p2 : 32 ^ (wds i).length ≤ 32 ^ 6 := Nat.pow_le_pow_right (by omega) w1
    have eb : encW (wds i) < 2 ^ 62 := by unfold encW; omega
    rw [lg0, hS.2.2.1.2.2.2.2.1 k, nL_e (by omega) eb]
    have iff : encT tp st.1.2.1 (st.1.2.2.1 - st.1.2.1) = encW (wds i) ↔ tw tp st.1 (wds i) = true := by
      unfold tw
      rw [beq_iff_eq.mpr k, Bool.true_and, Bool.and_eq_true, beq_iff_eq, alB_iff]
      constructor
      · intro e
        obtain ⟨i1, i2⟩ := enc_inj (tp := tp) (tq := fun j => (wds i).getD j 0) (s := st.1.2.1) (q := 0) _ _ (fun j hj => l2 _ (by omega) (by omega)) (fun j hj => by rw [Nat.zero_add]; exact w2 j hj) e
        refine ⟨i1, fun j hj => ?_⟩
        have := i2 j (by omega)
        rw [Nat.zero_add] at this
        exact this
      · rintro ⟨e1, e2⟩
        unfold encW
        rw [e1]
        have : ∀ m, m ≤ (wds i).length → encT tp st.1.2.1 m = encT (fun j => (wds i).getD j 0) 0 m := fun m => by
          induction m with
          | zero => exact fun _ => rfl
          | succ m ih =>
            intro hm
            rw [encT, encT, ih (by omega), e2 m (by omega), Nat.zero_add]
        exact this _ (Nat.le_refl _)
    rw [iff]
    cases t : tw tp st.1 (wds i) with
    | true => exact ⟨fun z => absurd rfl z, fun _ => zP.mk rfl⟩
    | false => exact ⟨fun _ => zP.mk rfl, fun z => by cases z⟩
theorem y_isWordF {d f s i : Nat} {iv : zI} {rv : zR} {lv : zJ} (hT : zTop rv) (h : FD5 iv f s) : Ci mX11_isWord (d + 1) [.ref 174, .ref i] iv rv lv (zP 0 iv rv lv) := by
  obtain ⟨h1, h2, h3, h4⟩ := h
  refine eX11_isWord _ (bX11_isWord_0 _ hT ?_)
  rw [h3, z_0, nI_eq (by omega) (by omega)]
  exact ⟨fun _ => zP.mk rfl, fun z => absurd z (by omega)⟩
