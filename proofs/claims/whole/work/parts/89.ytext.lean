/-! THE REFERENCE: tokens. -/
def nL (n : Nat) : Int64 := Int64.ofInt (n : Int)
theorem nL_i {n : Nat} (h : n < 2 ^ 62) : (nL n).toInt = (n : Int) := by
  unfold nL
  rw [Int64.toInt_ofInt, show Int64.size = 18446744073709551616 from rfl]
  exact Int.bmod_eq_of_le (by omega) (by omega)
theorem nL_e {a b : Nat} (ha : a < 2 ^ 62) (hb : b < 2 ^ 62) : nL a = nL b ↔ a = b := by
  constructor
  · intro h
    have := congrArg Int64.toInt h
    rw [nL_i ha, nL_i hb] at this
    omega
  · intro h
    rw [h]
theorem nL_n {n : Nat} (h : n < 2 ^ 31) : (nI n).toInt64 = nL n := by
  apply Int64.toInt_inj.mp
  rw [nL_i (by omega), Int32.toInt_toInt64]
  rw [J_n, J_toInt (by omega) (by omega)]
theorem nL_st {a b : Nat} (hb : 97 ≤ b ∧ b < 256) (ha : a < 2 ^ 40) : ((nL a * (32 : Int64) + (nI b).toInt64) - (97 : Int64)) + (1 : Int64) = nL (a * 32 + (b - 96)) := by
  rw [nL_n (by omega)]
  unfold nL
  rw [show (32 : Int64) = Int64.ofInt 32 from rfl, show (97 : Int64) = Int64.ofInt 97 from rfl, show (1 : Int64) = Int64.ofInt 1 from rfl, ← Int64.ofInt_mul, ← Int64.ofInt_add, ← Int64.ofInt_sub, ← Int64.ofInt_add]
  congr 1
  omega
theorem lg0 (x y : Int64) : lg_cmp x y = 0 ↔ x = y := by
  unfold lg_cmp
  by_cases e : x = y
  · subst e
    rw [if_neg (show ¬ x > x from fun h => Int64.lt_irrefl h), if_pos rfl]
    exact ⟨fun _ => rfl, fun _ => rfl⟩
  · refine ⟨fun z => ?_, fun z => absurd z e⟩
    split at z
    · exact absurd z (by decide)
    · exact absurd z (by decide)
def kmap (k : Nat) : Nat := if k = 0 then 1 else if k = 1 then 2 else if k = 2 then 3 else if k = 5 then 0 else 4
def encT (tp : Nat → Nat) (s : Nat) : Nat → Nat
  | 0 => 0
  | m + 1 => encT tp s m * 32 + (tp (s + m) - 96)
theorem encT_b {tp : Nat → Nat} {s : Nat} : ∀ m, (∀ j, j < m → isL (tp (s + j)) = true) → encT tp s m < 32 ^ m
  | 0, _ => by show 0 < 1; omega
  | m + 1, h => by
    have ih := encT_b m (fun j hj => h j (by omega))
    have d := of_decide_eq_true (h m (by omega))
    rw [encT, Nat.pow_succ]
    omega
def TKm (w : zI) (lv : zJ) (tp : Nat → Nat) (t : Tk) : Prop := w 174 9 = nI (kmap t.1) ∧ w 174 10 = nI t.2.1 ∧ w 174 6 = nI t.2.2.1 ∧ (t.1 = 2 → w 174 12 = nI t.2.2.2) ∧ (t.1 = 1 → lv 174 13 = nL (encT tp t.2.1 (t.2.2.1 - t.2.1))) ∧ (t.1 = 3 → w 174 11 = nI 59) ∧ (t.1 = 4 → w 174 11 = nI 44)
def RTm (w : zI) (tp : Nat → Nat) (n : Nat) : Prop := w 174 5 = nI n ∧ ∀ j, j < n → w 175 j = nI (tp j)
def FZm (iv a : zI) : Prop := (∀ p, p ≠ 174 → a p = iv p) ∧ ∀ b, b ≠ 6 → b ≠ 9 → b ≠ 10 → b ≠ 11 → b ≠ 12 → a 174 b = iv 174 b
theorem FZm.refl {iv : zI} : FZm iv iv := ⟨fun _ _ => rfl, fun _ _ _ _ _ _ => rfl⟩
theorem FZm.trans {iv a b : zI} (h : FZm iv a) (g : FZm a b) : FZm iv b := ⟨fun p hp => by rw [g.1 p hp]; exact h.1 p hp, fun q a1 a2 a3 a4 a5 => by rw [g.2 q a1 a2 a3 a4 a5]; exact h.2 q a1 a2 a3 a4 a5⟩
theorem FZm.rt {iv a : zI} {tp : Nat → Nat} {n : Nat} (h : FZm iv a) (r : RTm iv tp n) : RTm a tp n := by
  unfold RTm
  rw [h.1 175 (by decide), h.2 5 (by decide) (by decide) (by decide) (by decide) (by decide)]
  exact r
theorem FZm.one {iv a : zI} {k : Nat} {x : Int32} (e : a = zu iv 174 k x) (hk : k = 6 ∨ k = 9 ∨ k = 10 ∨ k = 11 ∨ k = 12) : FZm iv a := ⟨fun p hp => by rw [e, zu_row hp], fun b b1 b2 b3 b4 b5 => by rw [e, zu_k (by omega)]⟩
theorem y_isLetterAt {tp : Nat → Nat} {n d a : Nat} {iv : zI} {rv : zR} {lv : zJ} (hT : zTop rv) (hx : TX tp n) (hR : RTm iv tp n) (ha : a ≤ n) : Ci mX11_isLetterAt (d + 1) [.ref 174, .int (nI a)] iv rv lv (zP (bI (decide (a < n) && isL (tp a))) iv rv lv) := by
  have hn := hx.1
  have ht := hx.2 a
  refine eX11_isLetterAt _ (bX11_isLetterAt_0 _ hT ?_)
  rw [hR.1, nI_leI (by omega) (by omega)]
  refine ⟨fun z => zP.mk (by rw [decide_eq_false (by omega)]; rfl), fun z => ?_⟩
  rw [nI_clamp (by omega), hR.2 a (by omega)]
  refine ⟨vp_in_nI (by omega) (by decide), zcall (y_in hT) hT ?_⟩
  have e : decide ((97 : Int32) ≤ nI (tp a) ∧ nI (tp a) ≤ 122) = isL (tp a) := by
    unfold isL
    rw [show (97 : Int32) = nI 97 from rfl, show (122 : Int32) = nI 122 from rfl]
    exact decide_eq_decide.mpr (by rw [nI_leI (by omega) (by omega), nI_leI (by omega) (by omega)])
  rw [e, decide_eq_true (show a < n by omega), Bool.true_and]
  cases isL (tp a) with
  | false => exact ⟨fun _ => zP.mk rfl, fun z => absurd rfl z⟩
  | true => exact ⟨fun z => absurd (show (1 : Int32) = 0 from z) (by decide), fun _ => zP.mk rfl⟩
theorem y_isDigitAt {tp : Nat → Nat} {n d a : Nat} {iv : zI} {rv : zR} {lv : zJ} (hT : zTop rv) (hx : TX tp n) (hR : RTm iv tp n) (ha : a ≤ n) : Ci mX11_isDigitAt (d + 1) [.ref 174, .int (nI a)] iv rv lv (zP (bI (decide (a < n) && isD (tp a))) iv rv lv) := by
  have hn := hx.1
  have ht := hx.2 a
  refine eX11_isDigitAt _ (bX11_isDigitAt_0 _ hT ?_)
  rw [hR.1, nI_leI (by omega) (by omega)]
  refine ⟨fun z => zP.mk (by rw [decide_eq_false (by omega)]; rfl), fun z => ?_⟩
  rw [nI_clamp (by omega), hR.2 a (by omega)]
  refine ⟨vp_in_nI (by omega) (by decide), zcall (y_in hT) hT ?_⟩
  have e : decide ((48 : Int32) ≤ nI (tp a) ∧ nI (tp a) ≤ 57) = isD (tp a) := by
    unfold isD
    rw [show (48 : Int32) = nI 48 from rfl, show (57 : Int32) = nI 57 from rfl]
    exact decide_eq_decide.mpr (by rw [nI_leI (by omega) (by omega), nI_leI (by omega) (by omega)])
  rw [e, decide_eq_true (show a < n by omega), Bool.true_and]
  cases isD (tp a) with
  | false => exact ⟨fun _ => zP.mk rfl, fun z => absurd rfl z⟩
  | true => exact ⟨fun z => absurd (show (1 : Int32) = 0 from z) (by decide), fun _ => zP.mk rfl⟩
abbrev GQ (iv : zI) (rv : zR) (lv : zJ) (tp : Nat → Nat) (t : Tk) : zI → zR → zJ → Prop := fun a b c => b = rv ∧ TKm a c tp t ∧ FZm iv a ∧ ∀ p, p ≠ 174 → c p = lv p
theorem y_goOn {tp : Nat → Nat} {n a0 d : Nat} {iv : zI} {rv : zR} {lv : zJ} (hT : zTop rv) (hx : TX tp n) (hR : RTm iv tp n) (h6 : iv 174 6 = nI a0) (h7 : iv 174 7 = nI 0) (ha : a0 ≤ n) :
    Cv mX11_goOn (d + 2) [.ref 174] iv rv lv (GQ iv rv lv tp (tkn tp n a0 0)) := by
  have hn := hx.1
  obtain ⟨q1, q2, q3, q4⟩ := rr_ok (p := fun j => tp j == 32) (n := n) (n - a0) a0 rfl
  have q2 := q2 ha
  have tokd : ∀ w : zI, w 174 6 = nI (rr (fun j => tp j == 32) n a0) → FZm iv w → Zv mX11_goOn (d + 2) 46 [some (.ref 174)] [] w rv lv (GQ iv rv lv tp (tkn tp n a0 0)) := by
    intro w w6 wf
    unfold tkn
    generalize rr (fun j => tp j == 32) n a0 = s at *
    refine bX11_goOn_46 hT (fun u eu => ?_)
    rw [w6] at eu
    have u10 : u 174 10 = nI s := by rw [eu, zu_eq]
    have u6 : u 174 6 = nI s := by rw [eu, zu_k (by decide)]; exact w6
    have uf : FZm iv u := wf.trans (FZm.one eu (by omega))
    have r := uf.rt hR
    rw [u6, r.1, nI_eq (by omega) (by omega)]
    refine ⟨fun z => zcall (y_isLetterAt (d := d) hT hx r (by omega)) hT ?_, fun z x ex => ?_⟩
    · have z : s < n := by omega
      rw [if_pos z, decide_eq_true z, Bool.true_and]
      cases hl : isL (tp s) with
      | true =>
        rw [if_pos rfl]
        refine ⟨fun z => absurd (show (1 : Int32) = 0 from z) (by decide), fun _ lv1 el => ?_⟩
        -- a word
        have word : ∀ (m a : Nat) (v : zI) (l : zJ), n - a = m → s ≤ a → a ≤ n → (∀ j, s ≤ j → j < a → isL (tp j) = true) → rr (fun j => isL (tp j)) n a = rr (fun j => isL (tp j)) n s → v 174 6 = nI a → v 174 10 = nI s → FZm iv v → l 174 13 = nL (encT tp s (min 6 (a - s))) → (∀ p, p ≠ 174 → l p = lv p) → Zv mX11_goOn (d + 2) 89 [some (.ref 174)] [] v rv l (GQ iv rv lv tp (if rr (fun j => isL (tp j)) n s - s ≤ 6 then 1 else 5, s, rr (fun j => isL (tp j)) n s, 0)) := by
          intro m
          induction m with
          | zero =>
            intro a v l hm sa an al he v6 v10 vf l13 lf
            have e : rr (fun j => isL (tp j)) n s = a := by rw [← he]; exact rr_e (Or.inl (by omega))
            have r2 := vf.rt hR
            refine bX11_goOn_89 hT ?_
            rw [v6]
            refine zcall (y_isLetterAt (d := d) hT hx r2 an) hT ?_
            rw [decide_eq_false (by omega), Bool.false_and, v6, v10, pk_sub sa, show (6 : Int32) = nI 6 from rfl, nI_leI (by omega) (by omega), e]
            refine ⟨fun _ => ⟨fun y x ex => ⟨rfl, ⟨?_, ?_, ?_, ?_, ?_, ?_, ?_⟩, vf.trans (FZm.one ex (by omega)), lf⟩, fun y x ex => ⟨rfl, ⟨?_, ?_, ?_, ?_, ?_, ?_, ?_⟩, vf.trans (FZm.one ex (by omega)), lf⟩⟩, fun z => absurd rfl z⟩
            · rw [ex, zu_eq, if_pos y]; rfl
            · rw [ex, zu_k (by decide)]; exact v10
            · rw [ex, zu_k (by decide)]; exact v6
            · rw [if_pos y]; exact fun z => by cases z
            · exact fun _ => by rw [l13, Nat.min_eq_right y]
            · rw [if_pos y]; exact fun z => by cases z
            · rw [if_pos y]; exact fun z => by cases z
            · rw [ex, zu_eq, if_neg y]; rfl
            · rw [ex, zu_k (by decide)]; exact v10
            · rw [ex, zu_k (by decide)]; exact v6
            · rw [if_neg y]; exact fun z => by cases z
            · rw [if_neg y]; exact fun z => by cases z
            · rw [if_neg y]; exact fun z => by cases z
            · rw [if_neg y]; exact fun z => by cases z
          | succ m ih =>
            intro a v l hm sa an al he v6 v10 vf l13 lf
            have r2 := vf.rt hR
            refine bX11_goOn_89 hT ?_
            rw [v6]
            refine zcall (y_isLetterAt (d := d) hT hx r2 an) hT ?_
            rw [decide_eq_true (show a < n by omega), Bool.true_and, v6, v10, pk_sub sa, show (6 : Int32) = nI 6 from rfl, nI_leI (by omega) (by omega), nI_leI (by omega) (by omega), nI_clamp (by omega), r2.2 a (by omega), nI_1]
            cases q : isL (tp a) with
            | true =>
              have dl := of_decide_eq_true q
              refine ⟨fun z => absurd (show (1 : Int32) = 0 from z) (by decide), fun _ => ⟨fun y x ex => ?_, fun y => ⟨vp_in_nI (by omega) (by decide), fun l2 el2 x ex => ?_⟩⟩⟩
              · refine ih (a + 1) x l (by omega) (by omega) (by omega) (fun j j1 j2 => ?_) (by rw [← rr_s (p := fun j => isL (tp j)) (show a < n by omega) q]; exact he) (by rw [ex, zu_eq]) (by rw [ex, zu_k (by decide)]; exact v10) (vf.trans (FZm.one ex (by omega))) (by rw [l13, show min 6 (a - s) = min 6 (a + 1 - s) by omega]) lf
                by_cases e : j = a
                · rw [e]; exact q
                · exact al j j1 (by omega)
              · have eb := encT_b (tp := tp) (s := s) (min 6 (a - s)) (fun j hj => al (s + j) (by omega) (by omega))
                have p6 : 32 ^ (min 6 (a - s)) ≤ 32 ^ 6 := Nat.pow_le_pow_right (by omega) (by omega)
                have tl := hx.2 a
                rw [l13, nL_st ⟨dl.1, tl⟩ (by omega)] at el2
                refine ih (a + 1) x l2 (by omega) (by omega) (by omega) (fun j j1 j2 => ?_) (by rw [← rr_s (p := fun j => isL (tp j)) (show a < n by omega) q]; exact he) (by rw [ex, zu_eq]) (by rw [ex, zu_k (by decide)]; exact v10) (vf.trans (FZm.one ex (by omega))) ?_ (fun p hp => by rw [el2, zu_row hp]; exact lf p hp)
                · by_cases e : j = a
                  · rw [e]; exact q
                  · exact al j j1 (by omega)
                · rw [el2, zu_eq, show min 6 (a + 1 - s) = min 6 (a - s) + 1 by omega, encT, show s + min 6 (a - s) = a by omega]
            | false =>
              have e : rr (fun j => isL (tp j)) n s = a := by rw [← he]; exact rr_e (Or.inr q)
              rw [e]
              refine ⟨fun _ => ⟨fun y x ex => ⟨rfl, ⟨?_, ?_, ?_, ?_, ?_, ?_, ?_⟩, vf.trans (FZm.one ex (by omega)), lf⟩, fun y x ex => ⟨rfl, ⟨?_, ?_, ?_, ?_, ?_, ?_, ?_⟩, vf.trans (FZm.one ex (by omega)), lf⟩⟩, fun z => absurd rfl z⟩
              · rw [ex, zu_eq, if_pos y]; rfl
              · rw [ex, zu_k (by decide)]; exact v10
              · rw [ex, zu_k (by decide)]; exact v6
              · rw [if_pos y]; exact fun z => by cases z
              · exact fun _ => by rw [l13, Nat.min_eq_right y]
              · rw [if_pos y]; exact fun z => by cases z
              · rw [if_pos y]; exact fun z => by cases z
              · rw [ex, zu_eq, if_neg y]; rfl
              · rw [ex, zu_k (by decide)]; exact v10
              · rw [ex, zu_k (by decide)]; exact v6
              · rw [if_neg y]; exact fun z => by cases z
              · rw [if_neg y]; exact fun z => by cases z
              · rw [if_neg y]; exact fun z => by cases z
              · rw [if_neg y]; exact fun z => by cases z
        exact word (n - s) s u lv1 rfl (Nat.le_refl _) (by omega) (fun j j1 j2 => by omega) rfl u6 u10 uf (by rw [el, zu_eq, Nat.sub_self]; rfl) (fun p hp => by rw [el, zu_row hp])
      | false =>
        rw [if_neg (by simp)]
        refine ⟨fun _ => ?_, fun z => absurd rfl z⟩
        rw [u6]
        refine zcall (y_isDigitAt (d := d) hT hx r (by omega)) hT ?_
        rw [decide_eq_true z, Bool.true_and]
        cases hd : isD (tp s) with
        | true =>
          rw [if_pos rfl]
          refine ⟨fun z => absurd (show (1 : Int32) = 0 from z) (by decide), fun _ x0 ex0 => ?_⟩
          have num : ∀ (m a : Nat) (v : zI), n - a = m → s ≤ a → a ≤ n → rr (fun j => isD (tp j)) n a = rr (fun j => isD (tp j)) n s → v 174 6 = nI a → v 174 10 = nI s → FZm iv v → v 174 12 = nI (dvl tp s (min 4 (a - s))) → Zv mX11_goOn (d + 2) 198 [some (.ref 174)] [] v rv lv (GQ iv rv lv tp (if rr (fun j => isD (tp j)) n s - s ≤ 4 then 2 else 5, s, rr (fun j => isD (tp j)) n s, dvl tp s (min 4 (rr (fun j => isD (tp j)) n s - s)))) := by
            have last : ∀ (a : Nat) (v : zI), s ≤ a → a ≤ n → rr (fun j => isD (tp j)) n s = a → v 174 6 = nI a → v 174 10 = nI s → FZm iv v → v 174 12 = nI (dvl tp s (min 4 (a - s))) → (nI (a - s) ≤ 4 → ∀ x : zI, x = zu v 174 9 3 → GQ iv rv lv tp (if rr (fun j => isD (tp j)) n s - s ≤ 4 then 2 else 5, s, rr (fun j => isD (tp j)) n s, dvl tp s (min 4 (rr (fun j => isD (tp j)) n s - s))) x rv lv) ∧ (¬ nI (a - s) ≤ 4 → ∀ x : zI, x = zu v 174 9 0 → GQ iv rv lv tp (if rr (fun j => isD (tp j)) n s - s ≤ 4 then 2 else 5, s, rr (fun j => isD (tp j)) n s, dvl tp s (min 4 (rr (fun j => isD (tp j)) n s - s))) x rv lv) := by
              intro a v sa an e v6 v10 vf v12
              rw [z_4, nI_leI (by omega) (by omega), e]
              refine ⟨fun y x ex => ⟨rfl, ⟨?_, ?_, ?_, ?_, ?_, ?_, ?_⟩, vf.trans (FZm.one ex (by omega)), fun _ _ => rfl⟩, fun y x ex => ⟨rfl, ⟨?_, ?_, ?_, ?_, ?_, ?_, ?_⟩, vf.trans (FZm.one ex (by omega)), fun _ _ => rfl⟩⟩
              · rw [ex, zu_eq, if_pos y]; rfl
              · rw [ex, zu_k (by decide)]; exact v10
              · rw [ex, zu_k (by decide)]; exact v6
              · exact fun _ => by rw [ex, zu_k (by decide)]; exact v12
              · rw [if_pos y]; exact fun z => by cases z
              · rw [if_pos y]; exact fun z => by cases z
              · rw [if_pos y]; exact fun z => by cases z
              · rw [ex, zu_eq, if_neg y]; rfl
              · rw [ex, zu_k (by decide)]; exact v10
              · rw [ex, zu_k (by decide)]; exact v6
              · rw [if_neg y]; exact fun z => by cases z
              · rw [if_neg y]; exact fun z => by cases z
              · rw [if_neg y]; exact fun z => by cases z
              · rw [if_neg y]; exact fun z => by cases z
            intro m
            induction m with
            | zero =>
              intro a v hm sa an he v6 v10 vf v12
              have e : rr (fun j => isD (tp j)) n s = a := by rw [← he]; exact rr_e (Or.inl (by omega))
              refine bX11_goOn_198 hT ?_
              rw [v6]
              refine zcall (y_isDigitAt (d := d) hT hx (vf.rt hR) an) hT ?_
              rw [decide_eq_false (by omega), Bool.false_and, v6, v10, pk_sub sa]
              exact ⟨fun _ => last a v sa an e v6 v10 vf v12, fun z => absurd rfl z⟩
            | succ m ih =>
              intro a v hm sa an he v6 v10 vf v12
              have r2 := vf.rt hR
              refine bX11_goOn_198 hT ?_
              rw [v6]
              refine zcall (y_isDigitAt (d := d) hT hx r2 an) hT ?_
              rw [decide_eq_true (show a < n by omega), Bool.true_and, v6, v10, pk_sub sa]
              cases q : isD (tp a) with
              | true =>
                have dd := of_decide_eq_true q
                have he2 : rr (fun j => isD (tp j)) n (a + 1) = rr (fun j => isD (tp j)) n s := by rw [← rr_s (p := fun j => isD (tp j)) (show a < n by omega) q]; exact he
                refine ⟨fun z => absurd (show (1 : Int32) = 0 from z) (by decide), fun _ => ?_⟩
                rw [z_4, nI_leI (by omega) (by omega), nI_clamp (by omega), r2.2 a (by omega), v12, show (10 : Int32) = nI 10 from rfl, show (48 : Int32) = nI 48 from rfl, pk_mul, nI_add, pk_sub (by omega), nI_1]
                refine ⟨fun y x ex => ih (a + 1) x (by omega) (by omega) (by omega) he2 (by rw [ex, zu_eq]) (by rw [ex, zu_k (by decide)]; exact v10) (vf.trans (FZm.one ex (by omega))) (by rw [ex, zu_k (by decide), v12, show min 4 (a - s) = min 4 (a + 1 - s) by omega]), fun y => ⟨vp_in_nI (by omega) (by decide), fun x ex x2 ex2 => ?_⟩⟩
                rw [ex, zu_k (by decide), v6, nI_1] at ex2
                refine ih (a + 1) x2 (by omega) (by omega) (by omega) he2 (by rw [ex2, zu_eq]) (by rw [ex2, zu_k (by decide), zu_k (by decide)]; exact v10) (vf.trans ⟨fun p hp => by rw [ex2, zu_row hp, zu_row hp], fun b b1 _ _ _ b5 => by rw [ex2, zu_k b1, zu_k b5]⟩) ?_
                rw [ex2, zu_k (by decide), zu_eq, show min 4 (a + 1 - s) = min 4 (a - s) + 1 by omega, dvl, show s + min 4 (a - s) = a by omega]
                congr 1
                omega
              | false =>
                have e : rr (fun j => isD (tp j)) n s = a := by rw [← he]; exact rr_e (Or.inr q)
                exact ⟨fun _ => last a v sa an e v6 v10 vf v12, fun z => absurd rfl z⟩
          exact num (n - s) s x0 rfl (Nat.le_refl _) (by omega) rfl (by rw [ex0, zu_k (by decide)]; exact u6) (by rw [ex0, zu_k (by decide)]; exact u10) (uf.trans (FZm.one ex0 (by omega))) (by rw [ex0, zu_eq, Nat.sub_self]; rfl)
        | false =>
          rw [if_neg (by simp)]
          have tl := hx.2 s
          refine ⟨fun _ => ?_, fun z => absurd rfl z⟩
          rw [u6, nI_clamp (by omega), r.2 s z]
          refine ⟨vp_in_nI (by omega) (by decide), fun x1 ex1 => ?_⟩
          have x11 : x1 174 11 = nI (tp s) := by rw [ex1, zu_eq]
          rw [x11, show (59 : Int32) = nI 59 from rfl, show (44 : Int32) = nI 44 from rfl, nI_eq (by omega) (by omega), nI_eq (by omega) (by omega)]
          have res : ∀ (kd : Nat) (k9 : Int32) (x y : zI), k9 = nI (kmap kd) → kd ≠ 1 → kd ≠ 2 → (kd = 3 → tp s = 59) → (kd = 4 → tp s = 44) → x = zu x1 174 9 k9 → y = zu x 174 6 (x 174 6 + 1) → GQ iv rv lv tp (kd, s, s + 1, 0) y rv lv := by
            intro kd k9 x y ek k1 k2 k3 k4 ex ey
            rw [ex, zu_k (by decide), ex1, zu_k (by decide), u6, nI_1] at ey
            refine ⟨rfl, ⟨by rw [ey, zu_k (by decide), zu_eq, ek], by rw [ey, zu_k (by decide), zu_k (by decide), zu_k (by decide)]; exact u10, by rw [ey, zu_eq], fun z => absurd z k2, fun z => absurd z k1, fun z => ?_, fun z => ?_⟩, uf.trans ⟨fun p hp => by rw [ey, zu_row hp, zu_row hp, zu_row hp], fun b b1 b2 _ b4 _ => by rw [ey, zu_k b1, zu_k b2, zu_k b4]⟩, fun _ _ => rfl⟩
            · rw [ey, zu_k (by decide), zu_k (by decide), zu_eq, k3 z]
            · rw [ey, zu_k (by decide), zu_k (by decide), zu_eq, k4 z]
          refine ⟨fun y1 x ex y ey => ?_, fun y1 => ⟨fun y2 x ex y ey => ?_, fun y2 x ex y ey => ?_⟩⟩
          · rw [if_pos y1]; exact res 3 4 x y rfl (by decide) (by decide) (fun _ => y1) (fun z => by cases z) ex ey
          · rw [if_neg y1, if_neg y2]; exact res 5 0 x y rfl (by decide) (by decide) (fun z => by cases z) (fun z => by cases z) ex ey
          · rw [if_neg y1, if_pos y2]; exact res 4 4 x y rfl (by decide) (by decide) (fun z => by cases z) (fun _ => y2) ex ey
    · rw [if_neg (by omega)]
      exact ⟨rfl, ⟨by rw [ex, zu_eq]; rfl, by rw [ex, zu_k (by decide)]; exact u10, by rw [ex, zu_k (by decide)]; exact u6, fun z => (by cases z), fun z => (by cases z), fun z => (by cases z), fun z => (by cases z)⟩, uf.trans (FZm.one ex (by omega)), fun _ _ => rfl⟩
  have fin : ∀ (m a : Nat) (w : zI), n - a = m → a0 ≤ a → a ≤ n → rr (fun j => tp j == 32) n a = rr (fun j => tp j == 32) n a0 → w 174 6 = nI a → FZm iv w → Zv mX11_goOn (d + 2) 8 [some (.ref 174)] [] w rv lv (GQ iv rv lv tp (tkn tp n a0 0)) := by
    intro m
    induction m with
    | zero =>
      intro a w hm sa an he w6 wf
      have r := wf.rt hR
      have e : rr (fun j => tp j == 32) n a0 = a := by rw [← he]; exact rr_e (Or.inl (by omega))
      refine bX11_goOn_8 hT ?_
      rw [r.1, w6, nI_leI (by omega) (by omega)]
      exact ⟨fun _ => tokd w (by rw [w6, e]) wf, fun z => absurd (by omega) z⟩
    | succ m ih =>
      intro a w hm sa an he w6 wf
      have r := wf.rt hR
      have tl := hx.2 a
      refine bX11_goOn_8 hT ?_
      rw [r.1, w6, nI_leI (by omega) (by omega), nI_clamp (by omega), r.2 a (by omega), show (32 : Int32) = nI 32 from rfl, nI_eq (by omega) (by omega), nI_1]
      refine ⟨fun z => absurd z (by omega), fun _ => ⟨vp_in_nI (by omega) (by decide), fun z => ?_, fun z u eu => ?_⟩⟩
      · have e : rr (fun j => tp j == 32) n a0 = a := by rw [← he]; exact rr_e (Or.inr (beq_eq_false_iff_ne.mpr z))
        exact tokd w (by rw [w6, e]) wf
      · exact ih (a + 1) u (by omega) (by omega) (by omega) (by rw [← rr_s (p := fun j => tp j == 32) (show a < n by omega) (beq_iff_eq.mpr z)]; exact he) (by rw [eu, zu_eq]) (wf.trans (FZm.one eu (by omega)))
  refine eX11_goOn (bX11_goOn_0 hT ?_)
  rw [h7]
  exact ⟨fun _ => fin (n - a0) a0 iv rfl (Nat.le_refl _) ha rfl h6 FZm.refl, fun z => absurd (by decide) z⟩
