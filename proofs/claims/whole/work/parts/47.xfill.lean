/-! THE CLASS: filling. -/
def AR (w : zI) (p n : Nat) (f : Nat → Nat) : Prop := ∀ i, i < n → w p i = nI (f i)
theorem CB.fr {S : St} {iv a : zI} (h : CB S iv) (hf : ∀ p, p ≤ 75 ∨ p = 158 → a p = iv p) : CB S a := by
  obtain ⟨h1, h2, h3, h4, h5, h6, h7⟩ := h
  refine ⟨?_, h2.fr (fun p _ _ => hf p (by omega)), h3.fr (fun p _ _ => hf p (by omega)), h4.fr (fun p _ _ => hf p (by omega)), ?_, ?_, ?_⟩
  · rw [hf 1 (by omega), hf 7 (by omega)]; exact h1
  · rw [hf 0 (by omega)]; exact h5
  · rw [hf 0 (by omega), hf 158 (by omega)]; exact h6
  · rw [hf 0 (by omega)]; exact h7
/-- what Filling, Differencing, Multi leave as it was -/
def FG (iv a : zI) : Prop := ∀ p, (86 ≤ p ∧ p < 130) ∨ (154 < p ∧ p ≠ 158) → a p = iv p
def FL (iv a : zI) : Prop := ∀ p, p ≤ 75 ∨ (86 ≤ p ∧ p < 130) ∨ 154 < p → a p = iv p
def XG (S' : St) (r : Int32) (iv : zI) (rv : zR) (lv : zJ) : Int32 → zI → zR → zJ → Prop := fun y a b c => y = r ∧ b = rv ∧ c = lv ∧ CB S' a ∧ FG iv a
theorem FL.refl {iv : zI} : FL iv iv := fun _ _ => rfl
theorem FL.cb {S : St} {iv a : zI} (hf : FL iv a) (h : CB S iv) : CB S a := h.fr (fun p hp => hf p (by omega))
theorem XG.ans {S : St} {t : Nat} {y r : Int32} {iv a : zI} {rv : zR} {lv : zJ} (e : y = r) (h : CB S iv) (hf : FL iv a) : XG (sT S t) r iv rv lv y (zu (zu a 0 12 (nI t)) 0 14 (-1)) rv lv := ⟨e, rfl, rfl, (hf.cb h).tr, fun p hp => by rw [zu_row (by omega), zu_row (by omega)]; exact hf p (by omega)⟩
theorem x_grAmong {d r l k : Nat} {s : Nat → Nat} {iv : zI} {rv : zR} {lv : zJ} (hT : zTop rv) (hs : zSH r = (0, l)) (hr : r < 200) (hk : 1 ≤ k) (hkl : k ≤ l) (hl : l < 2 ^ 31) (ha : AR iv r k s) (hb : ∀ h, h < k → s h < 2 ^ 31) : Ci mX10_greatestAmong (d + 1) [.ref r, .int (nI k)] iv rv lv (zP (nI (mx s k)) iv rv lv) := by
  refine eX10_greatestAmong r l _ (bX10_greatestAmong_0 r l _ hT hs hr ⟨(show vp_in (nI 0) l from vp_in_nI (by omega) hl), ?_⟩)
  have key := zfor (c := k) (P := fun j => 1 ≤ j → Zi mX10_greatestAmong (d + 1) 6 [some (.ref r), some (.int (nI k)), some (.int (nI (mx s j))), some (.int (nI j))] [] iv rv lv (zP (nI (mx s k)) iv rv lv)) ?_ ?_
  · have := key 1 hk (Nat.le_refl _)
    rw [mx_1, ← ha 0 (by omega)] at this
    exact this
  · intro _
    exact bX10_greatestAmong_6 r l _ _ _ hT hs hr ⟨fun _ => zP.mk rfl, fun z => absurd (nI_le (by omega) (by omega)) z⟩
  · intro j hj ih h1
    refine bX10_greatestAmong_6 r l _ _ _ hT hs hr ⟨fun z => absurd z (nI_ge hj (by omega)), fun _ => ⟨vp_in_nI (by omega) hl, ?_⟩⟩
    rw [nI_clamp (by omega), ha j hj, zmx_nI (Nat.lt_of_le_of_lt (mx_b (b := 2 ^ 31 - 1) j (fun i hi => by have := hb i (by omega); omega) (by have := hb 0 (by omega); omega)) (by omega)) (hb j hj), nI_1]
    exact ih (by omega)
theorem mn_b {s : Nat → Nat} {k : Nat} (h : s 0 < 2 ^ 31) (hk : 1 ≤ k) : mn s k < 2 ^ 31 := Nat.lt_of_le_of_lt (mn_le s k 0 (by omega)) h
theorem x_lsAmong {d r l k : Nat} {s : Nat → Nat} {iv : zI} {rv : zR} {lv : zJ} (hT : zTop rv) (hs : zSH r = (0, l)) (hr : r < 200) (hk : 1 ≤ k) (hkl : k ≤ l) (hl : l < 2 ^ 31) (ha : AR iv r k s) (hb : ∀ h, h < k → s h < 2 ^ 31) : Ci mX10_leastAmong (d + 1) [.ref r, .int (nI k)] iv rv lv (zP (nI (mn s k)) iv rv lv) := by
  refine eX10_leastAmong r l _ (bX10_leastAmong_0 r l _ hT hs hr ⟨(show vp_in (nI 0) l from vp_in_nI (by omega) hl), ?_⟩)
  have key := zfor (c := k) (P := fun j => 1 ≤ j → Zi mX10_leastAmong (d + 1) 6 [some (.ref r), some (.int (nI k)), some (.int (nI (mn s j))), some (.int (nI j))] [] iv rv lv (zP (nI (mn s k)) iv rv lv)) ?_ ?_
  · have := key 1 hk (Nat.le_refl _)
    rw [mn_1, ← ha 0 (by omega)] at this
    exact this
  · intro _
    exact bX10_leastAmong_6 r l _ _ _ hT hs hr ⟨fun _ => zP.mk rfl, fun z => absurd (nI_le (by omega) (by omega)) z⟩
  · intro j hj ih h1
    refine bX10_leastAmong_6 r l _ _ _ hT hs hr ⟨fun z => absurd z (nI_ge hj (by omega)), fun _ => ⟨vp_in_nI (by omega) hl, ?_⟩⟩
    rw [nI_clamp (by omega), ha j hj, zmn_nI (mn_b (hb 0 (by omega)) h1) (hb j hj), nI_1]
    exact ih (by omega)
theorem x_leastHeap {d k : Nat} {s : Nat → Nat} {iv : zI} {rv : zR} {lv : zJ} (hT : zTop rv) (hk1 : iv 76 3 = nI k) (hk : 1 ≤ k) (hk4 : k ≤ 4) (ha : AR iv 78 k s) (hb : ∀ h, h < k → s h < 2 ^ 31) : Ci mX1_leastHeap d [.ref 76] iv rv lv (zP (nI (lh s k)) iv rv lv) := by
  refine eX1_leastHeap (bX1_leastHeap_0 hT ?_)
  have key := zfor (c := k) (P := fun j => 1 ≤ j → Zi mX1_leastHeap d 4 [some (.ref 76), some (.int (nI (lh s j))), some (.int (nI j))] [] iv rv lv (zP (nI (lh s k)) iv rv lv)) ?_ ?_
  · have := key 1 hk (Nat.le_refl _)
    simp only [lh, Nat.lt_irrefl, if_false] at this
    exact this
  · intro _
    exact bX1_leastHeap_4 _ _ hT ⟨fun _ => zP.mk rfl, fun z => absurd (by rw [hk1]; exact nI_le (by omega) (by omega)) z⟩
  · intro j hj ih h1
    have hl := lh_lt s j (by omega)
    refine bX1_leastHeap_4 _ _ hT ⟨fun z => ?_, fun _ => ?_⟩
    · rw [hk1] at z
      exact absurd z (nI_ge hj (by omega))
    · have ih := ih (by omega)
      rw [lh] at ih
      rw [nI_clamp (by omega), nI_clamp (by omega), ha _ (show lh s j < k by omega), ha j hj, nI_1]
      refine ⟨vp_in_nI (by omega) (by decide), vp_in_nI (by omega) (by decide), fun q => ?_, fun q => ?_⟩
      · rw [nI_leI (hb _ (by omega)) (hb _ (by omega))] at q
        rw [if_neg (by omega)] at ih
        exact ih
      · rw [nI_leI (hb _ (by omega)) (hb _ (by omega))] at q
        rw [if_pos (by omega)] at ih
        exact ih
theorem x_fill {d k : Nat} {s : Sn} {iv : zI} {rv : zR} {lv : zJ} (hT : zTop rv) (cs : CS iv 8 s) (h12 : ∀ j, j < s.1 → iv 12 j = nI (un s.1 s.2.2.1 j)) (vs : VS s) (hk : 2 ≤ k) (hk4 : k ≤ 4) :
    Cv mX1_fillBySize (d + 1) [.ref 76, .ref 8, .int (nI k)] iv rv lv (fun a b c => b = rv ∧ c = lv ∧ a 76 3 = nI k ∧ AR a 77 s.1 (gr s.1 k s.2.2.1) ∧ AR a 78 4 (hsum s.1 s.2.2.1 (gr s.1 k s.2.2.1)) ∧ (∀ p, p ≠ 76 → p ≠ 77 → p ≠ 78 → a p = iv p)) := by
  have vn := vs.1
  refine eX1_fillBySize 8 _ (bX1_fillBySize_0 8 _ hT (by decide) ?_)
  intro w0 e0
  have main : ∀ w : zI, (∀ h, h < 4 → w 78 h = nI 0) → (∀ p, p ≠ 78 → w p = w0 p) → Zv mX1_fillBySize (d + 1) 27 [some (.ref 76), some (.ref 8), some (.int (nI k)), some (.int 0), none, none] [] w rv lv (fun a b c => b = rv ∧ c = lv ∧ a 76 3 = nI k ∧ AR a 77 s.1 (gr s.1 k s.2.2.1) ∧ AR a 78 4 (hsum s.1 s.2.2.1 (gr s.1 k s.2.2.1)) ∧ (∀ p, p ≠ 76 → p ≠ 77 → p ≠ 78 → a p = iv p)) := by
    intro w g1 g2
    have key := zfor (c := s.1) (P := fun r => ∀ t : zI, AR t 78 4 (fl k s.2.2.1 (un s.1 s.2.2.1) r).1 → (∀ i, i < s.1 → rk s.1 s.2.2.1 i < r → t 77 i = nI ((fl k s.2.2.1 (un s.1 s.2.2.1) r).2 i)) → (∀ p, p ≠ 77 → p ≠ 78 → t p = w0 p) → Zv mX1_fillBySize (d + 1) 27 [some (.ref 76), some (.ref 8), some (.int (nI k)), some (.int (nI r)), none, none] [] t rv lv (fun a b c => b = rv ∧ c = lv ∧ a 76 3 = nI k ∧ AR a 77 s.1 (gr s.1 k s.2.2.1) ∧ AR a 78 4 (hsum s.1 s.2.2.1 (gr s.1 k s.2.2.1)) ∧ (∀ p, p ≠ 76 → p ≠ 77 → p ≠ 78 → a p = iv p))) ?_ ?_
    · exact key 0 (by omega) w (fun h hh => g1 h hh) (fun i _ hi => absurd hi (Nat.not_lt_zero _)) (fun p _ p2 => g2 p p2)
    · intro t b1 b2 b3
      have c0 : t 8 0 = nI s.1 := by rw [b3 8 (by omega) (by omega), e0, zu_row (by omega)]; exact cs.1
      refine bX1_fillBySize_27 8 _ _ hT (by decide) ⟨fun _ => ⟨rfl, rfl, ?_, fun i hi => b2 i hi (un_rk _ _ i hi).1, fun h hh => ?_, fun p p1 p2 p3 => ?_⟩, fun z => absurd (by rw [c0]; exact nI_le (by omega) (by omega)) z⟩
      · rw [b3 76 (by omega) (by omega), e0, zu_eq]
      · rw [b1 h hh, fl_hsum]
      · rw [b3 p p2 p3, e0, zu_row p1]
    · intro r hr ih t b1 b2 b3
      have c0 : t 8 0 = nI s.1 := by rw [b3 8 (by omega) (by omega), e0, zu_row (by omega)]; exact cs.1
      have c12 : t 12 r = nI (un s.1 s.2.2.1 r) := by rw [b3 12 (by omega) (by omega), e0, zu_row (by omega)]; exact h12 r hr
      have hu := un_lt s.1 s.2.2.1 r hr
      have hru := rk_un s.1 s.2.2.1 r hr
      have hl := lh_lt (fl k s.2.2.1 (un s.1 s.2.2.1) r).1 k (by omega)
      have bd : ∀ h, (fl k s.2.2.1 (un s.1 s.2.2.1) r).1 h ≤ 9999 * r := fl_b r (fun j hj => (vs.2.2.1 _ (un_lt _ _ _ (by omega))).2)
      have bd2 : ∀ h, (fl k s.2.2.1 (un s.1 s.2.2.1) r).1 h < 2 ^ 31 := fun h => by have := bd h; omega
      refine bX1_fillBySize_27 8 _ _ hT (by decide) ⟨fun z => ?_, fun _ => ?_⟩
      · rw [c0] at z
        exact absurd z (nI_ge hr (by omega))
      · rw [nI_clamp (show r < 2 ^ 31 by omega)]
        show vp_in (nI r) 10 ∧ _
        rw [show t (8 + 4) r = nI (un s.1 s.2.2.1 r) from c12, nI_clamp (show un s.1 s.2.2.1 r < 2 ^ 31 by omega)]
        refine ⟨vp_in_nI (by omega) (by decide), zcall (x_leastHeap (k := k) (s := (fl k s.2.2.1 (un s.1 s.2.2.1) r).1) hT (by rw [b3 76 (by omega) (by omega), e0, zu_eq]) (by omega) hk4 (fun h hh => b1 h (by omega)) (fun h _ => bd2 h)) hT ⟨vp_in_nI (by omega) (by decide), fun t1 e1 => ?_⟩⟩
        rw [nI_clamp (show lh (fl k s.2.2.1 (un s.1 s.2.2.1) r).1 k < 2 ^ 31 by omega)]
        refine ⟨vp_in_nI (by omega) (by decide), fun t2 e2 => ?_⟩
        have v78 : t1 78 (lh (fl k s.2.2.1 (un s.1 s.2.2.1) r).1 k) = nI ((fl k s.2.2.1 (un s.1 s.2.2.1) r).1 (lh (fl k s.2.2.1 (un s.1 s.2.2.1) r).1 k)) := by rw [e1, zu_row (by omega)]; exact b1 _ (by omega)
        have v9 : t1 (8 + 1) (un s.1 s.2.2.1 r) = nI (s.2.2.1 (un s.1 s.2.2.1 r)) := by rw [e1, zu_row (by omega), b3 (8 + 1) (by omega) (by omega), e0, zu_row (by omega)]; exact cs.2.2.1 _ hu
        rw [v78, v9, nI_add] at e2
        rw [nI_1]
        refine ih t2 (fun h hh => ?_) (fun i hi hir => ?_) (fun p p1 p2 => by rw [e2, zu_row p2, e1, zu_row p1]; exact b3 p p1 p2)
        · simp only [fl]
          by_cases c : h = lh (fl k s.2.2.1 (un s.1 s.2.2.1) r).1 k
          · rw [c, up_eq, e2, zu_eq]
          · rw [up_ne c, e2, zu_k c, e1, zu_row (by omega)]; exact b1 h hh
        · simp only [fl]
          by_cases c : i = un s.1 s.2.2.1 r
          · rw [c, up_eq, e2, zu_row (by omega), e1, zu_eq]
          · have : rk s.1 s.2.2.1 i ≠ r := fun q => c (by rw [← q, (un_rk _ _ i hi).2])
            rw [up_ne c, e2, zu_row (by omega), e1, zu_k c]; exact b2 i hi (by omega)
  have key := zfor (c := 4) (P := fun j => ∀ w : zI, (∀ h, h < j → w 78 h = nI 0) → (∀ p, p ≠ 78 → w p = w0 p) → Zv mX1_fillBySize (d + 1) 7 [some (.ref 76), some (.ref 8), some (.int (nI k)), some (.int (nI j)), none, none] [] w rv lv (fun a b c => b = rv ∧ c = lv ∧ a 76 3 = nI k ∧ AR a 77 s.1 (gr s.1 k s.2.2.1) ∧ AR a 78 4 (hsum s.1 s.2.2.1 (gr s.1 k s.2.2.1)) ∧ (∀ p, p ≠ 76 → p ≠ 77 → p ≠ 78 → a p = iv p))) ?_ ?_
  · exact key 0 (by omega) w0 (fun h hh => absurd hh (Nat.not_lt_zero _)) (fun _ _ => rfl)
  · intro w g1 g2
    exact bX1_fillBySize_7 8 _ _ hT (by decide) ⟨fun _ => main w g1 g2, fun z => absurd (by decide) z⟩
  · intro j hj ih w g1 g2
    refine bX1_fillBySize_7 8 _ _ hT (by decide) ⟨fun z => absurd z (show ¬ nI 4 ≤ nI j from nI_ge hj (by omega)), fun _ => ⟨vp_in_nI hj (by decide), fun w1 e1 => ?_⟩⟩
    rw [nI_clamp (by omega)] at e1
    subst e1
    rw [nI_1]
    refine ih _ (fun h hh => ?_) (fun p hp => by rw [zu_row hp]; exact g2 p hp)
    by_cases c : h = j
    · rw [c, zu_eq]; rfl
    · rw [zu_k c]; exact g1 h (by omega)
theorem x_grst {d k : Nat} {s : Nat → Nat} {iv : zI} {rv : zR} {lv : zJ} (hT : zTop rv) (hk1 : iv 76 3 = nI k) (hk : 1 ≤ k) (hk4 : k ≤ 4) (ha : AR iv 78 k s) (hb : ∀ h, h < k → s h < 2 ^ 31) : Ci mX1_greatest (d + 2) [.ref 76] iv rv lv (zP (nI (mx s k)) iv rv lv) := by
  refine eX1_greatest (bX1_greatest_0 hT ?_)
  rw [hk1]
  exact zcall (x_grAmong hT rfl (by omega) hk hk4 (by omega) ha hb) hT (zP.mk rfl)
theorem x_fspread {d k : Nat} {s : Nat → Nat} {iv : zI} {rv : zR} {lv : zJ} (hT : zTop rv) (hk1 : iv 76 3 = nI k) (hk : 1 ≤ k) (hk4 : k ≤ 4) (ha : AR iv 78 k s) (hb : ∀ h, h < k → s h < 2 ^ 31) : Ci mX1_spread (d + 2) [.ref 76] iv rv lv (zP (nI (spr s k)) iv rv lv) := by
  refine eX1_spread (bX1_spread_0 hT ?_)
  rw [hk1]
  refine zcall (x_grAmong hT rfl (by omega) hk hk4 (by omega) ha hb) hT ?_
  rw [hk1]
  refine zcall (x_lsAmong hT rfl (by omega) hk hk4 (by omega) ha hb) hT (zP.mk ?_)
  rw [pk_sub (mn_mx s k)]
  rfl
def F_greedy (S : St) (k w : Int32) : Int32 × St := match S.2.1 with
  | none => rf S 1
  | some s => if w < 0 ∨ 1 < w then rf S 1 else if k < 2 ∨ 4 < k then rf S 2 else ok S (if w = 0 then nI (spr (hsum s.1 s.2.2.1 (gr s.1 k.toNatClampNeg s.2.2.1)) k.toNatClampNeg) else nI (mx (hsum s.1 s.2.2.1 (gr s.1 k.toNatClampNeg s.2.2.1)) k.toNatClampNeg))
def F_greedyOf (S : St) (k x : Int32) : Int32 × St := match nOf S x with
  | none => rf S 1
  | some (s, i) => if k < 2 ∨ 4 < k then rf S 2 else ok S (nI (gr s.1 k.toNatClampNeg s.2.2.1 i))
theorem VS.hb {s : Sn} (h : VS s) (ρ : Nat → Nat) : ∀ g, hsum s.1 s.2.2.1 ρ g < 2 ^ 31 := fun g => by
  have := hsum_le s.1 s.2.2.1 ρ g h.1.2 (fun i hi => (h.2.2.1 i hi).2)
  omega
theorem x_greedy {d : Nat} {S : St} {k w : Int32} {iv : zI} {rv : zR} {lv : zJ} (hT : zTop rv) (h : CB S iv) (hv : VT S) : Ci mX10_greedy (d + 9) [.ref 0, .int k, .int w] iv rv lv (XG (F_greedy S k w).2 (F_greedy S k w).1 iv rv lv) := by
  refine eX10_greedy k w (bX10_greedy_0 k w hT (zcall (x_noText hT) hT ?_))
  rw [h.nt hv]
  have hn := h.2.1
  have r1 : ∀ b : Bool, Ci mX10_refused (d + 8) [.ref 0, .int 1, .int (bI b)] iv rv lv (zP 1 (zu (zu iv 0 12 1) 0 14 (-1)) rv lv) := fun b => x_refused (a := true) (b := b) hT
  unfold F_greedy
  cases e : S.2.1 with
  | none =>
    refine ⟨fun _ => bX10_greedy_20 _ _ _ hT (zcall (x_noSuchHeaps hT) hT (zcall (r1 _) hT ⟨fun q => absurd q (by decide), fun _ => XG.ans (t := 1) rfl h FL.refl⟩)), fun q => absurd (show (1 : Int32) = 0 from q) (by decide)⟩
  | some s =>
    rw [e] at hn
    obtain ⟨cs, c12⟩ := hn
    have vs := hv.2.1 s e
    refine ⟨fun q => absurd rfl q, fun _ => zcall (x_not01 hT) hT ?_⟩
    by_cases hw : w < 0 ∨ 1 < w
    · simp only [hw, decide_true, if_true]
      exact ⟨fun q => absurd (show (1 : Int32) = 0 from q) (by decide), fun _ => bX10_greedy_20 _ _ _ hT (zcall (x_noSuchHeaps hT) hT (zcall (r1 _) hT ⟨fun q => absurd q (by decide), fun _ => XG.ans (t := 1) rfl h FL.refl⟩))⟩
    · simp only [hw, decide_false, if_false]
      refine ⟨fun _ => bX10_greedy_20 _ _ _ hT (zcall (x_noSuchHeaps hT) hT ?_), fun q => absurd rfl q⟩
      by_cases hx : k < 2 ∨ 4 < k
      · simp only [hx, decide_true, if_true]
        exact zcall (x_refused (a := false) (b := true) hT) hT ⟨fun q => absurd (show (1 : Int32) = 0 from q) (by decide), fun _ => XG.ans (t := 2) rfl h FL.refl⟩
      · simp only [hx, decide_false, if_false]
        obtain ⟨j, j1, j2, rfl⟩ := of_k hx
        refine zcall (x_refused (a := false) (b := false) hT) hT ⟨fun _ => ?_, fun q => absurd rfl q⟩
        rw [nI_clamp (by omega)]
        refine zcallV (x_fill hT cs c12 vs j1 j2) ?_
        rintro a _ _ ⟨rfl, rfl, g1, g2, g3, g4⟩
        have fl : FL iv a := fun p hp => g4 p (by omega) (by omega) (by omega)
        refine ⟨hT, fun q => ?_, fun q => ?_⟩
        · rw [if_neg q]
          exact zcall (x_grst hT g1 (by omega) j2 (fun h hh => g3 h (by omega)) (fun g _ => vs.hb _ g)) hT (zcall (x_answer hT) hT (XG.ans (t := 0) rfl h fl))
        · rw [if_pos q]
          exact zcall (x_fspread hT g1 (by omega) j2 (fun h hh => g3 h (by omega)) (fun g _ => vs.hb _ g)) hT (zcall (x_answer hT) hT (XG.ans (t := 0) rfl h fl))
theorem x_greedyOf {d : Nat} {S : St} {k x : Int32} {iv : zI} {rv : zR} {lv : zJ} (hT : zTop rv) (h : CB S iv) (hv : VT S) : Ci mX10_greedyOf (d + 9) [.ref 0, .int k, .int x] iv rv lv (XG (F_greedyOf S k x).2 (F_greedyOf S k x).1 iv rv lv) := by
  refine eX10_greedyOf k x (bX10_greedyOf_0 k x hT (zcall (x_noNumber hT) hT (zcall (x_noSuchHeaps hT) hT ?_)))
  have hn := h.2.1
  unfold F_greedyOf
  rcases nOf_cases S x hv with ⟨hn, hx⟩ | ⟨s, i, hn2, es, hi, rfl⟩
  · rw [hn, h.nn0 hx]
    exact zcall (x_refused (a := true) hT) hT ⟨fun q => absurd (show (1 : Int32) = 0 from q) (by decide), fun _ => XG.ans (t := 1) rfl h FL.refl⟩
  · rw [hn2, h.nn1 hv es hi]
    rw [es] at hn
    obtain ⟨cs, c12⟩ := hn
    have vs := hv.2.1 s es
    have vn := vs.1
    simp only
    by_cases hx : k < 2 ∨ 4 < k
    · simp only [hx, decide_true, if_true]
      exact zcall (x_refused (a := false) (b := true) hT) hT ⟨fun q => absurd (show (1 : Int32) = 0 from q) (by decide), fun _ => XG.ans (t := 2) rfl h FL.refl⟩
    · simp only [hx, decide_false, if_false]
      obtain ⟨j, j1, j2, rfl⟩ := of_k hx
      refine zcall (x_refused (a := false) (b := false) hT) hT ⟨fun _ => ?_, fun q => absurd rfl q⟩
      rw [nI_clamp (show j < 2 ^ 31 by omega)]
      refine zcallV (x_fill hT cs c12 vs j1 j2) ?_
      rintro a _ _ ⟨rfl, rfl, g1, g2, g3, g4⟩
      rw [nI_clamp (show i < 2 ^ 31 by omega)]
      exact ⟨hT, vp_in_nI (by omega) (by decide), zcall (x_answer hT) hT (XG.ans (t := 0) (g2 i hi) h (fun p hp => g4 p (by omega) (by omega) (by omega)))⟩
