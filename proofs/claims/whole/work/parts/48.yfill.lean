/-! THE REFERENCE: filling. -/
/-- what the reference's reckoning leaves as it was -/
def FN (iv a : zI) : Prop := (∀ p, p < 174 ∨ p = 175 ∨ p = 176 ∨ p = 178 ∨ p = 179 ∨ p = 180 ∨ 198 ≤ p → a p = iv p) ∧ ∀ b, b = 1 ∨ b = 2 ∨ b = 4 ∨ b = 7 ∨ b = 19 ∨ b = 21 ∨ b = 51 → a 174 b = iv 174 b
theorem FN.refl {iv : zI} : FN iv iv := ⟨fun _ _ => rfl, fun _ _ => rfl⟩
theorem FN.trans {iv a b : zI} (h : FN iv a) (g : FN a b) : FN iv b := ⟨fun p hp => by rw [g.1 p hp]; exact h.1 p hp, fun q hq => by rw [g.2 q hq]; exact h.2 q hq⟩
theorem FN.of {iv a : zI} (h : ∀ p, p < 177 ∨ p = 178 ∨ p = 179 ∨ p = 180 ∨ 198 ≤ p → a p = iv p) : FN iv a := ⟨fun p hp => h p (by omega), fun b _ => by rw [h 174 (by omega)]⟩
theorem FN.mb {S : St} {iv a : zI} (f : FN iv a) (h : MB S iv) : MB S a := by
  obtain ⟨h1, h2, h3, h4, h5, h6⟩ := h
  obtain ⟨r, k⟩ := f
  have m : ∀ {p off : Nat} {s : Sn}, p = 176 ∨ p = 178 ∨ p = 179 → MS iv p off s → MS a p off s := fun hp hm => by
    unfold MS at hm ⊢
    rw [r _ (by omega)]
    exact hm
  refine MB.mk' ?_ ⟨by rw [k 19 (by omega)]; exact h2.1, fun s hs => m (by omega) (h2.2 s hs)⟩ ⟨by rw [k 21 (by omega)]; exact h3.1, fun j hj => m (by omega) (h3.2 j hj)⟩ (fun i hi => ⟨by rw [r 180 (by omega)]; exact (h4 i hi).1, fun s hs => m (by omega) ((h4 i hi).2 s hs)⟩) ?_ ?_
  · rw [k 4 (by omega), r 175 (by omega)]; exact h1
  · rw [k 7 (by omega), k 2 (by omega), k 1 (by omega)]; exact h5
  · rw [k 51 (by omega), r 198 (by omega)]; exact h6
theorem FN.fm {iv a b : zI} (g : FM iv a) (f : FN a b) : FM iv b := fun p hp => by rw [f.1 p (by omega)]; exact g p hp
theorem YR.fn {S : St} {t : Nat} {y r : Int32} {iv w0 w : zI} {rv : zR} {lv : zJ} (e : y = r) (h : MB S w0) (f0 : FM iv w0) (f : FN w0 w) : YR (sT S t) r iv rv lv y (zu (zu w 174 1 (nI t)) 174 2 (-1)) rv lv := YR.tr' e (f.mb h) (FN.fm f0 f)
theorem y_top {d k : Nat} {s : Nat → Nat} {iv : zI} {rv : zR} {lv : zJ} (hT : zTop rv) (hk : 1 ≤ k) (hk4 : k ≤ 4) (ha : AR iv 182 k s) (hb : ∀ h, h < k → s h < 2 ^ 31) : Ci mX11_top d [.ref 174, .int (nI k)] iv rv lv (zP (nI (mx s k)) iv rv lv) := by
  refine eX11_top _ (bX11_top_0 _ hT ?_)
  have key := zfor (c := k) (P := fun j => 1 ≤ j → Zi mX11_top d 9 [some (.ref 174), some (.int (nI k)), some (.int (nI (mx s j))), some (.int (nI j))] [] iv rv lv (zP (nI (mx s k)) iv rv lv)) ?_ ?_
  · have := key 1 hk (Nat.le_refl _)
    rw [mx_1, ← ha 0 (by omega)] at this
    exact this
  · intro _
    exact bX11_top_9 _ _ _ hT ⟨fun _ => zP.mk rfl, fun z => absurd (nI_le (by omega) (by omega)) z⟩
  · intro j hj ih h1
    have ih := ih (by omega)
    rw [mx] at ih
    have mb : mx s j < 2 ^ 31 := Nat.lt_of_le_of_lt (mx_b (b := 2 ^ 31 - 1) j (fun i hi => by have := hb i (by omega); omega) (by have := hb 0 (by omega); omega)) (by omega)
    refine bX11_top_9 _ _ _ hT ⟨fun z => absurd z (nI_ge hj (by omega)), fun _ => ?_⟩
    rw [nI_clamp (by omega), ha j hj, nI_leI (hb j hj) mb, nI_1]
    refine ⟨vp_in_nI (by omega) (by decide), fun q => ?_, fun q => ?_⟩
    · rw [show max (mx s j) (s j) = mx s j by omega] at ih
      exact ih
    · rw [show max (mx s j) (s j) = s j by omega] at ih
      exact ih
theorem y_spread {d k : Nat} {s : Nat → Nat} {iv : zI} {rv : zR} {lv : zJ} (hT : zTop rv) (hk : 1 ≤ k) (hk4 : k ≤ 4) (ha : AR iv 182 k s) (hb : ∀ h, h < k → s h < 2 ^ 31) : Ci mX11_spread (d + 1) [.ref 174, .int (nI k)] iv rv lv (zP (nI (spr s k)) iv rv lv) := by
  refine eX11_spread _ (bX11_spread_0 _ hT ?_)
  have key := zfor (c := k) (P := fun j => 1 ≤ j → Zi mX11_spread (d + 1) 9 [some (.ref 174), some (.int (nI k)), some (.int (nI (mn s j))), some (.int (nI j))] [] iv rv lv (zP (nI (spr s k)) iv rv lv)) ?_ ?_
  · have := key 1 hk (Nat.le_refl _)
    rw [mn_1, ← ha 0 (by omega)] at this
    exact this
  · intro _
    refine bX11_spread_9 _ _ _ hT ⟨fun _ => zcall (y_top hT hk hk4 ha hb) hT (zP.mk ?_), fun z => absurd (nI_le (by omega) (by omega)) z⟩
    rw [pk_sub (mn_mx s k)]
    rfl
  · intro j hj ih h1
    have ih := ih (by omega)
    rw [mn] at ih
    have mb : mn s j < 2 ^ 31 := mn_b (hb 0 (by omega)) h1
    refine bX11_spread_9 _ _ _ hT ⟨fun z => absurd z (nI_ge hj (by omega)), fun _ => ?_⟩
    rw [nI_clamp (by omega), ha j hj, nI_leI mb (hb j hj), nI_1]
    refine ⟨vp_in_nI (by omega) (by decide), fun q => ?_, fun q => ?_⟩
    · rw [show min (mn s j) (s j) = mn s j by omega] at ih
      exact ih
    · rw [show min (mn s j) (s j) = s j by omega] at ih
      exact ih
theorem y_fills {d k : Nat} {s : Sn} {iv : zI} {rv : zR} {lv : zJ} (hT : zTop rv) (ms : MS iv 176 0 s) (vs : VS s) (hk : 2 ≤ k) (hk4 : k ≤ 4) :
    Cv mX11_fills (d + 3) [.ref 174, .int (nI k)] iv rv lv (fun a b c => b = rv ∧ c = lv ∧ AR a 181 s.1 (gr s.1 k s.2.2.1) ∧ AR a 182 4 (hsum s.1 s.2.2.1 (gr s.1 k s.2.2.1)) ∧ ∀ p, p ≠ 181 → p ≠ 182 → a p = iv p) := by
  have vn := vs.1
  have n1 : iv 176 0 = nI s.1 := ms.1
  refine eX11_fills _ (bX11_fills_0 _ hT ?_)
  have main : ∀ w : zI, (∀ h, h < 4 → w 182 h = nI 0) → (∀ p, p ≠ 182 → w p = iv p) → Zv mX11_fills (d + 3) 22 [some (.ref 174), some (.int (nI k)), some (.int 0), none, none, none] [] w rv lv (fun a b c => b = rv ∧ c = lv ∧ AR a 181 s.1 (gr s.1 k s.2.2.1) ∧ AR a 182 4 (hsum s.1 s.2.2.1 (gr s.1 k s.2.2.1)) ∧ ∀ p, p ≠ 181 → p ≠ 182 → a p = iv p) := by
    intro w g1 g2
    have key := zfor (c := s.1) (P := fun r => ∀ t : zI, AR t 182 4 (fl k s.2.2.1 (un s.1 s.2.2.1) r).1 → (∀ i, i < s.1 → rk s.1 s.2.2.1 i < r → t 181 i = nI ((fl k s.2.2.1 (un s.1 s.2.2.1) r).2 i)) → (∀ p, p ≠ 181 → p ≠ 182 → t p = iv p) → Zv mX11_fills (d + 3) 22 [some (.ref 174), some (.int (nI k)), some (.int (nI r)), none, none, none] [] t rv lv (fun a b c => b = rv ∧ c = lv ∧ AR a 181 s.1 (gr s.1 k s.2.2.1) ∧ AR a 182 4 (hsum s.1 s.2.2.1 (gr s.1 k s.2.2.1)) ∧ ∀ p, p ≠ 181 → p ≠ 182 → a p = iv p)) ?_ ?_
    · exact key 0 (by omega) w (fun h hh => g1 h hh) (fun i _ hi => absurd hi (Nat.not_lt_zero _)) (fun p _ p2 => g2 p p2)
    · intro t b1 b2 b3
      have c0 : t 176 0 = nI s.1 := by rw [b3 176 (by omega) (by omega)]; exact n1
      exact bX11_fills_22 _ _ hT ⟨fun _ => ⟨rfl, rfl, fun i hi => b2 i hi (un_rk _ _ i hi).1, fun h hh => by rw [b1 h hh, fl_hsum], b3⟩, fun z => absurd (by rw [c0]; exact nI_le (by omega) (by omega)) z⟩
    · intro r hr ih t b1 b2 b3
      have t6 : t 176 = iv 176 := b3 176 (by omega) (by omega)
      have c0 : t 176 0 = nI s.1 := by rw [t6]; exact n1
      have hu := un_lt s.1 s.2.2.1 r hr
      have hru := rk_un s.1 s.2.2.1 r hr
      have hl := lh_lt (fl k s.2.2.1 (un s.1 s.2.2.1) r).1 k (by omega)
      have bd : ∀ h, (fl k s.2.2.1 (un s.1 s.2.2.1) r).1 h ≤ 9999 * r := fl_b r (fun j hj => (vs.2.2.1 _ (un_lt _ _ _ (by omega))).2)
      have bd2 : ∀ h, (fl k s.2.2.1 (un s.1 s.2.2.1) r).1 h < 2 ^ 31 := fun h => by have := bd h; omega
      refine bX11_fills_22 _ _ hT ⟨fun z => ?_, fun _ => zcall (y_ranked (n := s.1) (v := s.2.2.1) hT c0 vn.2 (fun q hq => by rw [t6]; exact ms.vals q hq) vs.vb hr) hT ?_⟩
      · rw [c0] at z
        exact absurd z (nI_ge hr (by omega))
      · have k2 := zfor (c := k) (P := fun j => 1 ≤ j → Zv mX11_fills (d + 3) 44 [some (.ref 174), some (.int (nI k)), some (.int (nI r)), some (.int (nI (un s.1 s.2.2.1 r))), some (.int (nI (lh (fl k s.2.2.1 (un s.1 s.2.2.1) r).1 j))), some (.int (nI j))] [] t rv lv (fun a b c => b = rv ∧ c = lv ∧ AR a 181 s.1 (gr s.1 k s.2.2.1) ∧ AR a 182 4 (hsum s.1 s.2.2.1 (gr s.1 k s.2.2.1)) ∧ ∀ p, p ≠ 181 → p ≠ 182 → a p = iv p)) ?_ ?_
        · have := k2 1 (by omega) (Nat.le_refl _)
          simp only [lh, Nat.lt_irrefl, if_false] at this
          exact this
        · intro _
          refine bX11_fills_44 _ _ _ _ _ hT ⟨fun _ => ?_, fun z => absurd (nI_le (by omega) (by omega)) z⟩
          rw [nI_clamp (show un s.1 s.2.2.1 r < 2 ^ 31 by omega), nI_clamp (show lh (fl k s.2.2.1 (un s.1 s.2.2.1) r).1 k < 2 ^ 31 by omega)]
          refine ⟨vp_in_nI (by omega) (by decide), fun t1 e1 => ⟨vp_in_nI (by omega) (by decide), zcall (y_value (n := s.1) (v := s.2.2.1) hT (fun q hq => by rw [e1, zu_row (by omega), t6]; exact ms.vals q hq) vn.2 hu) hT (fun t2 e2 => ?_)⟩⟩
          have v78 : t1 182 (lh (fl k s.2.2.1 (un s.1 s.2.2.1) r).1 k) = nI ((fl k s.2.2.1 (un s.1 s.2.2.1) r).1 (lh (fl k s.2.2.1 (un s.1 s.2.2.1) r).1 k)) := by rw [e1, zu_row (by omega)]; exact b1 _ (by omega)
          rw [v78, nI_add] at e2
          rw [nI_1]
          refine ih t2 (fun h hh => ?_) (fun i hi hir => ?_) (fun p p1 p2 => by rw [e2, zu_row p2, e1, zu_row p1]; exact b3 p p1 p2)
          · simp only [fl]
            by_cases c : h = lh (fl k s.2.2.1 (un s.1 s.2.2.1) r).1 k
            · rw [c, up_eq, e2, zu_eq]
            · rw [up_ne c, e2, zu_k c, e1, zu_row (by omega)]; exact b1 h hh
          · simp only [fl]
            by_cases c : i = un s.1 s.2.2.1 r
            · rw [c, up_eq, e2, zu_row (by omega), e1, zu_eq]
            · have : rk s.1 s.2.2.1 i ≠ r := fun q => c (by rw [← q, (un_rk _ _ i hi).2])
              rw [up_ne c, e2, zu_row (by omega), e1, zu_k c]; exact b2 i hi (by omega)
        · intro j hj ih2 h1
          have ih2 := ih2 (by omega)
          rw [lh] at ih2
          have hl2 := lh_lt (fl k s.2.2.1 (un s.1 s.2.2.1) r).1 j (by omega)
          refine bX11_fills_44 _ _ _ _ _ hT ⟨fun z => absurd z (nI_ge hj (by omega)), fun _ => ?_⟩
          rw [nI_clamp (show j < 2 ^ 31 by omega), nI_clamp (show lh (fl k s.2.2.1 (un s.1 s.2.2.1) r).1 j < 2 ^ 31 by omega), b1 _ (show lh (fl k s.2.2.1 (un s.1 s.2.2.1) r).1 j < 4 by omega), b1 j (by omega), nI_leI (bd2 _) (bd2 _), nI_1]
          refine ⟨vp_in_nI (by omega) (by decide), vp_in_nI (by omega) (by decide), fun q => ?_, fun q => ?_⟩
          · rw [if_neg (by omega)] at ih2
            exact ih2
          · rw [if_pos (by omega)] at ih2
            exact ih2
  have key := zfor (c := 4) (P := fun j => ∀ w : zI, (∀ h, h < j → w 182 h = nI 0) → (∀ p, p ≠ 182 → w p = iv p) → Zv mX11_fills (d + 3) 2 [some (.ref 174), some (.int (nI k)), some (.int (nI j)), none, none, none] [] w rv lv (fun a b c => b = rv ∧ c = lv ∧ AR a 181 s.1 (gr s.1 k s.2.2.1) ∧ AR a 182 4 (hsum s.1 s.2.2.1 (gr s.1 k s.2.2.1)) ∧ ∀ p, p ≠ 181 → p ≠ 182 → a p = iv p)) ?_ ?_
  · exact key 0 (by omega) iv (fun h hh => absurd hh (Nat.not_lt_zero _)) (fun _ _ => rfl)
  · intro w g1 g2
    exact bX11_fills_2 _ _ hT ⟨fun _ => main w g1 g2, fun z => absurd (by decide) z⟩
  · intro j hj ih w g1 g2
    refine bX11_fills_2 _ _ hT ⟨fun z => absurd z (show ¬ nI 4 ≤ nI j from nI_ge hj (by omega)), fun _ => ⟨vp_in_nI hj (by decide), fun w1 e1 => ?_⟩⟩
    rw [nI_clamp (by omega)] at e1
    subst e1
    rw [nI_1]
    refine ih _ (fun h hh => ?_) (fun p hp => by rw [zu_row hp]; exact g2 p hp)
    by_cases c : h = j
    · rw [c, zu_eq]; rfl
    · rw [zu_k c]; exact g1 h (by omega)
theorem y_greedy {d : Nat} {S : St} {k w : Int32} {iv : zI} {rv : zR} {lv : zJ} (hT : zTop rv) (h : MB S iv) (hv : VT S) : Ci mX11_greedy (d + 9) [.ref 174, .int k, .int w] iv rv lv (YR (F_greedy S k w).2 (F_greedy S k w).1 iv rv lv) := by
  refine eX11_greedy k w (bX11_greedy_0 k w hT ?_)
  intro w0 e0
  have h0 : MB S w0 := e0 ▸ h.th
  have f0 : FM iv w0 := e0 ▸ FM.th
  unfold F_greedy
  rw [h0.txt]
  cases e : S.2.1 with
  | none => exact ⟨fun _ => zcall (y_refused hT) hT (YR.tr' rfl h0 f0), fun q => absurd rfl q⟩
  | some s =>
    have ms := h0.2.1.2 s e
    have vs := hv.2.1 s e
    refine ⟨fun q => absurd (show (1 : Int32) = 0 from q) (by decide), fun _ => zcall (y_in hT) hT ?_⟩
    by_cases hw : w < 0 ∨ 1 < w
    · rw [in_f hw]
      simp only [hw, if_true]
      exact ⟨fun q => absurd rfl q, fun _ => zcall (y_refused hT) hT (YR.tr' rfl h0 f0)⟩
    · rw [in_t (fun q => hw (Or.inl q)) (fun q => hw (Or.inr q))]
      simp only [hw, if_false]
      refine ⟨fun _ => zcall (y_isK hT) hT ?_, fun q => absurd (show (1 : Int32) = 0 from q) (by decide)⟩
      by_cases hx : k < 2 ∨ 4 < k
      · rw [in_f hx]
        simp only [hx, if_true]
        exact ⟨fun q => absurd rfl q, fun _ => zcall (y_refused hT) hT (YR.tr' rfl h0 f0)⟩
      · rw [in_t (fun q => hx (Or.inl q)) (fun q => hx (Or.inr q))]
        simp only [hx, if_false]
        obtain ⟨j, j1, j2, rfl⟩ := of_k hx
        refine ⟨fun _ => zcallV (y_fills hT ms vs j1 j2) ?_, fun q => absurd (show (1 : Int32) = 0 from q) (by decide)⟩
        rintro a _ _ ⟨rfl, rfl, g2, g3, g4⟩
        rw [nI_clamp (by omega)]
        have fn : FN w0 a := FN.of (fun p hp => g4 p (by omega) (by omega))
        refine ⟨hT, fun q => ?_, fun q => ?_⟩
        · rw [if_neg q]
          exact zcall (y_top hT (by omega) j2 (fun h hh => g3 h (by omega)) (fun g _ => vs.hb _ g)) hT (zcall (y_good hT) hT (YR.fn rfl h0 f0 fn))
        · rw [if_pos q]
          exact zcall (y_spread hT (by omega) j2 (fun h hh => g3 h (by omega)) (fun g _ => vs.hb _ g)) hT (zcall (y_good hT) hT (YR.fn rfl h0 f0 fn))
theorem y_greedyOf {d : Nat} {S : St} {k x : Int32} {iv : zI} {rv : zR} {lv : zJ} (hT : zTop rv) (h : MB S iv) (hv : VT S) : Ci mX11_greedyOf (d + 9) [.ref 174, .int k, .int x] iv rv lv (YR (F_greedyOf S k x).2 (F_greedyOf S k x).1 iv rv lv) := by
  refine eX11_greedyOf k x (bX11_greedyOf_0 k x hT ?_)
  intro w0 e0
  have h0 : MB S w0 := e0 ▸ h.th
  have f0 : FM iv w0 := e0 ▸ FM.th
  unfold F_greedyOf
  rcases nOf_cases S x hv with ⟨hn, hx⟩ | ⟨s, i, hn, es, hi, rfl⟩
  · rw [hn]
    exact zcall (y_isN0 hT h0 hv hx) hT ⟨fun q => absurd rfl q, fun _ => zcall (y_refused hT) hT (YR.tr' rfl h0 f0)⟩
  · rw [hn]
    have ms := h0.2.1.2 s es
    have vs := hv.2.1 s es
    have vn := vs.1
    simp only
    refine zcall (y_isN1 hT h0 hv es hi) hT ⟨fun _ => zcall (y_isK hT) hT ?_, fun q => absurd (show (1 : Int32) = 0 from q) (by decide)⟩
    by_cases hx : k < 2 ∨ 4 < k
    · rw [in_f hx]
      simp only [hx, if_true]
      exact ⟨fun q => absurd rfl q, fun _ => zcall (y_refused hT) hT (YR.tr' rfl h0 f0)⟩
    · rw [in_t (fun q => hx (Or.inl q)) (fun q => hx (Or.inr q))]
      simp only [hx, if_false]
      obtain ⟨j, j1, j2, rfl⟩ := of_k hx
      refine ⟨fun _ => zcallV (y_fills hT ms vs j1 j2) ?_, fun q => absurd (show (1 : Int32) = 0 from q) (by decide)⟩
      rintro a _ _ ⟨rfl, rfl, g2, g3, g4⟩
      rw [nI_clamp (show j < 2 ^ 31 by omega), nI_clamp (show i < 2 ^ 31 by omega)]
      exact ⟨hT, vp_in_nI (by omega) (by decide), zcall (y_good hT) hT (YR.fn (g2 i hi) h0 f0 (FN.of (fun p hp => g4 p (by omega) (by omega))))⟩
