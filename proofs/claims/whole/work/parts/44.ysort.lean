/-! THE REFERENCE: sort; what can be stays so. -/
theorem cn_t {p : Nat → Bool} {j : Nat} (h : p j = true) : cn p (j + 1) = cn p j + 1 := by simp [cn, h]
theorem cn_f {p : Nat → Bool} {j : Nat} (h : p j = false) : cn p (j + 1) = cn p j := by simp [cn, h]
theorem rk_inj {n : Nat} {v : Nat → Nat} {a b : Nat} (ha : a < n) (hb : b < n) (h : rk n v a = rk n v b) : a = b := by
  rw [← (un_rk n v a ha).2, h, (un_rk n v b hb).2]
theorem pl_rk {n : Nat} {v : Nat → Nat} {k : Nat} {l : List (Nat × Nat)} (hk : k < 2 * l.length) : pl (rkP n v l) k = rk n v (pl l k) := by
  unfold pl rkP
  simp only [List.getD_eq_getElem?_getD, List.getElem?_map]
  rw [List.getElem?_eq_getElem (by omega)]
  split <;> rfl
theorem y_sort {d : Nat} {S : St} {iv : zI} {rv : zR} {lv : zJ} (hT : zTop rv) (h : MB S iv) (hv : VT S) : Ci mX11_sort (d + 9) [.ref 174] iv rv lv (YR (F_sort S).2 (F_sort S).1 iv rv lv) := by
  refine eX11_sort (bX11_sort_0 hT ?_)
  intro w0 e0
  have h0 : MB S w0 := e0 ▸ h.th
  have f0 : FM iv w0 := e0 ▸ FM.th
  unfold F_sort
  rw [h0.txt]
  cases es : S.2.1 with
  | none => exact ⟨fun q => absurd rfl q, fun _ => zcall (y_refused hT) hT (YR.tr' rfl h0 f0)⟩
  | some s =>
    have ms := h0.2.1.2 s es
    have vs := hv.2.1 s es
    have vn := vs.1
    have vl := vs.2.2.2.2.2
    have n1 : w0 176 0 = nI s.1 := ms.1
    have n2 : w0 176 1 = nI s.2.1 := ms.2.1
    refine ⟨fun _ => zcallV (y_remembers hT h0.hm hv.2.2.1.1 vs hv.2.2.1.2 ms) ?_, fun q => absurd (show (1 : Int32) = 0 from q) (by decide)⟩
    rintro w rv1 lv1 ⟨er, el, m1, m2, m3⟩
    have er := er.symm
    have el := el.symm
    subst er el
    have r176 : w 176 = w0 176 := m3 176 (by omega) (by omega)
    refine ⟨hT, ?_⟩
    simp only
    have cnt : cn (fun i => !(rk s.1 s.2.2.1 i == i)) s.1 = cn (fun j => !(un s.1 s.2.2.1 j == j)) s.1 := cn_congr _ (fun j hj => by
      have a := un_rk s.1 s.2.2.1 j hj
      have b := rk_un s.1 s.2.2.1 j hj
      by_cases c : rk s.1 s.2.2.1 j = j
      · have c2 : un s.1 s.2.2.1 j = j := by rw [← c, a.2, c]
        rw [beq_iff_eq.mpr c, beq_iff_eq.mpr c2]
      · have c2 : ¬ un s.1 s.2.2.1 j = j := fun q => c (by rw [← q, b, q])
        rw [beq_eq_false_iff_ne.mpr c, beq_eq_false_iff_ne.mpr c2])
    -- the last loop
    have last : ∀ u : zI, (∀ a, a ≠ 197 → u a = w a) → u 197 0 = nI s.1 → u 197 1 = nI s.2.1 → (∀ t, t < s.1 → u 197 (2 + t) = nI (s.2.2.1 (un s.1 s.2.2.1 t))) → (∀ t, t < s.1 → u 197 (12 + t) = nI (s.2.2.2.1 (un s.1 s.2.2.1 t))) → PL 197 u (rkP s.1 s.2.2.1 s.2.2.2.2) → Zi mX11_sort (d + 9) 163 [some (.ref 174), some (.int (nI (cn (fun i => !(rk s.1 s.2.2.1 i == i)) s.1))), some (.int 0), none] [] u rv lv (YR (sA S s (sortS s)) (nI (cn (fun j => !(un s.1 s.2.2.1 j == j)) s.1)) iv rv lv) := by
      intro u g1 g2 g3 g4 g5 g6
      have key := zfor (c := 35) (P := fun j => ∀ t : zI, (∀ k, k < j → t 176 k = u 197 k) → (∀ a, a ≠ 176 → t a = u a) → Zi mX11_sort (d + 9) 163 [some (.ref 174), some (.int (nI (cn (fun i => !(rk s.1 s.2.2.1 i == i)) s.1))), some (.int (nI j)), none] [] t rv lv (YR (sA S s (sortS s)) (nI (cn (fun j => !(un s.1 s.2.2.1 j == j)) s.1)) iv rv lv)) ?_ ?_
      · exact key 0 (by omega) u (fun k hk => absurd hk (Nat.not_lt_zero _)) (fun _ _ => rfl)
      · intro t b1 b2
        refine bX11_sort_163 _ _ hT ⟨fun _ => zcall (y_good hT) hT (YR.act (by rw [cnt]) h0 f0 ?_ (fun b hb => ?_) (fun a a1 a2 a3 a4 => ?_) ?_ es), fun z => absurd (by decide) z⟩
        · unfold HM MS at m1 ⊢
          rw [b2 174 (by omega), b2 178 (by omega), g1 174 (by omega), g1 178 (by omega)]
          exact m1
        · rw [b2 174 (by omega), g1 174 (by omega)]; exact m2 b hb
        · rw [b2 a a3, g1 a a4]; exact m3 a a1 a2
        · refine PL.ms (s := sortS s) ⟨?_, fun k hk => ?_⟩ ?_ ?_ (fun t ht => ?_) (fun t ht => ?_)
          · rw [b1 22 (by omega)]; exact g6.1
          · have hl : (rkP s.1 s.2.2.1 s.2.2.2.2).length ≤ 6 := by
              unfold rkP
              rw [List.length_map]
              exact vl
            have hk : k < 2 * (rkP s.1 s.2.2.1 s.2.2.2.2).length := hk
            rw [b1 _ (by omega)]; exact g6.2 k hk
          · rw [b1 0 (by omega)]; exact g2
          · rw [b1 1 (by omega)]; exact g3
          · have ht : t < s.1 := ht
            rw [b1 _ (by omega)]; exact g4 t ht
          · have ht : t < s.1 := ht
            rw [b1 _ (by omega)]; exact g5 t ht
      · intro j hj ih t b1 b2
        refine bX11_sort_163 _ _ hT ⟨fun z => absurd z (show ¬ nI 35 ≤ nI j from nI_ge hj (by omega)), fun _ => ?_⟩
        rw [nI_clamp (show j < 2 ^ 31 by omega), nI_1]
        refine ⟨vp_in_nI hj (by decide), fun t1 e1 => ?_⟩
        subst e1
        refine ih _ (fun k hk => ?_) (fun a ha => by rw [zu_row ha]; exact b2 a ha)
        by_cases c : k = j
        · rw [c, zu_eq, b2 197 (by omega)]
        · rw [zu_k c]; exact b1 k (by omega)
    -- pairs
    have prs : ∀ u : zI, (∀ a, a ≠ 197 → u a = w a) → u 197 0 = nI s.1 → u 197 1 = nI s.2.1 → (∀ t, t < s.1 → u 197 (2 + t) = nI (s.2.2.1 (un s.1 s.2.2.1 t))) → (∀ t, t < s.1 → u 197 (12 + t) = nI (s.2.2.2.1 (un s.1 s.2.2.1 t))) → u 197 22 = nI s.2.2.2.2.length → Zi mX11_sort (d + 9) 120 [some (.ref 174), some (.int (nI (cn (fun i => !(rk s.1 s.2.2.1 i == i)) s.1))), some (.int 0), none] [] u rv lv (YR (sA S s (sortS s)) (nI (cn (fun j => !(un s.1 s.2.2.1 j == j)) s.1)) iv rv lv) := by
      intro u g1 g2 g3 g4 g5 g6
      have plb : ∀ k, k < 2 * s.2.2.2.2.length → pl s.2.2.2.2 k < s.1 := fun k hk => by
        have := VP_mem vs.2.2.2.2.1 _ (getD_mem (show k / 2 < s.2.2.2.2.length by omega))
        unfold pl
        split <;> omega
      have key := zfor (c := 2 * s.2.2.2.2.length) (P := fun j => ∀ t : zI, (∀ k, k < j → t 197 (23 + k) = nI (rk s.1 s.2.2.1 (pl s.2.2.2.2 k))) → (∀ k, k < 23 → t 197 k = u 197 k) → (∀ a, a ≠ 197 → t a = w a) → Zi mX11_sort (d + 9) 120 [some (.ref 174), some (.int (nI (cn (fun i => !(rk s.1 s.2.2.1 i == i)) s.1))), some (.int (nI j)), none] [] t rv lv (YR (sA S s (sortS s)) (nI (cn (fun j => !(un s.1 s.2.2.1 j == j)) s.1)) iv rv lv)) ?_ ?_
      · exact key 0 (by omega) u (fun k hk => absurd hk (Nat.not_lt_zero _)) (fun _ _ => rfl) g1
      · intro t b1 b2 b3
        have c22 : t 176 22 = nI s.2.2.2.2.length := by rw [b3 176 (by omega), r176]; exact ms.plr.1
        refine bX11_sort_120 _ _ hT ⟨fun _ => last t b3 ?_ ?_ (fun q hq => ?_) (fun q hq => ?_) ⟨?_, fun k hk => ?_⟩, fun z => ?_⟩
        · rw [b2 0 (by omega)]; exact g2
        · rw [b2 1 (by omega)]; exact g3
        · rw [b2 _ (by omega)]; exact g4 q hq
        · rw [b2 _ (by omega)]; exact g5 q hq
        · rw [b2 22 (by omega), g6]
          unfold rkP
          rw [List.length_map]
        · have hk : k < 2 * s.2.2.2.2.length := by
            unfold rkP at hk
            rw [List.length_map] at hk
            exact hk
          rw [b1 k hk, pl_rk hk]
        · rw [c22, z_2, pk_mul] at z
          exact absurd (nI_le (by omega) (by omega)) z
      · intro j hj ih t b1 b2 b3
        have c22 : t 176 22 = nI s.2.2.2.2.length := by rw [b3 176 (by omega), r176]; exact ms.plr.1
        refine bX11_sort_120 _ _ hT ⟨fun z => ?_, fun _ => ?_⟩
        · rw [c22, z_2, pk_mul] at z
          exact absurd z (nI_ge hj (by omega))
        · rw [z_23, nI_add, nI_clamp (show 23 + j < 2 ^ 31 by omega), nI_1, b3 176 (by omega), r176, ms.plr.2 j hj]
          refine ⟨vp_in_nI (by omega) (by decide), zcall (y_rank (n := s.1) (v := s.2.2.1) hT (by rw [b3 176 (by omega), r176]; exact n1) vn.2 (fun q hq => by rw [b3 176 (by omega), r176]; exact ms.vals q hq) vs.vb (plb j hj)) hT ?_⟩
          intro t1 e1
          subst e1
          refine ih _ (fun k hk => ?_) (fun k hk => ?_) (fun a ha => by rw [zu_row ha]; exact b3 a ha)
          · by_cases c : k = j
            · rw [c, zu_eq]
            · rw [zu_k (by omega)]; exact b1 k (by omega)
          · rw [zu_k (by omega)]; exact b2 k hk
    -- values, keeps
    have vals : ∀ u : zI, (∀ a, a ≠ 197 → u a = w a) → (∀ k, k < 35 → u 197 k = w0 176 k) → Zi mX11_sort (d + 9) 52 [some (.ref 174), some (.int 0), some (.int 0), none] [] u rv lv (YR (sA S s (sortS s)) (nI (cn (fun j => !(un s.1 s.2.2.1 j == j)) s.1)) iv rv lv) := by
      intro u g1 g2
      have key := zfor (c := s.1) (P := fun j => ∀ t : zI, (∀ q, q < j → t 197 (2 + rk s.1 s.2.2.1 q) = nI (s.2.2.1 q)) → (∀ q, q < j → t 197 (12 + rk s.1 s.2.2.1 q) = nI (s.2.2.2.1 q)) → (∀ k, k < 2 ∨ 22 ≤ k → k < 35 → t 197 k = w0 176 k) → (∀ a, a ≠ 197 → t a = w a) → Zi mX11_sort (d + 9) 52 [some (.ref 174), some (.int (nI (cn (fun i => !(rk s.1 s.2.2.1 i == i)) j))), some (.int (nI j)), none] [] t rv lv (YR (sA S s (sortS s)) (nI (cn (fun j => !(un s.1 s.2.2.1 j == j)) s.1)) iv rv lv)) ?_ ?_
      · exact key 0 (by omega) u (fun k hk => absurd hk (Nat.not_lt_zero _)) (fun k hk => absurd hk (Nat.not_lt_zero _)) (fun k _ hk => g2 k hk) g1
      · intro t b1 b2 b3 b4
        have c0 : t 176 0 = nI s.1 := by rw [b4 176 (by omega), r176]; exact n1
        refine bX11_sort_52 _ _ hT ⟨fun _ => prs t b4 ?_ ?_ (fun q hq => ?_) (fun q hq => ?_) ?_, fun z => absurd (by rw [c0]; exact nI_le (by omega) (by omega)) z⟩
        · rw [b3 0 (by omega) (by omega)]; exact n1
        · rw [b3 1 (by omega) (by omega)]; exact n2
        · have := b1 (un s.1 s.2.2.1 q) (un_lt _ _ _ hq)
          rw [rk_un _ _ _ hq] at this
          exact this
        · have := b2 (un s.1 s.2.2.1 q) (un_lt _ _ _ hq)
          rw [rk_un _ _ _ hq] at this
          exact this
        · rw [b3 22 (by omega) (by omega)]; exact ms.plr.1
      · intro j hj ih t b1 b2 b3 b4
        have t6 : t 176 = w0 176 := by rw [b4 176 (by omega), r176]
        have c0 : t 176 0 = nI s.1 := by rw [t6]; exact n1
        have rb := (un_rk s.1 s.2.2.1 j hj).1
        refine bX11_sort_52 _ _ hT ⟨fun z => ?_, fun _ => ?_⟩
        · rw [c0] at z
          exact absurd z (nI_ge hj (by omega))
        · refine zcall (y_rank (n := s.1) (v := s.2.2.1) hT c0 vn.2 (fun q hq => by rw [t6]; exact ms.vals q hq) vs.vb hj) hT (zcall (y_value (n := s.1) (v := s.2.2.1) hT (fun q hq => by rw [t6]; exact ms.vals q hq) vn.2 hj) hT ?_)
          rw [z_2, nI_add, nI_clamp (show 2 + rk s.1 s.2.2.1 j < 2 ^ 31 by omega), z_12, nI_add, nI_add, nI_clamp (show 12 + rk s.1 s.2.2.1 j < 2 ^ 31 by omega), nI_clamp (show 12 + j < 2 ^ 31 by omega), nI_1]
          refine ⟨vp_in_nI (by omega) (by decide), fun t1 e1 => ⟨vp_in_nI (by omega) (by decide), vp_in_nI (by omega) (by decide), fun t2 e2 => ?_⟩⟩
          have x1 : t1 176 (12 + j) = nI (s.2.2.2.1 j) := by rw [e1, zu_row (by omega), t6]; exact ms.keeps j hj
          rw [x1] at e2
          have st : Zi mX11_sort (d + 9) 52 [some (.ref 174), some (.int (nI (cn (fun i => !(rk s.1 s.2.2.1 i == i)) (j + 1)))), some (.int (nI (j + 1))), none] [] t2 rv lv (YR (sA S s (sortS s)) (nI (cn (fun j => !(un s.1 s.2.2.1 j == j)) s.1)) iv rv lv) := by
            refine ih t2 (fun q hq => ?_) (fun q hq => ?_) (fun k k1 k2 => ?_) (fun a ha => by rw [e2, zu_row ha, e1, zu_row ha]; exact b4 a ha)
            · by_cases c : q = j
              · have rb2 := (un_rk s.1 s.2.2.1 j hj).1
                rw [c, e2, zu_k (by omega), e1, zu_eq]
              · have nq : ¬ rk s.1 s.2.2.1 q = rk s.1 s.2.2.1 j := fun z => c (rk_inj (by omega) hj z)
                have rbq := (un_rk s.1 s.2.2.1 q (by omega)).1
                rw [e2, zu_k (by omega), e1, zu_k (by omega)]
                exact b1 q (by omega)
            · by_cases c : q = j
              · rw [c, e2, zu_eq]
              · have nq : ¬ rk s.1 s.2.2.1 q = rk s.1 s.2.2.1 j := fun z => c (rk_inj (by omega) hj z)
                have rbq := (un_rk s.1 s.2.2.1 q (by omega)).1
                rw [e2, zu_k (by omega), e1, zu_k (by omega)]
                exact b2 q (by omega)
            · rw [e2, zu_k (by omega), e1, zu_k (by omega)]
              exact b3 k k1 k2
          rw [nI_eq (by omega) (by omega)]
          refine ⟨fun c => ?_, fun c => ?_⟩
          · rw [nI_1]
            rw [cn_t (by rw [beq_eq_false_iff_ne.mpr c]; rfl)] at st
            exact st
          · rw [z_0, nI_add, nI_1]
            rw [cn_f (by rw [beq_iff_eq.mpr c]; rfl)] at st
            exact st
    have key := zfor (c := 35) (P := fun j => ∀ t : zI, (∀ k, k < j → t 197 k = w0 176 k) → (∀ a, a ≠ 197 → t a = w a) → Zi mX11_sort (d + 9) 26 [some (.ref 174), some (.int 0), some (.int (nI j)), none] [] t rv lv (YR (sA S s (sortS s)) (nI (cn (fun j => !(un s.1 s.2.2.1 j == j)) s.1)) iv rv lv)) ?_ ?_
    · exact key 0 (by omega) w (fun k hk => absurd hk (Nat.not_lt_zero _)) (fun _ _ => rfl)
    · intro t b1 b2
      exact bX11_sort_26 _ _ hT ⟨fun _ => vals t b2 b1, fun z => absurd (by decide) z⟩
    · intro j hj ih t b1 b2
      refine bX11_sort_26 _ _ hT ⟨fun z => absurd z (show ¬ nI 35 ≤ nI j from nI_ge hj (by omega)), fun _ => ?_⟩
      rw [nI_clamp (show j < 2 ^ 31 by omega), nI_1]
      refine ⟨vp_in_nI hj (by decide), fun t1 e1 => ?_⟩
      subst e1
      refine ih _ (fun k hk => ?_) (fun a ha => by rw [zu_row ha]; exact b2 a ha)
      by_cases c : k = j
      · rw [c, zu_eq, b2 176 (by omega), r176]
      · rw [zu_k c]; exact b1 k (by omega)
theorem VT_undo {S : St} (h : VT S) : VT (F_undo S).2 := by
  unfold F_undo
  cases e : S.2.1 with
  | none => exact h.tr (by omega)
  | some s =>
    cases e2 : S.2.2.1 with
    | nil => exact h.tr (by omega)
    | cons s1 t =>
      obtain ⟨h1, h2, h3, h4, h5, h6, h7⟩ := h
      rw [e2] at h3
      refine ⟨h1, fun q eq => ?_, ⟨?_, fun q hq => h3.2 q (List.mem_cons_of_mem _ hq)⟩, h4, fun eq => (by cases eq), ⟨h6.1, Nat.zero_le _⟩, h7⟩
      · have eq : some s1 = some q := eq
        cases eq
        exact h3.2 _ List.mem_cons_self
      · have := h3.1
        simp only [List.length_cons] at this
        show t.length ≤ 10
        omega
theorem VT_image {S : St} {x : Int32} (h : VT S) : VT (F_image S x).2 := by
  unfold F_image
  cases e : S.2.1 with
  | none => exact h.tr (by omega)
  | some s =>
    by_cases hx : x < 0 ∨ 2 ≤ x
    · simp only [hx, if_true]
      exact h.tr (by omega)
    · simp only [hx, if_false]
      have hs := h.2.1 s e
      rw [← e]
      obtain ⟨h1, h2, h3, h4, h5, h6, h7⟩ := h
      refine ⟨h1, h2, h3, fun i q eq => ?_, fun eq => ?_, ⟨h6.1, Nat.zero_le _⟩, h7⟩
      · simp only at eq
        split at eq
        · rw [e] at eq
          cases eq
          exact hs
        · exact h4 i q eq
      · have eq : S.2.1 = none := eq
        rw [e] at eq
        cases eq
theorem VT_back {S : St} {x : Int32} (h : VT S) : VT (F_back S x).2 := by
  unfold F_back
  by_cases hx : x < 0 ∨ 2 ≤ x
  · simp only [hx, if_true]
    exact h.tr (by omega)
  · simp only [hx, if_false]
    cases e : S.2.2.2.1 x.toNatClampNeg with
    | none => exact h.tr (by omega)
    | some s =>
      have hs := h.2.2.2.1 _ s e
      obtain ⟨h1, h2, h3, h4, h5, h6, h7⟩ := h
      refine ⟨h1, fun q eq => ?_, ⟨Nat.zero_le _, fun q hq => (by cases hq)⟩, h4, fun eq => (by cases eq), ⟨h6.1, Nat.zero_le _⟩, h7⟩
      have eq : some s = some q := eq
      cases eq
      exact hs
