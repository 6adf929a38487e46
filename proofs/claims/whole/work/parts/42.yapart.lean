/-! THE REFERENCE: apart. -/
theorem y_apart {d : Nat} {S : St} {x y : Int32} {iv : zI} {rv : zR} {lv : zJ} (hT : zTop rv) (h : MB S iv) (hv : VT S) : Ci mX11_apart (d + 9) [.ref 174, .int x, .int y] iv rv lv (YR (F_apart S x y).2 (F_apart S x y).1 iv rv lv) := by
  refine eX11_apart x y (bX11_apart_0 x y hT ?_)
  intro w0 e0
  have h0 : MB S w0 := e0 ▸ h.th
  have f0 : FM iv w0 := e0 ▸ FM.th
  unfold F_apart
  rcases nOf_cases S x hv with ⟨hn, hx⟩ | ⟨s, i, hn, es, hi, rfl⟩
  · rw [hn]
    exact zcall (y_isN0 hT h0 hv hx) hT ⟨fun _ => zcall (y_refused hT) hT (YR.tr' rfl h0 f0), fun q => absurd rfl q⟩
  · rw [hn]
    have ms := h0.2.1.2 s es
    have vs := hv.2.1 s es
    have vn := vs.1
    have vl := vs.2.2.2.2.2
    have mp := ms.plr
    have vb : ∀ p ∈ s.2.2.2.2, p.1 < 10 ∧ p.2 < 10 := fun p hp => by
      have := VP_mem vs.2.2.2.2.1 p hp
      omega
    refine zcall (y_isN1 hT h0 hv es hi) hT ⟨fun q => absurd (show (1 : Int32) = 0 from q) (by decide), fun _ => ?_⟩
    rcases nOf_cases S y hv with ⟨hn2, hx2⟩ | ⟨s2, j, hn2, es2, hj, rfl⟩
    · rw [hn2]
      exact zcall (y_isN0 hT h0 hv hx2) hT ⟨fun q => absurd rfl q, fun _ => zcall (y_refused hT) hT (YR.tr' rfl h0 f0)⟩
    · rw [hn2]
      rw [es] at es2
      cases es2
      simp only
      refine zcall (y_isN1 hT h0 hv es hj) hT ⟨fun _ => zcallQ (y_pairOf hT (Or.inl rfl) mp vl vb (by omega) (by omega)) ?_, fun q => absurd (show (1 : Int32) = 0 from q) (by decide)⟩
      rintro z _ _ _ ⟨hz, rfl, rfl, rfl⟩
      refine ⟨hT, ?_⟩
      rw [mp.1, show (6 : Int32) = nI 6 from rfl, nI_eq (by omega) (by omega)]
      have n3 : ∀ i, i < s.1 → w0 176 (2 + i) = nI (s.2.2.1 i) := fun i hi => by have := ms.2.2.1 i hi; rw [Nat.zero_add] at this; exact this
      have n4 : ∀ i, i < s.1 → w0 176 (12 + i) = nI (s.2.2.2.1 i) := fun i hi => by have := ms.2.2.2.1 i hi; rw [Nat.zero_add] at this; exact this
      have n1 : w0 176 0 = nI s.1 := ms.1
      have n2 : w0 176 1 = nI s.2.1 := ms.2.1
      rcases hz with ⟨ha, p, hp, rfl, he⟩ | ⟨ha, rfl⟩
      · have np : ¬ nI p = -1 := fun q => by
          have : nI p < 0 := by rw [q]; decide
          exact absurd this (nI_pos (by omega))
        refine ⟨fun _ => ?_, fun q => absurd q np⟩
        simp only [ha, Bool.true_eq_false, and_false, if_false]
        refine bX11_apart_60 _ _ _ hT ?_
        rw [nI_eq (by omega) (by omega)]
        by_cases e : i = j
        · simp only [e, if_true]
          exact ⟨fun q => absurd trivial q, fun _ => zcall (y_refused hT) hT (YR.tr' rfl h0 f0)⟩
        · simp only [e, if_false]
          refine ⟨fun _ => zcallV (y_remembers hT h0.hm hv.2.2.1.1 vs hv.2.2.1.2 ms) ?_, fun q => absurd q (by simp)⟩
          rintro w _ _ ⟨rfl, rfl, m1, m2, m3⟩
          refine ⟨hT, fun q => absurd q np, fun _ => ?_⟩
          have r176 : w 176 = w0 176 := m3 176 (by omega) (by omega)
          refine zcallV (y_parts (l := s.2.2.2.2) hT (by unfold PL at mp ⊢; rw [r176]; exact mp) vl hp) ?_
          rintro w1 _ _ ⟨rfl, rfl, g1, g2, g3⟩
          have tg : togP s.2.2.2.2 i j = s.2.2.2.2.eraseIdx p := by
            unfold togP
            rw [ha, if_pos rfl, he]
          refine ⟨hT, zcall (y_good hT) hT ?_⟩
          rw [g1.1, ← tg]
          rw [← tg] at g1
          refine YR.act rfl h0 f0 ?_ (fun b hb => by rw [g3 174 (by omega)]; exact m2 b hb) (fun a a1 a2 a3 _ => by rw [g3 a a3]; exact m3 a a1 a2) ?_ es
          · unfold HM MS at m1 ⊢
            rw [g3 174 (by omega), g3 178 (by omega)]
            exact m1
          · refine PL.ms (s := apS s i j) g1 ?_ ?_ (fun t ht => ?_) (fun t ht => ?_)
            · rw [g2 0 (by omega), r176]; exact n1
            · rw [g2 1 (by omega), r176]; exact n2
            · have ht : t < s.1 := ht
              rw [g2 _ (by omega), r176]; exact n3 t ht
            · have ht : t < s.1 := ht
              rw [g2 _ (by omega), r176]; exact n4 t ht
      · refine ⟨fun q => absurd rfl q, fun _ => ?_⟩
        by_cases h6 : s.2.2.2.2.length = 6
        · simp only [h6, ha, and_self, if_true]
          exact ⟨fun q => absurd trivial q, fun _ => zcall (y_refused hT) hT (YR.tr' rfl h0 f0)⟩
        · simp only [h6, false_and, if_false]
          refine ⟨fun _ => ?_, fun q => absurd q (by simp)⟩
          refine bX11_apart_60 _ _ _ hT ?_
          rw [nI_eq (by omega) (by omega)]
          by_cases e : i = j
          · simp only [e, if_true]
            exact ⟨fun q => absurd trivial q, fun _ => zcall (y_refused hT) hT (YR.tr' rfl h0 f0)⟩
          · simp only [e, if_false]
            refine ⟨fun _ => zcallV (y_remembers hT h0.hm hv.2.2.1.1 vs hv.2.2.1.2 ms) ?_, fun q => absurd q (by simp)⟩
            rintro w _ _ ⟨rfl, rfl, m1, m2, m3⟩
            refine ⟨hT, fun _ => ?_, fun q => absurd trivial q⟩
            have r176 : w 176 = w0 176 := m3 176 (by omega) (by omega)
            rw [r176, mp.1, z_2, pk_mul, z_23, nI_add, nI_clamp (show 23 + 2 * s.2.2.2.2.length < 2 ^ 31 by omega)]
            refine ⟨vp_in_nI (by omega) (by decide), fun w1 e1 => ?_⟩
            have c1 : w1 176 22 = nI s.2.2.2.2.length := by rw [e1, zu_k (by omega), r176]; exact mp.1
            rw [c1, pk_mul, nI_add, nI_1, nI_clamp (show 23 + 2 * s.2.2.2.2.length + 1 < 2 ^ 31 by omega)]
            refine ⟨vp_in_nI (by omega) (by decide), fun w2 e2 w3 e3 => ?_⟩
            have c2 : w2 176 22 = nI s.2.2.2.2.length := by rw [e2, zu_k (by omega)]; exact c1
            rw [c2, nI_1] at e3
            have c3 : w3 176 22 = nI (s.2.2.2.2.length + 1) := by rw [e3, zu_eq]
            have tg : togP s.2.2.2.2 i j = s.2.2.2.2 ++ [(i, j)] := by
              unfold togP
              rw [ha, if_neg (by simp)]
            have base : ∀ b, b ≠ 22 → b ≠ 23 + 2 * s.2.2.2.2.length → b ≠ 23 + 2 * s.2.2.2.2.length + 1 → w3 176 b = w0 176 b := fun b b1 b2 b3 => by rw [e3, zu_k b1, e2, zu_k b3, e1, zu_k b2, r176]
            have rr : ∀ a, a ≠ 176 → w3 a = w a := fun a ha => by rw [e3, zu_row ha, e2, zu_row ha, e1, zu_row ha]
            have g1 : PL 176 w3 (togP s.2.2.2.2 i j) := by
              rw [tg]
              refine ⟨by rw [c3, List.length_append]; rfl, fun k hk => ?_⟩
              rw [List.length_append] at hk
              have hk : k < 2 * (s.2.2.2.2.length + 1) := hk
              rcases Nat.lt_or_ge k (2 * s.2.2.2.2.length) with q | q
              · rw [base _ (by omega) (by omega) (by omega), mp.2 k q]
                unfold pl
                simp only [List.getD_eq_getElem?_getD]
                rw [List.getElem?_append_left (by omega)]
              · rcases Nat.lt_or_ge k (2 * s.2.2.2.2.length + 1) with q2 | q2
                · have : k = 2 * s.2.2.2.2.length := by omega
                  rw [this, pl_0, e3, zu_k (by omega), e2, zu_k (by omega), e1, zu_eq]
                  simp
                · have : k = 2 * s.2.2.2.2.length + 1 := by omega
                  rw [this, pl_1, ← Nat.add_assoc, e3, zu_k (by omega), e2, zu_eq]
                  simp
            rw [g1.1]
            refine zcall (y_good hT) hT (YR.act rfl h0 f0 ?_ (fun b hb => by rw [rr 174 (by omega)]; exact m2 b hb) (fun a a1 a2 a3 _ => by rw [rr a a3]; exact m3 a a1 a2) ?_ es)
            · unfold HM MS at m1 ⊢
              rw [rr 174 (by omega), rr 178 (by omega)]
              exact m1
            · refine PL.ms (s := apS s i j) g1 ?_ ?_ (fun t ht => ?_) (fun t ht => ?_)
              · rw [base 0 (by omega) (by omega) (by omega)]; exact n1
              · rw [base 1 (by omega) (by omega) (by omega)]; exact n2
              · have ht : t < s.1 := ht
                rw [base _ (by omega) (by omega) (by omega)]; exact n3 t ht
              · have ht : t < s.1 := ht
                rw [base _ (by omega) (by omega) (by omega)]; exact n4 t ht
