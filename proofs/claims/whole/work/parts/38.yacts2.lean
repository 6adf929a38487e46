/-! THE REFERENCE: acts by one change; undo, images; what is told. -/
theorem YR.act {S : St} {s s' : Sn} {y r : Int32} {iv w0 w : zI} {rv : zR} {lv : zJ} (e : y = r) (h0 : MB S w0) (f0 : FM iv w0) (hH : HM w ((s :: S.2.2.1).take 10)) (hk : ∀ b, b ≠ 21 → w 174 b = w0 174 b) (hr : ∀ a, a ≠ 174 → a ≠ 178 → a ≠ 176 → a ≠ 197 → w a = w0 a) (hs : MS w 176 0 s') (ht : S.2.1 = some s) : YR (sA S s s') r iv rv lv y (zu (zu w 174 1 0) 174 2 (-1)) rv lv := by
  have hw : ∀ a, a ≠ 174 → a ≠ 178 → a ≠ 176 → w a = (fun p q => if p = 197 then w p q else w0 p q) a := fun a a1 a2 a3 => by
    funext q
    by_cases c : a = 197
    · simp [c]
    · simp only [c, if_false]
      rw [hr a a1 a2 a3 c]
  have h0' : MB S (fun p q => if p = 197 then w p q else w0 p q) := h0
  obtain ⟨b1, b2⟩ := MB.act (iv := fun p q => if p = 197 then w p q else w0 p q) h0' hH (fun b b1 _ => hk b b1) hw hs ht
  refine ⟨e, rfl, rfl, b1, fun a ha => ?_⟩
  rw [b2 a ha, ← f0 a ha]
  funext q
  have c : a ≠ 197 := by omega
  simp [c]
theorem y_changes {d a : Nat} {x : Int32} {s : Sn} {hist : List Sn} {iv : zI} {rv : zR} {lv : zJ} (hT : zTop rv) (hH : HM iv hist) (hl : hist.length ≤ 10) (hvs : VS s) (hvh : ∀ q ∈ hist, VS q) (hs : MS iv 176 0 s) (ha : a < 35) :
    Ci mX11_changes (d + 1) [.ref 174, .int (nI a), .int x] iv rv lv (fun y iv' rv' lv' => y = iv 176 a ∧ rv' = rv ∧ lv' = lv ∧ HM iv' ((s :: hist).take 10) ∧ (∀ b, b ≠ 21 → iv' 174 b = iv 174 b) ∧ (∀ p, p ≠ 174 → p ≠ 178 → p ≠ 176 → iv' p = iv p) ∧ iv' 176 a = x ∧ ∀ b, b ≠ a → iv' 176 b = iv 176 b) := by
  refine eX11_changes _ _ (bX11_changes_0 _ _ hT (zcallV (y_remembers hT hH hl hvs hvh hs) ?_))
  rintro w _ _ ⟨rfl, rfl, m1, m2, m3⟩
  rw [nI_clamp (by omega)]
  refine ⟨hT, vp_in_nI ha (by decide), fun w1 e1 => ?_⟩
  have rr : ∀ a, a ≠ 176 → w1 a = w a := fun a ha => by rw [e1, zu_row ha]
  have hm : HM w1 ((s :: hist).take 10) := by
    unfold HM MS
    rw [rr 174 (by omega), rr 178 (by omega)]
    exact m1
  exact ⟨by rw [m3 176 (by omega) (by omega)], rfl, rfl, hm, fun b hb => by rw [rr 174 (by omega)]; exact m2 b hb, fun p p1 p2 p3 => by rw [rr p p3]; exact m3 p p1 p2, by rw [e1, zu_eq], fun b hb => by rw [e1, zu_k hb, m3 176 (by omega) (by omega)]⟩
theorem in_t {x a b : Int32} (h1 : ¬ x < a) (h2 : ¬ b < x) : decide (a ≤ x ∧ x ≤ b) = true := by
  simp only [decide_eq_true_eq]
  exact ⟨Int32.not_lt.mp h1, Int32.not_lt.mp h2⟩
theorem in_f {x a b : Int32} (h : x < a ∨ b < x) : decide (a ≤ x ∧ x ≤ b) = false := by
  simp only [decide_eq_false_iff_not]
  rintro ⟨q1, q2⟩
  rcases h with q | q
  · exact absurd q1 (Int32.not_le.mpr q)
  · exact absurd q2 (Int32.not_le.mpr q)
theorem y_become {d : Nat} {S : St} {x v : Int32} {iv : zI} {rv : zR} {lv : zJ} (hT : zTop rv) (h : MB S iv) (hv : VT S) : Ci mX11_become (d + 9) [.ref 174, .int x, .int v] iv rv lv (YR (F_become S x v).2 (F_become S x v).1 iv rv lv) := by
  refine eX11_become x v (bX11_become_0 x v hT ?_)
  intro w0 e0
  have h0 : MB S w0 := e0 ▸ h.th
  have f0 : FM iv w0 := e0 ▸ FM.th
  unfold F_become
  rcases nOf_cases S x hv with ⟨hn, hx⟩ | ⟨s, i, hn, es, hi, rfl⟩
  · rw [hn]
    exact zcall (y_isN0 hT h0 hv hx) hT ⟨fun q => absurd rfl q, fun _ => zcall (y_refused hT) hT (YR.tr' rfl h0 f0)⟩
  · rw [hn]
    have ms := h0.2.1.2 s es
    have vs := hv.2.1 s es
    have vn := vs.1
    refine zcall (y_isN1 hT h0 hv es hi) hT ⟨fun _ => zcall (y_in hT) hT ?_, fun q => absurd (show (1 : Int32) = 0 from q) (by decide)⟩
    by_cases hx : v < 1 ∨ 9999 < v
    · rw [in_f hx]
      simp only [hx, if_true]
      exact ⟨fun _ => zcall (y_refused hT) hT (YR.tr' rfl h0 f0), fun q => absurd rfl q⟩
    · rw [in_t (fun q => hx (Or.inl q)) (fun q => hx (Or.inr q))]
      simp only [hx, if_false]
      refine ⟨fun q => absurd (show (1 : Int32) = 0 from q) (by decide), fun _ => ?_⟩
      obtain ⟨j, j1, j2, rfl⟩ := of_val hx
      rw [z_2, nI_add]
      refine zcallQ (y_changes (a := 2 + i) hT h0.hm hv.2.2.1.1 vs hv.2.2.1.2 ms (by omega)) ?_
      rintro _ w _ _ ⟨rfl, rfl, rfl, m1, m2, m3, m4, m5⟩
      obtain ⟨n1, n2, n3, n4, n5, n6⟩ := ms
      have ms' : MS w 176 0 (becS s i j) := by
        refine ⟨by rw [m5 0 (by omega)]; exact n1, by rw [m5 _ (by omega)]; exact n2, fun t ht => ?_, fun t ht => by have ht : t < s.1 := ht; rw [m5 _ (by omega)]; exact n4 t ht, by rw [m5 _ (by omega)]; exact n5, fun p hp => by rw [m5 _ (by omega), m5 _ (by omega)]; exact n6 p hp⟩
        have ht : t < s.1 := ht
        show w 176 (0 + 2 + t) = nI (if t = i then j else s.2.2.1 t)
        by_cases c : t = i
        · rw [if_pos c, c, show 0 + 2 + i = 2 + i by omega, m4]
        · rw [if_neg c, m5 _ (by omega)]; exact n3 t ht
      refine ⟨hT, zcall (y_good hT) hT ?_⟩
      rw [nI_clamp (by omega)]
      exact YR.act (by have := n3 i hi; rw [show 0 + 2 + i = 2 + i by omega] at this; exact this) h0 f0 m1 m2 (fun a a1 a2 a3 _ => m3 a a1 a2 a3) ms' es
theorem of_h4 {v : Int32} (hx : ¬ (v < 0 ∨ 4 ≤ v)) : ∃ j : Nat, j < 4 ∧ v = nI j := by
  rcases pk_ix v (show 4 < 2 ^ 31 by omega) with h | h | ⟨j, hj, rfl⟩
  · exact absurd (Or.inl h) hx
  · exact absurd (Or.inr h) hx
  · exact ⟨j, hj, rfl⟩
theorem MS_kp {w w0 : zI} {s : Sn} {i x : Nat} (ms : MS w0 176 0 s) (hn : s.1 ≤ 10) (m4 : w 176 (12 + i) = nI x) (hi : i < s.1) (m5 : ∀ b, b ≠ 12 + i → w 176 b = w0 176 b) : MS w 176 0 (kpS s i x) := by
  obtain ⟨n1, n2, n3, n4, n5, n6⟩ := ms
  refine ⟨by rw [m5 0 (by omega)]; exact n1, by rw [m5 _ (by omega)]; exact n2, fun t ht => by have ht : t < s.1 := ht; rw [m5 _ (by omega)]; exact n3 t ht, fun t ht => ?_, by rw [m5 _ (by omega)]; exact n5, fun p hp => by rw [m5 _ (by omega), m5 _ (by omega)]; exact n6 p hp⟩
  have ht : t < s.1 := ht
  show w 176 (0 + 12 + t) = nI (if t = i then x else s.2.2.2.1 t)
  by_cases c : t = i
  · rw [if_pos c, c, show 0 + 12 + i = 12 + i by omega, m4]
  · rw [if_neg c, m5 _ (by omega)]; exact n4 t ht
theorem kp_ans {x : Nat} (hx : x ≤ 4) : (¬ nI x = 0 → nI x - 1 = kpI x) ∧ (nI x = 0 → -2 = kpI x) := by
  have : ∀ x, x < 5 → (¬ nI x = 0 → nI x - 1 = kpI x) ∧ (nI x = 0 → -2 = kpI x) := by decide
  exact this x (by omega)
theorem y_keepIn {d : Nat} {S : St} {x v : Int32} {iv : zI} {rv : zR} {lv : zJ} (hT : zTop rv) (h : MB S iv) (hv : VT S) : Ci mX11_keepIn (d + 9) [.ref 174, .int x, .int v] iv rv lv (YR (F_keepIn S x v).2 (F_keepIn S x v).1 iv rv lv) := by
  refine eX11_keepIn x v (bX11_keepIn_0 x v hT ?_)
  intro w0 e0
  have h0 : MB S w0 := e0 ▸ h.th
  have f0 : FM iv w0 := e0 ▸ FM.th
  unfold F_keepIn
  rcases nOf_cases S x hv with ⟨hn, hx⟩ | ⟨s, i, hn, es, hi, rfl⟩
  · rw [hn]
    exact zcall (y_isN0 hT h0 hv hx) hT ⟨fun q => absurd rfl q, fun _ => zcall (y_refused hT) hT (YR.tr' rfl h0 f0)⟩
  · rw [hn]
    have ms := h0.2.1.2 s es
    have vs := hv.2.1 s es
    have vn := vs.1
    have vk := vs.2.2.2.1 i hi
    have old : w0 176 (12 + i) = nI (s.2.2.2.1 i) := by
      have := ms.2.2.2.1 i hi
      rw [show 0 + 12 + i = 12 + i by omega] at this
      exact this
    refine zcall (y_isN1 hT h0 hv es hi) hT ⟨fun _ => ?_, fun q => absurd (show (1 : Int32) = 0 from q) (by decide)⟩
    by_cases hf : v = -2
    · subst hf
      refine ⟨fun _ => bX11_keepIn_40 _ _ hT ⟨fun q => absurd rfl q, fun _ => ?_⟩, fun q => absurd rfl q⟩
      rw [z_12, nI_add]
      refine zcallQ (y_changes (a := 12 + i) hT h0.hm hv.2.2.1.1 vs hv.2.2.1.2 ms (by omega)) ?_
      rintro _ w _ _ ⟨rfl, rfl, rfl, m1, m2, m3, m4, m5⟩
      rw [old]
      have e := kp_ans vk
      have ms' : MS w 176 0 (kpS s i 0) := MS_kp ms vn.2 m4 hi m5
      simp only [if_true]
      exact ⟨hT, fun q => zcall (y_good hT) hT (YR.act (e.1 q) h0 f0 m1 m2 (fun a a1 a2 a3 _ => m3 a a1 a2 a3) ms' es), fun q => zcall (y_good hT) hT (YR.act (e.2 q) h0 f0 m1 m2 (fun a a1 a2 a3 _ => m3 a a1 a2 a3) ms' es)⟩
    · refine ⟨fun q => absurd q hf, fun _ => zcall (y_in hT) hT ?_⟩
      simp only [hf, if_false]
      by_cases hx : v < 0 ∨ 4 ≤ v
      · rw [in_f (hx.elim Or.inl (fun q => Or.inr (Int32.lt_of_lt_of_le (show (3 : Int32) < 4 by decide) q)))]
        simp only [hx, if_true]
        exact ⟨fun q => absurd rfl q, fun _ => zcall (y_refused hT) hT (YR.tr' rfl h0 f0)⟩
      · obtain ⟨j, j1, rfl⟩ := of_h4 hx
        rw [in_t (b := 3) (nI_pos (by omega)) (show ¬ nI 3 < nI j from Int32.not_lt.mpr (nI_le (by omega) (by omega)))]
        simp only [hx, if_false]
        refine ⟨fun _ => bX11_keepIn_40 _ _ hT ⟨fun _ => ?_, fun q => absurd q hf⟩, fun q => absurd (show (1 : Int32) = 0 from q) (by decide)⟩
        rw [z_12, nI_add, nI_1]
        refine zcallQ (y_changes (a := 12 + i) hT h0.hm hv.2.2.1.1 vs hv.2.2.1.2 ms (by omega)) ?_
        rintro _ w _ _ ⟨rfl, rfl, rfl, m1, m2, m3, m4, m5⟩
        rw [old, nI_clamp (show j < 2 ^ 31 by omega)]
        have e := kp_ans vk
        have ms' : MS w 176 0 (kpS s i (j + 1)) := MS_kp ms vn.2 m4 hi m5
        exact ⟨hT, fun q => zcall (y_good hT) hT (YR.act (e.1 q) h0 f0 m1 m2 (fun a a1 a2 a3 _ => m3 a a1 a2 a3) ms' es), fun q => zcall (y_good hT) hT (YR.act (e.2 q) h0 f0 m1 m2 (fun a a1 a2 a3 _ => m3 a a1 a2 a3) ms' es)⟩
theorem y_heaps {d : Nat} {S : St} {x : Int32} {iv : zI} {rv : zR} {lv : zJ} (hT : zTop rv) (h : MB S iv) (hv : VT S) : Ci mX11_heaps (d + 9) [.ref 174, .int x] iv rv lv (YR (F_heaps S x).2 (F_heaps S x).1 iv rv lv) := by
  refine eX11_heaps x (bX11_heaps_0 x hT ?_)
  intro w0 e0
  have h0 : MB S w0 := e0 ▸ h.th
  have f0 : FM iv w0 := e0 ▸ FM.th
  unfold F_heaps
  rw [h0.txt]
  cases e : S.2.1 with
  | none => exact ⟨fun q => absurd rfl q, fun _ => zcall (y_refused hT) hT (YR.tr' rfl h0 f0)⟩
  | some s =>
    have ms := h0.2.1.2 s e
    have vs := hv.2.1 s e
    have vn := vs.1
    refine ⟨fun _ => zcall (y_isK hT) hT ?_, fun q => absurd (show (1 : Int32) = 0 from q) (by decide)⟩
    by_cases hx : x < 2 ∨ 4 < x
    · rw [in_f hx]
      simp only [hx, if_true]
      exact ⟨fun _ => zcall (y_refused hT) hT (YR.tr' rfl h0 f0), fun q => absurd rfl q⟩
    · rw [in_t (fun q => hx (Or.inl q)) (fun q => hx (Or.inr q))]
      simp only [hx, if_false]
      refine ⟨fun q => absurd (show (1 : Int32) = 0 from q) (by decide), fun _ => ?_⟩
      obtain ⟨j, j1, j2, rfl⟩ := of_k hx
      rw [z_1]
      refine zcallQ (y_changes (a := 1) hT h0.hm hv.2.2.1.1 vs hv.2.2.1.2 ms (by omega)) ?_
      rintro _ w _ _ ⟨rfl, rfl, rfl, m1, m2, m3, m4, m5⟩
      obtain ⟨n1, n2, n3, n4, n5, n6⟩ := ms
      have ms' : MS w 176 0 (hpS s j) := ⟨by rw [m5 0 (by omega)]; exact n1, m4, fun t ht => by rw [m5 _ (by omega)]; exact n3 t ht, fun t ht => by rw [m5 _ (by omega)]; exact n4 t ht, by rw [m5 _ (by omega)]; exact n5, fun p hp => by rw [m5 _ (by omega), m5 _ (by omega)]; exact n6 p hp⟩
      refine ⟨hT, zcall (y_good hT) hT ?_⟩
      rw [nI_clamp (by omega)]
      exact YR.act n2 h0 f0 m1 m2 (fun a a1 a2 a3 _ => m3 a a1 a2 a3) ms' e
theorem y_sized {d : Nat} {S : St} {x : Int32} {iv : zI} {rv : zR} {lv : zJ} (hT : zTop rv) (h : MB S iv) (hv : VT S) : Ci mX11_sized (d + 9) [.ref 174, .int x] iv rv lv (YR (F_sized S x).2 (F_sized S x).1 iv rv lv) := by
  refine eX11_sized x (bX11_sized_0 x hT ?_)
  intro w0 e0
  have h0 : MB S w0 := e0 ▸ h.th
  have f0 : FM iv w0 := e0 ▸ FM.th
  unfold F_sized
  rcases nOf_cases S x hv with ⟨hn, hx⟩ | ⟨s, i, hn, es, hi, rfl⟩
  · rw [hn]
    exact zcall (y_isN0 hT h0 hv hx) hT ⟨fun _ => zcall (y_refused hT) hT (YR.tr' rfl h0 f0), fun q => absurd rfl q⟩
  · rw [hn]
    have ms := h0.2.1.2 s es
    have vs := hv.2.1 s es
    have vn := vs.1
    refine zcall (y_isN1 hT h0 hv es hi) hT ⟨fun q => absurd (show (1 : Int32) = 0 from q) (by decide), fun _ => ?_⟩
    refine zcall (y_ranked hT ms.1 vn.2 (fun i hi => by have := ms.2.2.1 i hi; rw [Nat.zero_add] at this; exact this) (fun i hi => by have := (vs.2.2.1 i hi).2; omega) hi) hT ?_
    exact zcall (y_good hT) hT (YR.tr' rfl h0 f0)
theorem y_fault {d : Nat} {S : St} {iv : zI} {rv : zR} {lv : zJ} (hT : zTop rv) (h : MB S iv) : Ci mX11_fault d [.ref 174] iv rv lv (YR S (nI S.2.2.2.2.1.1) iv rv lv) := by
  refine eX11_fault (bX11_fault_0 hT ?_)
  intro w0 e0
  have h0 : MB S w0 := e0 ▸ h.th
  exact ⟨h0.2.2.2.2.1.1, rfl, rfl, h0, e0 ▸ FM.th⟩
theorem y_where {d : Nat} {S : St} {iv : zI} {rv : zR} {lv : zJ} (hT : zTop rv) (h : MB S iv) : Ci mX11_where d [.ref 174] iv rv lv (YR S S.2.2.2.2.1.2.1 iv rv lv) := by
  refine eX11_where (bX11_where_0 hT ?_)
  intro w0 e0
  have h0 : MB S w0 := e0 ▸ h.th
  exact ⟨h0.2.2.2.2.1.2.1, rfl, rfl, h0, e0 ▸ FM.th⟩
theorem y_bytes {d : Nat} {S : St} {iv : zI} {rv : zR} {lv : zJ} (hT : zTop rv) (h : MB S iv) : Ci mX11_bytes d [.ref 174] iv rv lv (YR S (nI S.1.1) iv rv lv) := by
  refine eX11_bytes (bX11_bytes_0 hT ?_)
  intro w0 e0
  have h0 : MB S w0 := e0 ▸ h.th
  exact ⟨h0.1.1, rfl, rfl, h0, e0 ▸ FM.th⟩
theorem y_trouble {d : Nat} {S : St} {iv : zI} {rv : zR} {lv : zJ} (hT : zTop rv) (h : MB S iv) : Ci mX11_trouble d [.ref 174] iv rv lv (YR S (nI S.2.2.2.2.1.2.2) iv rv lv) := by
  refine eX11_trouble (bX11_trouble_0 hT ?_)
  intro w0 e0
  have h0 : MB S w0 := e0 ▸ h.th
  exact ⟨h0.2.2.2.2.1.2.2, rfl, rfl, h0, e0 ▸ FM.th⟩
theorem y_granted {d t : Nat} (ht : t < 2 ^ 31) {iv : zI} {rv : zR} {lv : zJ} (hT : zTop rv) : Ci mX11_granted d [.ref 174, .int (nI t)] iv rv lv (zP (bI (t == 0)) (zu (zu iv 174 1 (nI t)) 174 2 (-1)) rv lv) := by
  refine eX11_granted _ (bX11_granted_0 _ hT ?_)
  intro w1 e1 w2 e2
  subst e1 e2
  by_cases c : t = 0
  · subst c
    exact ⟨fun q => absurd rfl q, fun _ => zP.mk rfl⟩
  · have c2 : (t == 0) = false := by simpa using c
    rw [c2]
    exact ⟨fun _ => zP.mk rfl, fun q => absurd q (nI_ne0 (by omega) (by omega))⟩
