/-! THE REFERENCE: the search. -/
def SM (w : zI) (st : SS) : Prop := (w 174 34 = nI (sVis st) ∧ w 174 35 = nI (sLea st) ∧ w 174 36 = nI (sFin st) ∧ w 174 38 = bI (sPrf st)) ∧ (0 < sFin st → w 174 33 = nI (sLst st) ∧ w 174 37 = nI (sSid st)) ∧ ∀ j, j < sFin st → w 190 j = nI (sFo st j) ∧ w 191 j = nI (sFa st j)
def FT (L : Nat) (iv a : zI) : Prop := (∀ p, p < 174 ∨ (174 < p ∧ p < 184) ∨ 191 < p → a p = iv p) ∧ (∀ b, b < 33 ∨ 38 < b → a 174 b = iv 174 b) ∧ (∀ q, q ≤ L → a 184 q = iv 184 q) ∧ ∀ q, q < 10 * (L + 1) → a 185 q = iv 185 q ∧ a 186 q = iv 186 q ∧ a 187 q = iv 187 q
theorem FT.refl {L : Nat} {iv : zI} : FT L iv iv := ⟨fun _ _ => rfl, fun _ _ => rfl, fun _ _ => rfl, fun _ _ => ⟨rfl, rfl, rfl⟩⟩
theorem FT.trans {L : Nat} {iv a b : zI} (h : FT L iv a) (g : FT L a b) : FT L iv b := ⟨fun p hp => by rw [g.1 p hp]; exact h.1 p hp, fun q hq => by rw [g.2.1 q hq]; exact h.2.1 q hq, fun q hq => by rw [g.2.2.1 q hq]; exact h.2.2.1 q hq, fun q hq => ⟨by rw [(g.2.2.2 q hq).1]; exact (h.2.2.2 q hq).1, by rw [(g.2.2.2 q hq).2.1]; exact (h.2.2.2 q hq).2.1, by rw [(g.2.2.2 q hq).2.2]; exact (h.2.2.2 q hq).2.2⟩⟩
theorem FT.rm {L M c : Nat} {iv a : zI} {f : Nat → It} (h : FT L iv a) (hM : M ≤ L) (hc : c ≤ 10) (hR : RM iv M c f) : RM a M c f := by
  refine ⟨by rw [h.2.2.1 M hM]; exact hR.1, fun j hj => ?_⟩
  obtain ⟨a1, a2, a3⟩ := h.2.2.2 (10 * M + j) (by omega)
  rw [a1, a2, a3]
  exact hR.2 j hj
theorem FT.mono {L : Nat} {iv a : zI} (h : FT (L + 1) iv a) : FT L iv a := ⟨h.1, h.2.1, fun q hq => h.2.2.1 q (by omega), fun q hq => h.2.2.2 q (by omega)⟩
theorem FV.ft {L : Nat} {iv a : zI} (h : FV (L + 1) iv a) : FT L iv a := ⟨fun p hp => h.1 p (by omega), fun b _ => by rw [h.1 174 (by omega)], fun q hq => h.2.1 q (by omega), fun q hq => h.2.2 q (by omega)⟩
theorem FT.fn {L : Nat} {iv a : zI} (h : FT L iv a) : FN iv a := ⟨fun p hp => h.1 p (by omega), fun b hb => h.2.1 b (by omega)⟩
theorem y_leaf {d L c v : Nat} {f : Nat → It} {st : SS} {s : Sn} {iv : zI} {rv : zR} {lv : zJ} (hT : zTop rv) (hL : L < 10) (hR : RM iv L (c + 1) f) (hc : c + 1 ≤ 10) (ms : MS iv 176 0 s) (vs : VS s) (hS : SM iv st) (hv2 : v < 2 ^ 31) (hl : sLea st < 512) (hf : sFin st ≤ sLea st) (hls : LB st) :
    Cv mX11_leaf (d + 2) [.ref 174, .int (nI L), .int (nI v)] iv rv lv (fun a b c' => b = rv ∧ c' = lv ∧ SM a (lf (sTp s) st v (sd f c)) ∧ FT L iv a) := by
  have vn := vs.1
  obtain ⟨⟨s1, s2, s3, s4⟩, s6, s7⟩ := hS
  have smb : sm s.2.2.1 s.1 ≤ 9999 * s.1 := sm_le s.1 (fun i hi => (vs.2.2.1 i hi).2)
  refine eX11_leaf _ _ (bX11_leaf_0 _ _ hT ?_)
  intro w1 e1
  rw [s2, nI_1] at e1
  have k1 : ∀ b, b ≠ 35 → w1 174 b = iv 174 b := fun b hb => by rw [e1, zu_k hb]
  have r1 : ∀ p, p ≠ 174 → w1 p = iv p := fun p hp => by rw [e1, zu_row hp]
  have l1 : w1 174 35 = nI (sLea st + 1) := by rw [e1, zu_eq]
  have fin : ∀ (w : zI) (st' : SS), (∀ p, p ≠ 174 → p ≠ 190 → p ≠ 191 → w p = iv p) → (∀ b, b < 33 ∨ 38 < b → w 174 b = iv 174 b) → SM (zu w 174 38 (bI (v == sTp s))) st' → ∃ Q2 : Int32 → zI → zR → zJ → Prop, Ci mX11_total (d + 1) [.ref 174] w rv lv Q2 ∧ ∀ (v7 : Int32) (a : zI) (b : zR) (c : zJ), Q2 v7 a b c → zTop b ∧ ((¬ nI v = (v7 - v7 / 2 * 2) → ∀ w8 : zI, w8 = zu a 174 38 0 → (b = rv ∧ c = lv ∧ SM w8 st' ∧ FT L iv w8)) ∧ (nI v = (v7 - v7 / 2 * 2) → ∀ w8 : zI, w8 = zu a 174 38 1 → (b = rv ∧ c = lv ∧ SM w8 st' ∧ FT L iv w8))) := by
    intro w st' h1 h2 h3
    refine zcall (y_total (n := s.1) (v := s.2.2.1) hT (by rw [h1 176 (by omega) (by omega) (by omega)]; exact ms.1) vn.2 (fun i hi => by rw [h1 176 (by omega) (by omega) (by omega)]; exact ms.vals i hi)) hT ?_
    rw [z_2, pk_rem (by omega) (by omega) (by omega), nI_eq hv2 (by omega)]
    have ff : ∀ x : Int32, FT L iv (zu w 174 38 x) := fun x => ⟨fun p hp => by rw [zu_row (by omega)]; exact h1 p (by omega) (by omega) (by omega), fun b hb => by rw [zu_k (by omega)]; exact h2 b hb, fun q hq => by rw [zu_row (by omega), h1 184 (by omega) (by omega) (by omega)], fun q hq => by rw [zu_row (by omega), zu_row (by omega), zu_row (by omega), h1 185 (by omega) (by omega) (by omega), h1 186 (by omega) (by omega) (by omega), h1 187 (by omega) (by omega) (by omega)]; exact ⟨rfl, rfl, rfl⟩⟩
    refine ⟨fun z w8 e8 => ?_, fun z w8 e8 => ?_⟩
    · rw [beq_eq_false_iff_ne.mpr z] at h3
      subst e8
      exact ⟨rfl, rfl, h3, ff _⟩
    · rw [beq_iff_eq.mpr z] at h3
      subst e8
      exact ⟨rfl, rfl, h3, ff _⟩
  have better : (sFin st = 0 ∨ v < sLst st) → Zv mX11_leaf (d + 2) 30 [some (.ref 174), some (.int (nI L)), some (.int (nI v)), some (.int (nI (10 * L))), none] [] w1 rv lv (fun a b c' => b = rv ∧ c' = lv ∧ SM a (lf (sTp s) st v (sd f c)) ∧ FT L iv a) := by
    intro q
    refine bX11_leaf_30 _ _ _ hT ?_
    intro w2 e2
    have f2 : w2 174 36 = nI (sFin st) := by rw [e2, zu_k (by decide), k1 36 (by decide)]; exact s3
    rw [f2, nI_clamp (by omega)]
    refine ⟨vp_in_nI (by omega) (by decide), fun w3 e3 => ?_⟩
    have f3 : w3 174 36 = nI (sFin st) := by rw [e3, zu_row (by omega)]; exact f2
    have v3 : w3 174 34 = nI (sVis st) := by rw [e3, zu_row (by omega), e2, zu_k (by decide), k1 34 (by decide)]; exact s1
    rw [f3, v3, nI_clamp (by omega), nI_clamp (show 10 * L < 2 ^ 31 by omega)]
    refine ⟨vp_in_nI (by omega) (by decide), fun w4 e4 w5 e5 => ⟨vp_in_nI (by omega) (by decide), fun w6 e6 => ?_⟩⟩
    have f4 : w4 174 36 = nI (sFin st) := by rw [e4, zu_row (by omega)]; exact f3
    rw [f4, nI_1] at e5
    have rr : ∀ p, p ≠ 174 → p ≠ 190 → p ≠ 191 → w6 p = iv p := fun p p1 p2 p3 => by rw [e6, zu_row p1, e5, zu_row p1, e4, zu_row p3, e3, zu_row p2, e2, zu_row p1, r1 p p1]
    have kk : ∀ b, b ≠ 33 → b ≠ 35 → b ≠ 36 → b ≠ 37 → w6 174 b = iv 174 b := fun b b3 b5 b6 b7 => by rw [e6, zu_k b7, e5, zu_k b6, e4, zu_row (by omega), e3, zu_row (by omega), e2, zu_k b3, k1 b b5]
    have t6 : w6 174 37 = nI (sd f 0) := by
      rw [e6, zu_eq, e5, zu_row (by omega), e4, zu_row (by omega), e3, zu_row (by omega), e2, zu_row (by omega), r1 186 (by omega)]
      have := (hR.2 0 (by omega)).2.1
      rw [Nat.add_zero] at this
      exact this
    have key := zfor (c := c) (P := fun k => ∀ w : zI, w 174 37 = nI (sd f k) → (∀ p, p ≠ 174 → w p = w6 p) → (∀ b, b ≠ 37 → w 174 b = w6 174 b) → Zv mX11_leaf (d + 2) 81 [some (.ref 174), some (.int (nI L)), some (.int (nI v)), some (.int (nI (10 * L))), some (.int (nI (k + 1)))] [] w rv lv (fun a b c' => b = rv ∧ c' = lv ∧ SM a (lf (sTp s) st v (sd f c)) ∧ FT L iv a)) ?_ ?_
    · exact key 0 (by omega) w6 t6 (fun _ _ => rfl) (fun _ _ => rfl)
    · intro w h1 h2 h3
      have m0 : w 184 L = nI (c + 1) := by rw [h2 184 (by omega), rr 184 (by omega) (by omega) (by omega)]; exact hR.1
      refine bX11_leaf_81 _ _ _ _ hT ?_
      rw [nI_clamp (show L < 2 ^ 31 by omega), m0]
      refine ⟨vp_in_nI (by omega) (by decide), fun _ => ?_, fun z => absurd (nI_le (by omega) (by omega)) z⟩
      refine fin w _ (fun p p1 p2 p3 => by rw [h2 p p1]; exact rr p p1 p2 p3) (fun b hb => by rw [h3 b (by omega)]; exact kk b (by omega) (by omega) (by omega) (by omega)) ?_
      unfold lf
      rw [if_pos q]
      refine ⟨⟨?_, ?_, ?_, ?_⟩, fun _ => ⟨?_, ?_⟩, fun j hj => ⟨?_, ?_⟩⟩
      · rw [zu_k (by decide), h3 34 (by decide), kk 34 (by decide) (by decide) (by decide) (by decide)]; exact s1
      · rw [zu_k (by decide), h3 35 (by decide), e6, zu_k (by decide), e5, zu_k (by decide), e4, zu_row (by omega), e3, zu_row (by omega), e2, zu_k (by decide)]; exact l1
      · rw [zu_k (by decide), h3 36 (by decide), e6, zu_k (by decide), e5, zu_eq]
      · rw [zu_eq]
      · rw [zu_k (by decide), h3 33 (by decide), e6, zu_k (by decide), e5, zu_k (by decide), e4, zu_row (by omega), e3, zu_row (by omega), e2, zu_eq]
      · rw [zu_k (by decide)]; exact h1
      · have hj : j < sFin st + 1 := hj
        show zu w 174 38 _ 190 j = nI (up (sFo st) (sFin st) v j)
        rw [zu_row (by omega), h2 190 (by omega), e6, zu_row (by omega), e5, zu_row (by omega), e4, zu_row (by omega), e3]
        by_cases z : j = sFin st
        · rw [z, zu_eq, up_eq]
        · rw [zu_k z, up_ne z, e2, zu_row (by omega), r1 190 (by omega)]; exact (s7 j (by omega)).1
      · have hj : j < sFin st + 1 := hj
        show zu w 174 38 _ 191 j = nI (up (sFa st) (sFin st) (sVis st) j)
        rw [zu_row (by omega), h2 191 (by omega), e6, zu_row (by omega), e5, zu_row (by omega), e4]
        by_cases z : j = sFin st
        · rw [z, zu_eq, up_eq]
        · rw [zu_k z, up_ne z, e3, zu_row (by omega), e2, zu_row (by omega), r1 191 (by omega)]; exact (s7 j (by omega)).2
    · intro k hk ih w h1 h2 h3
      have m0 : w 184 L = nI (c + 1) := by rw [h2 184 (by omega), rr 184 (by omega) (by omega) (by omega)]; exact hR.1
      have m7 : w 187 (10 * L + (k + 1)) = nI (f (k + 1)).2.2 := by rw [h2 187 (by omega), rr 187 (by omega) (by omega) (by omega)]; exact (hR.2 (k + 1) (by omega)).2.2
      refine bX11_leaf_81 _ _ _ _ hT ?_
      rw [nI_clamp (show L < 2 ^ 31 by omega), m0, nI_add, nI_clamp (show 10 * L + (k + 1) < 2 ^ 31 by omega), m7, h1, bI_or, nI_1]
      refine ⟨vp_in_nI (by omega) (by decide), fun z => absurd z (nI_ge (by omega) (by omega)), fun _ => ⟨vp_in_nI (by omega) (by decide), fun w7 e7 => ?_⟩⟩
      exact ih w7 (by rw [e7, zu_eq]; rfl) (fun p hp => by rw [e7, zu_row hp, h2 p hp]) (fun b hb => by rw [e7, zu_k hb, h3 b hb])
  rw [k1 36 (by decide), s3, show (10 : Int32) = nI 10 from rfl, pk_mul, z_0, nI_eq (by omega) (by omega)]
  refine ⟨fun z => better (Or.inl z), fun z => ?_⟩
  have fp : 0 < sFin st := by omega
  rw [k1 33 (by decide), (s6 fp).1, nI_leI (hls fp) hv2]
  refine ⟨fun q => ?_, fun q => better (Or.inr (by omega))⟩
  have nq : ¬ (sFin st = 0 ∨ v < sLst st) := by omega
  refine fin w1 _ (fun p p1 _ _ => r1 p p1) (fun b hb => k1 b (by omega)) ?_
  unfold lf
  rw [if_neg nq]
  refine ⟨⟨?_, ?_, ?_, ?_⟩, fun _ => ?_, fun j hj => ?_⟩
  · rw [zu_k (by decide), k1 34 (by decide)]; exact s1
  · rw [zu_k (by decide)]; exact l1
  · rw [zu_k (by decide), k1 36 (by decide)]; exact s3
  · rw [zu_eq]
  · rw [zu_k (by decide), zu_k (by decide), k1 33 (by decide), k1 37 (by decide)]; exact s6 fp
  · rw [zu_row (by omega), zu_row (by omega), r1 190 (by omega), r1 191 (by omega)]; exact s7 j hj
theorem y_visits {s : Sn} {rv : zR} {lv : zJ} (hT : zTop rv) (vs : VS s) : ∀ (c : Nat) (d L B : Nat) (f : Nat → It) (st : SS) (w : zI), L + (c + 1) ≤ 10 → RM w L (c + 1) f → srt f (c + 1) → BI f (c + 1) B → B * 2 ^ c ≤ 9999 * 512 → vsum f (c + 1) % 2 = sTp s → SI (sTp s) st → SM w st → LB st → sLea st + 2 ^ c ≤ 512 → MS w 176 0 s →
    Cv mX11_visits (d + c + 6) [.ref 174, .int (nI L)] w rv lv (fun a b c' => b = rv ∧ c' = lv ∧ SM a (sv (sTp s) (c + 1) f st) ∧ FT L w a) := by
  have ht : sTp s < 2 := by show sm s.2.2.1 s.1 % 2 < 2; omega
  intro c
  induction c with
  | zero =>
    intro d L B f st w hL hR hs hb hB hm hI hS hLB hl ms
    have b0 := hb 0 (by omega)
    refine eX11_visits _ (bX11_visits_0 _ hT ?_)
    rw [hS.1.2.2.2]
    cases hp : sPrf st with
    | true =>
      refine ⟨fun z => absurd (show (1 : Int32) = 0 from z) (by decide), fun _ => ⟨rfl, rfl, ?_, FT.refl⟩⟩
      rw [sv, hp, if_pos rfl]
      exact hS
    | false =>
      refine ⟨fun _ w1 e1 => ?_, fun z => absurd rfl z⟩
      rw [hS.1.1, nI_1] at e1
      have r1 : ∀ p, p ≠ 174 → w1 p = w p := fun p hp => by rw [e1, zu_row hp]
      have hR1 : RM w1 L 1 f := by
        unfold RM
        rw [r1 184 (by omega), r1 185 (by omega), r1 186 (by omega), r1 187 (by omega)]
        exact hR
      have hS1 : SM w1 (vs1 st) := by
        obtain ⟨⟨s1, s2, s3, s4⟩, s6, s7⟩ := hS
        refine ⟨⟨by rw [e1, zu_eq]; rfl, by rw [e1, zu_k (by decide)]; exact s2, by rw [e1, zu_k (by decide)]; exact s3, by rw [e1, zu_k (by decide)]; exact s4⟩, fun z => by rw [e1, zu_k (by decide), zu_k (by decide)]; exact s6 z, fun j hj => by rw [r1 190 (by omega), r1 191 (by omega)]; exact s7 j hj⟩
      have f1 : FT L w w1 := ⟨fun p hp => r1 p (by omega), fun b hb => by rw [e1, zu_k (by omega)], fun q hq => by rw [r1 184 (by omega)], fun q hq => by rw [r1 185 (by omega), r1 186 (by omega), r1 187 (by omega)]; exact ⟨rfl, rfl, rfl⟩⟩
      have a1 := (hR1.2 0 (by omega)).1
      rw [Nat.add_zero] at a1
      refine bX11_visits_28 _ _ _ _ hT ?_
      rw [show (10 : Int32) = nI 10 from rfl, pk_mul, nI_clamp (show L < 2 ^ 31 by omega), nI_clamp (show 10 * L < 2 ^ 31 by omega), hR1.1, a1, show nI (f 0).1 - 0 = nI ((f 0).1 - oth f 0) from pk_sub (a := (f 0).1) (b := 0) (Nat.zero_le _)]
      refine ⟨vp_in_nI (by omega) (by decide), fun _ => ⟨fun _ => ⟨vp_in_nI (by omega) (by decide), zcallV (y_leaf (d := d + 3) (f := f) (c := 0) (st := vs1 st) hT (by omega) hR1 (by omega) (by unfold MS; rw [r1 176 (by omega)]; exact ms) vs hS1 (by omega) (by show sLea st < 512; omega) (by exact hI.1) hLB) ?_⟩, fun z => absurd rfl z⟩, fun z => absurd (show nI 1 ≤ nI 1 from nI_le (by omega) (by omega)) z⟩
      rintro a _ _ ⟨rfl, rfl, g1, g2⟩
      refine ⟨hT, rfl, rfl, ?_, f1.trans g2⟩
      rw [sv, hp, if_neg (by simp), if_pos (Or.inl rfl)]
      exact g1
  | succ c ih =>
    intro d L B f st w hL hR hs hb hB hm hI hS hLB hl ms
    have b0 := hb 0 (by omega)
    have p1 : 2 ^ (c + 1) = 2 * 2 ^ c := by rw [Nat.pow_succ]; omega
    have p0 : 0 < 2 ^ c := Nat.two_pow_pos c
    have eB : 2 * B * 2 ^ c = B * 2 ^ (c + 1) := by rw [p1, Nat.mul_comm 2 B, Nat.mul_assoc]
    have bB : B ≤ B * 2 ^ (c + 1) := Nat.le_mul_of_pos_right _ (Nat.two_pow_pos _)
    have ob := fun k (hk : k ≤ c + 1) => oth_b (f := f) (c := c + 1) hb k hk
    have ob2 : ∀ k, k ≤ c + 1 → oth f k < 2 ^ 30 := fun k hk => by
      have h1 := ob k hk
      have h2 : B * k ≤ B * 2 ^ (c + 1) := Nat.mul_le_mul_left _ (Nat.le_trans hk (Nat.le_of_lt Nat.lt_two_pow_self))
      omega
    rw [show d + (c + 1) + 6 = d + c + 6 + 1 by omega]
    refine eX11_visits _ (bX11_visits_0 _ hT ?_)
    rw [hS.1.2.2.2]
    cases hp : sPrf st with
    | true =>
      refine ⟨fun z => absurd (show (1 : Int32) = 0 from z) (by decide), fun _ => ⟨rfl, rfl, ?_, FT.refl⟩⟩
      rw [sv, hp, if_pos rfl]
      exact hS
    | false =>
      refine ⟨fun _ w1 e1 => ?_, fun z => absurd rfl z⟩
      rw [hS.1.1, nI_1] at e1
      have r1 : ∀ p, p ≠ 174 → w1 p = w p := fun p hp => by rw [e1, zu_row hp]
      have hR1 : RM w1 L (c + 1 + 1) f := by
        unfold RM
        rw [r1 184 (by omega), r1 185 (by omega), r1 186 (by omega), r1 187 (by omega)]
        exact hR
      have hS1 : SM w1 (vs1 st) := by
        obtain ⟨⟨s1, s2, s3, s4⟩, s6, s7⟩ := hS
        refine ⟨⟨by rw [e1, zu_eq]; rfl, by rw [e1, zu_k (by decide)]; exact s2, by rw [e1, zu_k (by decide)]; exact s3, by rw [e1, zu_k (by decide)]; exact s4⟩, fun z => by rw [e1, zu_k (by decide), zu_k (by decide)]; exact s6 z, fun j hj => by rw [r1 190 (by omega), r1 191 (by omega)]; exact s7 j hj⟩
      have ms1 : MS w1 176 0 s := by unfold MS; rw [r1 176 (by omega)]; exact ms
      have f1 : FT L w w1 := ⟨fun p hp => r1 p (by omega), fun b hb => by rw [e1, zu_k (by omega)], fun q hq => by rw [r1 184 (by omega)], fun q hq => by rw [r1 185 (by omega), r1 186 (by omega), r1 187 (by omega)]; exact ⟨rfl, rfl, rfl⟩⟩
      have a1 := (hR1.2 0 (by omega)).1
      rw [Nat.add_zero] at a1
      rw [show (10 : Int32) = nI 10 from rfl, pk_mul]
      have key := zfor (c := c + 1) (P := fun k => Zv mX11_visits (d + c + 6 + 1) 28 [some (.ref 174), some (.int (nI L)), some (.int (nI (10 * L))), some (.int (nI (oth f k))), some (.int (nI (k + 1)))] [] w1 rv lv (fun a b c' => b = rv ∧ c' = lv ∧ SM a (sv (sTp s) (c + 1 + 1) f st) ∧ FT L w a)) ?_ ?_
      · exact key 0 (by omega)
      · refine bX11_visits_28 _ _ _ _ hT ?_
        rw [nI_clamp (show L < 2 ^ 31 by omega), nI_clamp (show 10 * L < 2 ^ 31 by omega), hR1.1, a1]
        refine ⟨vp_in_nI (by omega) (by decide), fun _ => ⟨fun z => absurd z (show ¬ nI (c + 1 + 1) = nI 1 from fun q => by rw [nI_eq (by omega) (by omega)] at q; omega), fun _ => ⟨vp_in_nI (by omega) (by decide), ?_⟩⟩, fun z => absurd (nI_le (by omega) (by omega)) z⟩
        have o2 := ob2 (c + 1) (Nat.le_refl _)
        rw [nI_ltI (by omega) (by omega)]
        refine ⟨fun q => ?_, fun q => ?_⟩
        · have nq : ¬ (c + 1 = 0 ∨ oth f (c + 1) ≤ (f 0).1) := by omega
          have esv : sv (sTp s) (c + 1 + 1) f st = sv (sTp s) (c + 1) (jn f (c + 1 + 1) false) (sv (sTp s) (c + 1) (jn f (c + 1 + 1) true) (vs1 st)) := by
            rw [sv, hp, if_neg (by simp), if_neg nq]
          rw [esv, nI_1]
          have es := fun df => jn_s df hs (by omega)
          have eb := fun df => jn_b df hb (by omega)
          have ep := fun df => jn_par df hs (by omega)
          simp only [Nat.add_sub_cancel] at es eb ep
          refine zcallV (y_joins (d := d + c + 2) (df := true) (B := B) hT (by omega) hR1 (by omega) (by omega) hb (by omega) hs) ?_
          rintro w2 rv1 lv1 ⟨q1, q2, k1, k2⟩
          have q1 := q1.symm
          have q2 := q2.symm
          subst q1 q2
          rw [Nat.add_sub_cancel] at k1
          have r2 : ∀ p, p < 184 ∨ 187 < p → w2 p = w1 p := k2.1
          have hS2 : SM w2 (vs1 st) := by
            unfold SM
            rw [r2 174 (by omega), r2 190 (by omega), r2 191 (by omega)]
            exact hS1
          have f2 : FT L w w2 := f1.trans k2.ft
          refine ⟨hT, zcallV (ih d (L + 1) (2 * B) _ (vs1 st) w2 (by omega) k1 (es true) (eb true) (by rw [eB]; exact hB) (by rw [ep true]; exact hm) (vs1_SI hI) hS2 hLB (by show sLea st + 2 ^ c ≤ 512; omega) (by unfold MS; rw [r2 176 (by omega)]; exact ms1)) ?_⟩
          rintro w3 rv1 lv1 ⟨q1, q2, k3, k4⟩
          have q1 := q1.symm
          have q2 := q2.symm
          subst q1 q2
          have hI2 := sv_SI ht (c + 1) _ (vs1 st) (es true) (by rw [ep true]; exact hm) (vs1_SI hI)
          have hL2 := sv_LB (tp := sTp s) (c + 1) (jn f (c + 1 + 1) true) (vs1 st) (2 * B) (by omega) (eb true) (by rw [Nat.add_sub_cancel, eB]; omega) hLB
          have hl2 := (sv_lea (tp := sTp s) c (jn f (c + 1 + 1) true) (vs1 st)).1
          have hl2 : _ ≤ sLea st + 2 ^ c := hl2
          have f3 : FT L w w3 := f2.trans k4.mono
          have hR3 : RM w3 L (c + 1 + 1) f := f3.rm (Nat.le_refl _) (by omega) hR
          refine ⟨hT, zcallV (y_joins (d := d + c + 2) (df := false) (B := B) hT (by omega) hR3 (by omega) (by omega) hb (by omega) hs) ?_⟩
          rintro w4 rv1 lv1 ⟨q1, q2, k5, k6⟩
          have q1 := q1.symm
          have q2 := q2.symm
          subst q1 q2
          rw [Nat.add_sub_cancel] at k5
          have r4 : ∀ p, p < 184 ∨ 187 < p → w4 p = w3 p := k6.1
          have hS4 : SM w4 (sv (sTp s) (c + 1) (jn f (c + 1 + 1) true) (vs1 st)) := by
            unfold SM
            rw [r4 174 (by omega), r4 190 (by omega), r4 191 (by omega)]
            exact k3
          have f4 : FT L w w4 := f3.trans k6.ft
          refine ⟨hT, zcallV (ih d (L + 1) (2 * B) _ _ w4 (by omega) k5 (es false) (eb false) (by rw [eB]; exact hB) (by rw [ep false]; exact hm) hI2 hS4 hL2 (by omega) (by unfold MS; rw [f4.1 176 (by omega)]; exact ms)) ?_⟩
          rintro w5 rv1 lv1 ⟨q1, q2, k7, k8⟩
          have q1 := q1.symm
          have q2 := q2.symm
          subst q1 q2
          exact ⟨hT, rfl, rfl, k7, f4.trans k8.mono⟩
        · have yq : c + 1 = 0 ∨ oth f (c + 1) ≤ (f 0).1 := by omega
          have q2 : oth f (c + 1) ≤ (f 0).1 := by omega
          rw [pk_sub q2]
          refine zcallV (y_leaf (d := d + c + 4) (f := f) (c := c + 1) (st := vs1 st) hT (by omega) hR1 (by omega) ms1 vs hS1 (by omega) (by show sLea st < 512; omega) (by exact hI.1) hLB) ?_
          rintro a _ _ ⟨rfl, rfl, g1, g2⟩
          refine ⟨hT, rfl, rfl, ?_, f1.trans g2⟩
          rw [sv, hp, if_neg (by simp), if_pos yq]
          exact g1
      · intro k hk ih2
        have a2 := (hR1.2 (k + 1) (by omega)).1
        refine bX11_visits_28 _ _ _ _ hT ?_
        rw [nI_clamp (show L < 2 ^ 31 by omega), hR1.1, nI_add, nI_clamp (show 10 * L + (k + 1) < 2 ^ 31 by omega), a2, nI_add, nI_1, nI_1]
        exact ⟨vp_in_nI (by omega) (by decide), fun z => absurd z (nI_ge (by omega) (by omega)), fun _ => ⟨vp_in_nI (by omega) (by decide), ih2⟩⟩
theorem y_searches {d : Nat} {s : Sn} {iv : zI} {rv : zR} {lv : zJ} (hT : zTop rv) (ms : MS iv 176 0 s) (vs : VS s) :
    Cv mX11_searches (d + 20) [.ref 174] iv rv lv (fun a b c' => b = rv ∧ c' = lv ∧ SM a (srch s) ∧ FN iv a) := by
  have vn := vs.1
  refine eX11_searches (bX11_searches_0 hT ?_)
  intro w1 e1 w2 e2 w3 e3 w4 e4
  have r4 : ∀ p, p ≠ 174 → w4 p = iv p := fun p hp => by rw [e4, zu_row hp, e3, zu_row hp, e2, zu_row hp, e1, zu_row hp]
  have k4 : ∀ b, b ≠ 34 → b ≠ 35 → b ≠ 36 → b ≠ 38 → w4 174 b = iv 174 b := fun b b1 b2 b3 b4 => by rw [e4, zu_k b4, e3, zu_k b3, e2, zu_k b2, e1, zu_k b1]
  have ms4 : MS w4 176 0 s := by unfold MS; rw [r4 176 (by omega)]; exact ms
  have f4 : FN iv w4 := ⟨fun p hp => r4 p (by omega), fun b hb => k4 b (by omega) (by omega) (by omega) (by omega)⟩
  refine zcallV (y_begins (d := d + 15) hT ms4 vs) ?_
  rintro w5 rv1 lv1 ⟨q1, q2, g1, g2⟩
  have q1 := q1.symm
  have q2 := q2.symm
  subst q1 q2
  have r5 : ∀ p, p < 184 ∨ 187 < p → w5 p = w4 p := g2.1
  have f5 : FN iv w5 := f4.trans (FN.of (fun p hp => r5 p (by omega)))
  have s5 : SM w5 st0 := by
    unfold SM
    rw [r5 174 (by omega)]
    refine ⟨⟨?_, ?_, ?_, ?_⟩, fun z => absurd z (Nat.lt_irrefl _), fun j hj => absurd hj (Nat.not_lt_zero _)⟩
    · rw [e4, zu_k (by decide), e3, zu_k (by decide), e2, zu_k (by decide), e1, zu_eq]; rfl
    · rw [e4, zu_k (by decide), e3, zu_k (by decide), e2, zu_eq]; rfl
    · rw [e4, zu_k (by decide), e3, zu_eq]; rfl
    · rw [e4, zu_eq]; rfl
  obtain ⟨m, hm⟩ : ∃ m, s.1 = m + 1 := ⟨s.1 - 1, by omega⟩
  obtain ⟨e, he⟩ : ∃ e, d + 19 = e + m + 6 := ⟨d + 19 - 6 - m, by omega⟩
  have pb : 9999 * 2 ^ m ≤ 9999 * 2 ^ 9 := Nat.mul_le_mul_left _ (Nat.pow_le_pow_right (by omega) (by omega))
  have pc : 2 ^ m ≤ 2 ^ 9 := Nat.pow_le_pow_right (by omega) (by omega)
  have bt := tk_b s.1 vn.2 (fun i hi => (vs.2.2.1 i hi).2)
  have st := tk_s s.2.2.1 s.1
  have sb := tk_sum s.2.2.1 s.1
  have es : srch s = sv (sTp s) s.1 (tk s.2.2.1 s.1) st0 := rfl
  have ms5 : MS w5 176 0 s := by unfold MS; rw [r5 176 (by omega)]; exact ms4
  refine ⟨hT, ?_⟩
  rw [es, he]
  generalize tk s.2.2.1 s.1 = f at g1 bt st sb ⊢
  rw [hm] at g1 bt st sb ⊢
  refine zcallV (y_visits (s := s) hT vs m e 0 9999 f st0 w5 (by omega) g1 st bt (by omega) (by rw [sb, ← hm]) (st0_SI _) s5 (fun z => absurd z (Nat.lt_irrefl _)) (by show 0 + 2 ^ m ≤ 512; omega) ms5) ?_
  rintro a _ _ ⟨rfl, rfl, k1, k2⟩
  exact ⟨hT, rfl, rfl, k1, f5.trans k2.fn⟩
theorem y_search {d : Nat} {S : St} {x : Int32} {iv : zI} {rv : zR} {lv : zJ} (hT : zTop rv) (h : MB S iv) (hv : VT S) : Ci mX11_search (d + 31) [.ref 174, .int x] iv rv lv (YR (F_search S x).2 (F_search S x).1 iv rv lv) := by
  refine eX11_search x (bX11_search_0 x hT ?_)
  intro w0 e0
  have h0 : MB S w0 := e0 ▸ h.th
  have f0 : FM iv w0 := e0 ▸ FM.th
  rw [h0.txt]
  cases e : S.2.1 with
  | none =>
    have eF : F_search S x = rf S 1 := by unfold F_search; rw [e]
    rw [eF]
    exact ⟨fun _ => zcall (y_refused hT) hT (YR.tr' rfl h0 f0), fun q => absurd rfl q⟩
  | some s =>
    have ms := h0.2.1.2 s e
    have vs := hv.2.1 s e
    have ok1 := srch_ok vs
    refine ⟨fun q => absurd (show (1 : Int32) = 0 from q) (by decide), fun _ => zcall (y_in hT) hT ?_⟩
    rcases pk_ix x (show 5 < 2 ^ 31 by omega) with q | q | ⟨j, hj, rfl⟩
    · have eF : F_search S x = rf S 1 := by
        unfold F_search
        rw [e]
        have ne : ∀ k : Int32, 0 ≤ k → ¬ x = k := fun k hk z => absurd (z ▸ q) (Int32.not_lt.mpr hk)
        simp only [ne 0 (by decide), ne 1 (by decide), ne 2 (by decide), ne 3 (by decide), ne 4 (by decide), if_false]
      rw [eF, in_f (Or.inl q)]
      exact ⟨fun z => absurd rfl z, fun _ => zcall (y_refused hT) hT (YR.tr' rfl h0 f0)⟩
    · have q4 : (4 : Int32) < x := Int32.lt_of_lt_of_le (by decide) q
      have eF : F_search S x = rf S 1 := by
        unfold F_search
        rw [e]
        have ne : ∀ k : Int32, k ≤ 4 → ¬ x = k := fun k hk z => absurd (z ▸ q4) (Int32.not_lt.mpr hk)
        simp only [ne 0 (by decide), ne 1 (by decide), ne 2 (by decide), ne 3 (by decide), ne 4 (by decide), if_false]
      rw [eF, in_f (Or.inr q4)]
      exact ⟨fun z => absurd rfl z, fun _ => zcall (y_refused hT) hT (YR.tr' rfl h0 f0)⟩
    · rw [in_t (nI_pos (by omega)) (show ¬ (4 : Int32) < nI j by rw [z_4, nI_ltI (by omega) (by omega)]; omega)]
      refine ⟨fun _ => zcallV (y_searches (d := d + 10) hT ms vs) ?_, fun q => absurd (show (1 : Int32) = 0 from q) (by decide)⟩
      rintro a _ _ ⟨rfl, rfl, ⟨⟨s1, s2, s3, s4⟩, s6, s7⟩, g2⟩
      refine ⟨hT, fun q => ?_, fun q => ?_, fun q => ?_, fun q => ?_, fun q0 q1 q2 q3 => ?_⟩
      · have eF : F_search S (nI j) = ok S (nI (sLst (srch s))) := by rw [q]; unfold F_search; rw [e]; rfl
        rw [eF]
        exact zcall (y_good hT) hT (YR.fn (s6 ok1.2.2.2).1 h0 f0 g2)
      · have eF : F_search S (nI j) = ok S (nI (sVis (srch s))) := by rw [q]; unfold F_search; rw [e]; rfl
        rw [eF]
        exact zcall (y_good hT) hT (YR.fn s1 h0 f0 g2)
      · have eF : F_search S (nI j) = ok S (nI (sLea (srch s))) := by rw [q]; unfold F_search; rw [e]; rfl
        rw [eF]
        exact zcall (y_good hT) hT (YR.fn s2 h0 f0 g2)
      · have eF : F_search S (nI j) = ok S (nI (sFin (srch s))) := by rw [q]; unfold F_search; rw [e]; rfl
        rw [eF]
        exact zcall (y_good hT) hT (YR.fn s3 h0 f0 g2)
      · have j4 : j = 4 := by
          have p0 : j ≠ 0 := fun z => q0 (by rw [z]; rfl)
          have p1 : j ≠ 1 := fun z => q1 (by rw [z]; rfl)
          have p2 : j ≠ 2 := fun z => q2 (by rw [z]; rfl)
          have p3 : j ≠ 3 := fun z => q3 (by rw [z]; rfl)
          omega
        have eF : F_search S (nI j) = ok S (bI (sPrf (srch s))) := by rw [j4]; unfold F_search; rw [e]; rfl
        rw [eF]
        refine ⟨fun z => ?_, fun z => ?_⟩
        · rw [show sPrf (srch s) = false from (bI_0 _).mp (s4 ▸ z)]
          exact zcall (y_good hT) hT (YR.fn rfl h0 f0 g2)
        · rw [show sPrf (srch s) = true from (bI_n0 _).mp (s4 ▸ z)]
          exact zcall (y_good hT) hT (YR.fn rfl h0 f0 g2)
theorem y_find {d : Nat} {S : St} {x w : Int32} {iv : zI} {rv : zR} {lv : zJ} (hT : zTop rv) (h : MB S iv) (hv : VT S) : Ci mX11_find (d + 31) [.ref 174, .int x, .int w] iv rv lv (YR (F_find S x w).2 (F_find S x w).1 iv rv lv) := by
  refine eX11_find x w (bX11_find_0 x w hT ?_)
  intro w0 e0
  have h0 : MB S w0 := e0 ▸ h.th
  have f0 : FM iv w0 := e0 ▸ FM.th
  have no : ∃ Q1 : Int32 → zI → zR → zJ → Prop, Ci mX11_refused (d + 30) [.ref 174, .int 1] w0 rv lv Q1 ∧ ∀ (v : Int32) (a : zI) (b : zR) (c : zJ), Q1 v a b c → zTop b ∧ YR (rf S 1).2 (rf S 1).1 iv rv lv v a b c := zcall (y_refused hT) hT (YR.tr' rfl h0 f0)
  rw [h0.txt]
  cases e : S.2.1 with
  | none =>
    have eF : F_find S x w = rf S 1 := by unfold F_find; rw [e]
    rw [eF]
    exact ⟨fun _ => no, fun q => absurd rfl q⟩
  | some s =>
    have ms := h0.2.1.2 s e
    have vs := hv.2.1 s e
    have ok1 := srch_ok vs
    have okf : sFin (srch s) ≤ sLea (srch s) := ok1.1.1
    have eF : F_find S x w = if w < 0 ∨ 1 < w then rf S 1 else if x < 0 ∨ nI (sFin (srch s)) ≤ x then rf S 1 else if w = 0 then ok S (nI (sFo (srch s) x.toNatClampNeg)) else ok S (nI (sFa (srch s) x.toNatClampNeg)) := by unfold F_find; rw [e]
    rw [eF]
    refine ⟨fun q => absurd (show (1 : Int32) = 0 from q) (by decide), fun _ => ⟨fun x0 => ?_, fun x0 => zcall (y_in hT) hT ?_⟩⟩
    · simp only [x0, true_or, if_true, ite_self]
      exact no
    · by_cases hw : w < 0 ∨ 1 < w
      · rw [if_pos hw, in_f hw]
        exact ⟨fun z => absurd rfl z, fun _ => no⟩
      · rw [if_neg hw, in_t (fun q => hw (Or.inl q)) (fun q => hw (Or.inr q))]
        refine ⟨fun _ => zcallV (y_searches (d := d + 10) hT ms vs) ?_, fun q => absurd (show (1 : Int32) = 0 from q) (by decide)⟩
        rintro a _ _ ⟨rfl, rfl, ⟨⟨s1, s2, s3, s4⟩, s6, s7⟩, g2⟩
        rw [s3]
        refine ⟨hT, fun z => ?_, fun z => ?_⟩
        · rcases pk_ix x (show sFin (srch s) < 2 ^ 31 by omega) with q | q | ⟨j, hj, rfl⟩
          · exact absurd q x0
          · exact absurd z (Int32.not_lt.mpr q)
          · have nn : ¬ (nI j < 0 ∨ nI (sFin (srch s)) ≤ nI j) := fun z => z.elim (nI_pos (by omega)) (nI_ge hj (by omega))
            rw [if_neg nn, nI_clamp (by omega)]
            refine ⟨fun q => ?_, fun q => ?_⟩
            · rw [if_neg q]
              exact ⟨vp_in_nI (by omega) (by decide), zcall (y_good hT) hT (YR.fn (s7 j hj).2 h0 f0 g2)⟩
            · rw [if_pos q]
              exact ⟨vp_in_nI (by omega) (by decide), zcall (y_good hT) hT (YR.fn (s7 j hj).1 h0 f0 g2)⟩
        · rw [if_pos (Or.inr (Int32.not_lt.mp z))]
          exact zcall (y_refused hT) hT (YR.fn rfl h0 f0 g2)
theorem y_searchOf {d : Nat} {S : St} {x : Int32} {iv : zI} {rv : zR} {lv : zJ} (hT : zTop rv) (h : MB S iv) (hv : VT S) : Ci mX11_searchOf (d + 31) [.ref 174, .int x] iv rv lv (YR (F_searchOf S x).2 (F_searchOf S x).1 iv rv lv) := by
  refine eX11_searchOf x (bX11_searchOf_0 x hT ?_)
  intro w0 e0
  have h0 : MB S w0 := e0 ▸ h.th
  have f0 : FM iv w0 := e0 ▸ FM.th
  unfold F_searchOf
  rcases nOf_cases S x hv with ⟨hn, hx⟩ | ⟨s, i, hn, es, hi, rfl⟩
  · rw [hn]
    exact zcall (y_isN0 hT h0 hv hx) hT ⟨fun q => absurd rfl q, fun _ => zcall (y_refused hT) hT (YR.tr' rfl h0 f0)⟩
  · rw [hn]
    have ms := h0.2.1.2 s es
    have vs := hv.2.1 s es
    have vn := vs.1
    have ok1 := srch_ok vs
    refine zcall (y_isN1 hT h0 hv es hi) hT ⟨fun _ => zcallV (y_searches (d := d + 10) hT ms vs) ?_, fun q => absurd (show (1 : Int32) = 0 from q) (by decide)⟩
    rintro a _ _ ⟨rfl, rfl, g1, g2⟩
    rw [(g1.2.1 ok1.2.2.2).2]
    exact ⟨hT, zcall (y_sideOf hT (srch_sid vs) (by omega)) hT (zcall (y_good hT) hT (YR.fn rfl h0 f0 g2))⟩
