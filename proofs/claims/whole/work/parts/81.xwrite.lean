/-! THE CLASS: writing. -/
def WL (w : zI) (l : List Nat) : Prop := w 0 11 = nI l.length ∧ ∀ j, j < l.length → w 158 j = nI (l.getD j 0)
def FB (iv a : zI) : Prop := (∀ p, p ≠ 0 → p ≠ 158 → a p = iv p) ∧ ∀ b, b ≠ 11 → a 0 b = iv 0 b
theorem FB.refl {iv : zI} : FB iv iv := ⟨fun _ _ _ => rfl, fun _ _ => rfl⟩
theorem FB.trans {iv a b : zI} (h : FB iv a) (g : FB a b) : FB iv b := ⟨fun p p1 p2 => by rw [g.1 p p1 p2]; exact h.1 p p1 p2, fun q hq => by rw [g.2 q hq]; exact h.2 q hq⟩
theorem nar_by : ∀ b, b < 128 → vp_nar .byte (nI b).toInt8.toInt32 = nI b := by decide +kernel
theorem x_putByte {d b : Nat} {l : List Nat} {iv : zI} {rv : zR} {lv : zJ} (hT : zTop rv) (hb : b < 128) (hl : l.length < 64) (hW : WL iv l) : Cv mX10_putByte d [.ref 0, .int (nI b)] iv rv lv (fun u r c' => r = rv ∧ c' = lv ∧ WL u (l ++ [b]) ∧ FB iv u) := by
  refine eX10_putByte _ (bX10_putByte_0 _ hT ?_)
  rw [hW.1, nI_clamp (by omega), nar_by b hb]
  refine ⟨fun z => absurd z (show ¬ nI 64 ≤ nI l.length from nI_ge hl (by omega)), fun _ => ⟨vp_in_nI hl (by decide), fun w1 e1 w2 e2 => ?_⟩⟩
  rw [e1, zu_row (by omega), hW.1, nI_1] at e2
  refine ⟨rfl, rfl, ⟨by rw [e2, zu_eq, List.length_append]; rfl, fun j hj => ?_⟩, fun p p1 p2 => by rw [e2, zu_row p1, zu_row p2], fun q hq => by rw [e2, zu_k hq, zu_row (by omega)]⟩
  rw [List.length_append] at hj
  have hj : j < l.length + 1 := hj
  rw [gd_ap, e2, zu_row (by omega)]
  by_cases z : j = l.length
  · rw [z, zu_eq, if_neg (Nat.lt_irrefl _), if_pos rfl]
  · rw [zu_k z, if_pos (by omega)]
    exact hW.2 j (by omega)
theorem x_putNumber {d v : Nat} {l : List Nat} {iv : zI} {rv : zR} {lv : zJ} (hT : zTop rv) (hv : v ≤ 9999) (hl : l.length ≤ 60) (hW : WL iv l) : Cv mX10_putNumber (d + 1) [.ref 0, .int (nI v)] iv rv lv (fun u r c' => r = rv ∧ c' = lv ∧ WL u (l ++ dg v) ∧ FB iv u) := by
  refine eX10_putNumber _ (bX10_putNumber_0 _ hT ?_)
  have step : ∀ (u : Nat) (m : List Nat) (w : zI), 1 ≤ u → u ≤ 1000 → m.length < 64 → WL w m → FB iv w → (∀ w', WL w' (m ++ pc u v) → FB iv w' → Zv mX10_putNumber (d + 1) 4 [some (.ref 0), some (.int (nI v)), some (.int (nI (u / 10)))] [] w' rv lv (fun u r c' => r = rv ∧ c' = lv ∧ WL u (l ++ dg v) ∧ FB iv u)) → Zv mX10_putNumber (d + 1) 4 [some (.ref 0), some (.int (nI v)), some (.int (nI u))] [] w rv lv (fun u r c' => r = rv ∧ c' = lv ∧ WL u (l ++ dg v) ∧ FB iv u) := by
    intro u m w u1 u2 hm hw hf go
    have dv : v / u ≤ v := Nat.div_le_self _ _
    refine bX10_putNumber_4 _ _ hT ⟨fun z => absurd z (show ¬ nI u ≤ nI 0 from nI_ge (by omega) (by omega)), fun _ => ?_⟩
    rw [nI_ltI (by omega) (by omega), show (10 : Int32) = nI 10 from rfl, show (48 : Int32) = nI 48 from rfl, pk_div (show u < 2 ^ 31 by omega) (by omega) (by omega), pk_div (show v < 2 ^ 31 by omega) (by omega) (by omega), pk_rem (by omega) (by omega) (by omega), nI_add]
    refine ⟨fun z => go w ?_ hf, fun z => ⟨fun q => absurd q (show ¬ nI u = nI 0 from fun q => by rw [nI_eq (by omega) (by omega)] at q; omega), zcallV (x_putByte hT (by omega) hm hw) ?_⟩⟩
    · unfold pc
      rw [if_neg (by omega), List.append_nil]
      exact hw
    · rintro w1 rv1 lv1 ⟨q1, q2, g1, g2⟩
      have q1 := q1.symm
      have q2 := q2.symm
      subst q1 q2
      refine ⟨hT, go w1 ?_ (hf.trans g2)⟩
      unfold pc
      rw [if_pos (by omega)]
      exact g1
  have a := (pc_len 1000 v).1
  have b := (pc_len 100 v).1
  have c := (pc_len 10 v).1
  refine step 1000 l iv (by omega) (by omega) (by omega) hW FB.refl (fun w1 h1 f1 => ?_)
  refine step 100 _ w1 (by omega) (by omega) (by rw [List.length_append]; omega) h1 f1 (fun w2 h2 f2 => ?_)
  refine step 10 _ w2 (by omega) (by omega) (by rw [List.length_append, List.length_append]; omega) h2 f2 (fun w3 h3 f3 => ?_)
  refine step 1 _ w3 (by omega) (by omega) (by rw [List.length_append, List.length_append, List.length_append]; omega) h3 f3 (fun w4 h4 f4 => ?_)
  refine bX10_putNumber_4 _ _ hT ⟨fun _ => ⟨rfl, rfl, ?_, f4⟩, fun z => absurd (by decide) z⟩
  unfold dg
  rw [← List.append_assoc, ← List.append_assoc, ← List.append_assoc]
  exact h4
theorem hpl_e {s : Sn} (vs : VS s) {ρ : Nat → Nat} {h i : Nat} (hi : i < s.1) (e : ρ i = h) : hpl s ρ h (i + 1) = hpl s ρ h i ++ (if hpl s ρ h i = [] then [] else [43]) ++ dg (s.2.2.1 i) ∧ hpl s ρ h (i + 1) ≠ [] := by
  have e1 : hpl s ρ h (i + 1) = hpl s ρ h i ++ (if hpl s ρ h i = [] then [] else [43]) ++ dg (s.2.2.1 i) := by rw [hpl, if_pos e]
  refine ⟨e1, fun z => ?_⟩
  rw [e1] at z
  have := dg_ne (vs.2.2.1 i hi).1
  have l := congrArg List.length z
  rw [List.length_append, List.length_nil] at l
  exact this (List.eq_nil_of_length_eq_zero (by omega))
theorem x_putHeap {d h k r : Nat} {s : Sn} {ρ : Nat → Nat} {iv : zI} {rv : zR} {lv : zJ} (hT : zTop rv) (vs : VS s) (cs : CS iv 8 s) (hk : k ≤ 4) (hh : h < k) (hρ : ∀ j, j < s.1 → ρ j < k) (hr : zSH r = (0, 10)) (hr2 : 158 < r ∧ r < 200) (hR : ∀ j, j < s.1 → iv r j = nI (ρ j)) {l : List Nat} (hl : l.length ≤ (wrt s ρ h).length + 1) (hW : WL iv l) :
    Cv mX10_putHeap (d + 2) [.ref 0, .int (nI h), .ref r] iv rv lv (fun u b c' => b = rv ∧ c' = lv ∧ WL u (l ++ wHp s ρ h) ∧ FB iv u) := by
  have vn := vs.1
  refine eX10_putHeap _ r 10 (bX10_putHeap_0 _ r 10 hT hr hr2.2 ?_)
  have key := zfor (c := s.1) (P := fun i => ∀ w : zI, WL w (l ++ hpl s ρ h i) → FB iv w → Zv mX10_putHeap (d + 2) 5 [some (.ref 0), some (.int (nI h)), some (.ref r), some (.int (bI (decide (hpl s ρ h i = [])))), some (.int (nI i))] [] w rv lv (fun u b c' => b = rv ∧ c' = lv ∧ WL u (l ++ wHp s ρ h) ∧ FB iv u)) ?_ ?_
  · exact key 0 (by omega) iv (by rw [hpl, List.append_nil]; exact hW) FB.refl
  · intro w w1 w2
    have wb := (wr_b vs (i := s.1) hk hρ hh (Nat.le_refl _)).1
    refine bX10_putHeap_5 _ r 10 _ _ hT hr hr2.2 ⟨fun _ => ⟨fun z => ⟨rfl, rfl, ?_, w2⟩, fun z => ?_⟩, fun z => absurd (by rw [w2.1 8 (by decide) (by decide), cs.1]; exact nI_le (by omega) (by omega)) z⟩
    · unfold wHp
      rw [if_neg (of_decide_eq_false ((bI_0 _).mp z))]
      exact w1
    · have z : hpl s ρ h s.1 = [] := of_decide_eq_true ((bI_n0 _).mp z)
      rw [z] at w1
      rw [List.append_nil] at w1
      refine zcallV (x_putByte (b := 48) hT (by decide) (by omega) w1) ?_
      rintro u _ _ ⟨rfl, rfl, g1, g2⟩
      refine ⟨hT, rfl, rfl, ?_, w2.trans g2⟩
      unfold wHp
      rw [if_pos z]
      exact g1
  · intro i hi ih w w1 w2
    have c9 : ∀ u : zI, FB iv u → u (8 + 1) i = nI (s.2.2.1 i) := fun u hu => by rw [hu.1 (8 + 1) (by decide) (by decide)]; exact cs.2.2.1 i hi
    have v9 := (vs.2.2.1 i hi).2
    have rb := hρ i hi
    refine bX10_putHeap_5 _ r 10 _ _ hT hr hr2.2 ⟨fun z => absurd z (by rw [w2.1 8 (by decide) (by decide), cs.1]; exact nI_ge hi (by omega)), fun _ => ?_⟩
    rw [nI_clamp (show i < 2 ^ 31 by omega), w2.1 r (by omega) (by omega), hR i hi, nI_eq (by omega) (by omega), nI_1]
    refine ⟨vp_in_nI (by omega) (by decide), fun q => ?_, fun q => ?_⟩
    · have e : hpl s ρ h (i + 1) = hpl s ρ h i := by rw [hpl, if_neg q]
      rw [e] at ih
      exact ih w w1 w2
    · obtain ⟨e1, e2⟩ := hpl_e vs hi q
      have wb := (wr_b vs (i := i) hk hρ hh (by omega)).2 hi q
      have fin : ∀ (u : zI) (m : List Nat), m ++ dg (s.2.2.1 i) = l ++ hpl s ρ h (i + 1) → m.length ≤ 60 → WL u m → FB iv u → vp_in (nI i) 10 ∧ ∃ Q9 : zI → zR → zJ → Prop, Cv mX10_putNumber (d + 1) [.ref 0, .int (u (8 + 1) i)] u rv lv Q9 ∧ ∀ (a : zI) (b : zR) (c' : zJ), Q9 a b c' → zTop b ∧ Zv mX10_putHeap (d + 2) 5 [some (.ref 0), some (.int (nI h)), some (.ref r), some (.int 0), some (.int (nI (i + 1)))] [] a b c' (fun u b c' => b = rv ∧ c' = lv ∧ WL u (l ++ wHp s ρ h) ∧ FB iv u) := by
        intro u m em lm hu fu
        refine ⟨vp_in_nI (by omega) (by decide), ?_⟩
        rw [c9 u fu]
        refine zcallV (x_putNumber hT v9 lm hu) ?_
        rintro a rv1 lv1 ⟨q1, q2, g1, g2⟩
        have q1 := q1.symm
        have q2 := q2.symm
        subst q1 q2
        rw [em] at g1
        have := ih a g1 (fu.trans g2)
        rw [decide_eq_false e2] at this
        exact ⟨hT, this⟩
      refine ⟨fun z => ?_, fun z => ?_⟩
      · have z : hpl s ρ h i = [] := of_decide_eq_true ((bI_n0 _).mp z)
        refine fin w (l ++ hpl s ρ h i) ?_ ?_ w1 w2
        · rw [e1, if_pos z, List.append_nil, List.append_assoc]
        · rw [List.length_append]
          omega
      · have z : ¬ hpl s ρ h i = [] := of_decide_eq_false ((bI_0 _).mp z)
        refine zcallV (x_putByte (b := 43) hT (by decide) (by rw [List.length_append]; omega) w1) ?_
        rintro u rv1 lv1 ⟨q1, q2, g1, g2⟩
        have q1 := q1.symm
        have q2 := q2.symm
        subst q1 q2
        refine ⟨hT, fin u _ ?_ ?_ g1 (w2.trans g2)⟩
        · rw [e1, if_neg z, List.append_assoc, List.append_assoc, List.append_assoc]
        · rw [List.length_append, List.length_append]
          show _ + _ + 1 ≤ 60
          omega
theorem CB.wr {S : St} {iv a : zI} {l : List Nat} (h : CB S iv) (h1 : ∀ p, p ≠ 0 → p ≤ 75 → a p = iv p) (h2 : ∀ b, b ≠ 11 → a 0 b = iv 0 b) (hW : WL a l) : CB (sW S l) a := by
  obtain ⟨c1, c2, c3, c4, c5, c6, c7⟩ := h
  refine ⟨by rw [h1 1 (by decide) (by decide), h1 7 (by decide) (by decide)]; exact c1, c2.fr (fun p p1 p2 => h1 p (by omega) (by omega)), ?_, ?_, by rw [h2 13 (by decide), h2 14 (by decide), h2 12 (by decide)]; exact c5, hW, by rw [h2 3 (by decide)]; exact c7⟩
  · exact c3.fr (fun p p1 p2 => h1 p (by omega) (by omega))
  · exact c4.fr (fun p p1 p2 => h1 p (by omega) (by omega))
theorem x_write {d : Nat} {S : St} {iv : zI} {rv : zR} {lv : zJ} (hT : zTop rv) (h : CB S iv) (hv : VT S) (hp : Cp S iv) (hn32 : ver S < 2 ^ 31) : Ci mX10_write (d + 32) [.ref 0] iv rv lv (XP (F_write S).2 (F_write S).1 iv rv lv) := by
  refine eX10_write (bX10_write_0 hT (zcall (x_noText hT) hT ?_))
  rw [h.nt hv]
  have hn := h.2.1
  have hver : iv 0 3 = nI (ver S) := h.2.2.2.2.2.2
  unfold F_write
  cases e : S.2.1 with
  | none => exact ⟨fun q => absurd (show (1 : Int32) = 0 from q) (by decide), fun _ => zcall (x_refuse hT) hT (XP.ans (t := 1) rfl h hp (fun _ _ => rfl))⟩
  | some s =>
    rw [e] at hn
    obtain ⟨cs, c12⟩ := hn
    have vs := hv.2.1 s e
    have v2 := vs.2.1
    have c81 : iv 8 1 = nI s.2.1 := cs.2.1
    refine ⟨fun _ => ?_, fun q => absurd rfl q⟩
    rw [c81]
    refine zcallR (x_allRows (d := d + 30) hT v2.1 v2.2) ?_
    rintro x0 a0 b0 c0 ⟨q0, q1, q2, q3⟩
    have q1 := q1.symm
    have q2 := q2.symm
    have q3 := q3.symm
    subst q0 q1 q2 q3
    rw [hver]
    have pk := pts_k v2.1 v2.2
    refine ⟨hT, pk, zcallQ (x_findLeast (d := d) hT pk vs v2.1 v2.2 cs (hp s.2.1 v2.1 v2.2).1 hn32 (hp.pre v2.1 v2.2 e)) ?_⟩
    rintro y a rv1 lv1 ⟨q0, q1, q2, g1, g2, g3, g4⟩
    have q1 := q1.symm
    have q2 := q2.symm
    subst q0 q1 q2
    have cn := hp.new v2.1 v2.2 e g1 g2 g3 g4
    have fr : ∀ p, p < 159 ∨ 173 < p → a p = iv p := fun p hp => g4 p (by omega)
    have gg := g2.2.1 rfl
    show _ ∧ (_ → ∀ iv19 : zI, _ → Zi mX10_write (d + 32) 54 [some (.ref 0), some (.ref _), some (.int 0)] [] iv19 rv lv (XP (if (lq s s.2.1).2.1 = 0 then rf S 6 else _).2 (if (lq s s.2.1).2.1 = 0 then rf S 6 else _).1 iv rv lv)) ∧ _
    refine ⟨hT, fun z w0 e0 => ?_, fun z => ?_⟩
    · have z : 0 < (lq s s.2.1).2.1 := of_decide_eq_true ((bI_n0 _).mp z)
      have lt : (lq s s.2.1).1 < 1000000 := by
        rcases lq_gd vs s.2.1 with h | h
        · exact h.1
        · omega
      have row := gg.2.2.2 lt
      have lf := lq_f (s := s) (k := s.2.1) (by omega)
      rw [if_neg (show ¬ (lq s s.2.1).2.1 = 0 by omega)]
      generalize (lq s s.2.1).2.2.2 = ρ at row lf ⊢
      have f0 : FB a w0 := ⟨fun p p1 _ => by rw [e0, zu_row p1], fun b hb => by rw [e0, zu_k hb]⟩
      have key := zfor (c := s.2.1) (P := fun h => ∀ w : zI, WL w (wrt s ρ h) → FB a w → Zi mX10_write (d + 32) 54 [some (.ref 0), some (.ref (159 + 5 * (s.2.1 - 2))), some (.int (nI h))] [] w rv lv (XP (sT (sW S (wrt s ρ s.2.1)) 0) (nI (wrt s ρ s.2.1).length) iv rv lv)) ?_ ?_
      · exact key 0 (by omega) w0 ⟨by rw [e0, zu_eq]; rfl, fun j hj => absurd hj (Nat.not_lt_zero _)⟩ f0
      · intro w w1 w2
        have c81' : w 8 1 = nI s.2.1 := by rw [w2.1 8 (by decide) (by decide), fr 8 (by omega)]; exact c81
        refine bX10_write_54 _ _ hT pk ⟨fun _ => ?_, fun z => absurd (by rw [c81']; exact nI_le (by omega) (by omega)) z⟩
        refine zcall (x_answer hT) hT ⟨w1.1, rfl, rfl, (CB.wr (h.fr (fun p hp => fr p (by omega))) (fun p p1 p2 => w2.1 p p1 (by omega)) w2.2 w1).tr, (cn.fr (w' := zu (zu w 0 12 0) 0 14 (-1)) (fun p p1 _ => by rw [zu_row (by omega), zu_row (by omega)]; exact w2.1 p (by omega) (by omega))), fun p hp => by rw [zu_row (by omega), zu_row (by omega), w2.1 p (by omega) (by omega)]; exact fr p (by omega)⟩
      · intro x hx ih w w1 w2
        have c81' : w 8 1 = nI s.2.1 := by rw [w2.1 8 (by decide) (by decide), fr 8 (by omega)]; exact c81
        have csw : ∀ u : zI, FB a u → CS u 8 s := fun u hu => by
          unfold CS
          rw [hu.1 8 (by decide) (by decide), hu.1 (8 + 1) (by decide) (by decide), hu.1 (8 + 2) (by decide) (by decide), hu.1 (8 + 3) (by decide) (by decide), fr 8 (by omega), fr (8 + 1) (by omega), fr (8 + 2) (by omega), fr (8 + 3) (by omega)]
          exact cs
        have rw' : ∀ u : zI, FB a u → ∀ j, j < s.1 → u (159 + 5 * (s.2.1 - 2) + 1) j = nI (ρ j) := fun u hu j hj => by
          rw [hu.1 _ (by omega) (by omega)]
          exact row j hj
        have sh : zSH (159 + 5 * (s.2.1 - 2) + 1) = (0, 10) := (sPts _ pk).2.1
        have wb := (wr_b vs (i := 0) v2.2 lf hx (by omega)).1
        refine bX10_write_54 _ _ hT pk ⟨fun z => absurd z (by rw [c81']; exact nI_ge hx (by omega)), fun _ => ?_⟩
        rw [z_0, nI_leI (by omega) (by omega), nI_1]
        refine ⟨fun q => ?_, fun q => ?_⟩
        · have x0 : x = 0 := by omega
          refine zcallV (x_putHeap (d := d + 29) hT vs (csw w w2) v2.2 hx lf sh (by omega) (rw' w w2) (by omega) w1) ?_
          rintro u rv1 lv1 ⟨q1, q2, t1, t2⟩
          have q1 := q1.symm
          have q2 := q2.symm
          subst q1 q2
          refine ⟨hT, ih u ?_ (w2.trans t2)⟩
          rw [wrt, if_pos x0, List.append_nil]
          exact t1
        · refine zcallV (x_putByte (b := 47) hT (by decide) (by omega) w1) ?_
          rintro u rv1 lv1 ⟨q1, q2, t1, t2⟩
          have q1 := q1.symm
          have q2 := q2.symm
          subst q1 q2
          have f2 := w2.trans t2
          refine ⟨hT, zcallV (x_putHeap (d := d + 29) hT vs (csw u f2) v2.2 hx lf sh (by omega) (rw' u f2) (by rw [List.length_append]; exact Nat.le_refl _) t1) ?_⟩
          rintro v rv1 lv1 ⟨q1, q2, t3, t4⟩
          have q1 := q1.symm
          have q2 := q2.symm
          subst q1 q2
          refine ⟨hT, ih v ?_ (f2.trans t4)⟩
          rw [wrt, if_neg (by omega)]
          exact t3
    · have z : ¬ 0 < (lq s s.2.1).2.1 := of_decide_eq_false ((bI_0 _).mp z)
      have := zcall (x_refuse (d := d + 31) (x := 6) (lv := lv) hT (iv := a)) hT (XP.ans (t := 6) (y := -1) (r := -1) rfl h cn fr)
      simp only [show (lq s s.2.1).2.1 = 0 by omega, if_true]
      exact this
