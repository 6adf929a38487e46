/-! THE REFERENCE: writing. -/
def WM (w : zI) (l : List Nat) : Prop := w 174 51 = nI l.length ∧ ∀ j, j < l.length → w 198 j = nI (l.getD j 0)
def FI (iv a : zI) : Prop := (∀ p, p ≠ 174 → p ≠ 198 → a p = iv p) ∧ ∀ b, b ≠ 51 → a 174 b = iv 174 b
theorem FI.refl {iv : zI} : FI iv iv := ⟨fun _ _ _ => rfl, fun _ _ => rfl⟩
theorem FI.trans {iv a b : zI} (h : FI iv a) (g : FI a b) : FI iv b := ⟨fun p p1 p2 => by rw [g.1 p p1 p2]; exact h.1 p p1 p2, fun q hq => by rw [g.2 q hq]; exact h.2 q hq⟩
theorem y_writes {d b : Nat} {l : List Nat} {iv : zI} {rv : zR} {lv : zJ} (hT : zTop rv) (hl : l.length < 80) (hW : WM iv l) : Cv mX11_writes d [.ref 174, .int (nI b)] iv rv lv (fun u r c' => r = rv ∧ c' = lv ∧ WM u (l ++ [b]) ∧ FI iv u) := by
  refine eX11_writes _ (bX11_writes_0 _ hT ?_)
  rw [hW.1, nI_clamp (by omega)]
  refine ⟨vp_in_nI hl (by decide), fun w1 e1 w2 e2 => ?_⟩
  rw [e1, zu_row (by omega), hW.1, nI_1] at e2
  refine ⟨rfl, rfl, ⟨by rw [e2, zu_eq, List.length_append]; rfl, fun j hj => ?_⟩, fun p p1 p2 => by rw [e2, zu_row p1, zu_row p2], fun q hq => by rw [e2, zu_k hq, zu_row (by omega)]⟩
  rw [List.length_append] at hj
  have hj : j < l.length + 1 := hj
  rw [gd_ap, e2, zu_row (by omega)]
  by_cases z : j = l.length
  · rw [z, zu_eq, if_neg (Nat.lt_irrefl _), if_pos rfl]
  · rw [zu_k z, if_pos (by omega)]
    exact hW.2 j (by omega)
theorem y_writesNumber {d v : Nat} {l : List Nat} {iv : zI} {rv : zR} {lv : zJ} (hT : zTop rv) (hv1 : 1 ≤ v) (hv : v ≤ 9999) (hl : l.length ≤ 60) (hW : WM iv l) : Cv mX11_writesNumber (d + 1) [.ref 174, .int (nI v)] iv rv lv (fun u r c' => r = rv ∧ c' = lv ∧ WM u (l ++ dg v) ∧ FI iv u) := by
  refine eX11_writesNumber _ (bX11_writesNumber_0 _ hT ?_)
  have step : ∀ (u : Nat) (m : List Nat) (w : zI), 1 ≤ u → u ≤ 1000 → u ≤ v → m.length < 64 → WM w m → FI iv w → (∀ w', WM w' (m ++ pc u v) → FI iv w' → Zv mX11_writesNumber (d + 1) 18 [some (.ref 174), some (.int (nI v)), some (.int (nI (u / 10)))] [] w' rv lv (fun u r c' => r = rv ∧ c' = lv ∧ WM u (l ++ dg v) ∧ FI iv u)) → Zv mX11_writesNumber (d + 1) 18 [some (.ref 174), some (.int (nI v)), some (.int (nI u))] [] w rv lv (fun u r c' => r = rv ∧ c' = lv ∧ WM u (l ++ dg v) ∧ FI iv u) := by
    intro u m w u1 u2 uv hm hw hf go
    have dv : v / u ≤ v := Nat.div_le_self _ _
    refine bX11_writesNumber_18 _ _ hT ⟨fun z => absurd z (show ¬ nI u ≤ nI 0 from nI_ge (by omega) (by omega)), fun _ => ?_⟩
    rw [show (10 : Int32) = nI 10 from rfl, show (48 : Int32) = nI 48 from rfl, pk_div (show u < 2 ^ 31 by omega) (by omega) (by omega), pk_div (show v < 2 ^ 31 by omega) (by omega) (by omega), pk_rem (by omega) (by omega) (by omega), nI_add]
    refine ⟨fun q => absurd q (show ¬ nI u = nI 0 from fun q => by rw [nI_eq (by omega) (by omega)] at q; omega), zcallV (y_writes hT (by omega) hw) ?_⟩
    rintro w1 rv1 lv1 ⟨q1, q2, g1, g2⟩
    have q1 := q1.symm
    have q2 := q2.symm
    subst q1 q2
    refine ⟨hT, go w1 ?_ (hf.trans g2)⟩
    unfold pc
    rw [if_pos uv]
    exact g1
  have pn : ∀ u, v < u → pc u v = [] := fun u hu => if_neg (by omega)
  have a := (pc_len 1000 v).1
  have b := (pc_len 100 v).1
  have c := (pc_len 10 v).1
  have fin : ∀ w : zI, WM w (l ++ dg v) → FI iv w → Zv mX11_writesNumber (d + 1) 18 [some (.ref 174), some (.int (nI v)), some (.int (nI 0))] [] w rv lv (fun u r c' => r = rv ∧ c' = lv ∧ WM u (l ++ dg v) ∧ FI iv u) := fun w h f => bX11_writesNumber_18 _ _ hT ⟨fun _ => ⟨rfl, rfl, h, f⟩, fun z => absurd (by decide) z⟩
  have s1 : ∀ (m : List Nat) (w : zI), m ++ pc 1 v = l ++ dg v → m.length < 64 → WM w m → FI iv w → Zv mX11_writesNumber (d + 1) 18 [some (.ref 174), some (.int (nI v)), some (.int (nI 1))] [] w rv lv (fun u r c' => r = rv ∧ c' = lv ∧ WM u (l ++ dg v) ∧ FI iv u) := fun m w em lm hw hf => step 1 m w (by omega) (by omega) hv1 lm hw hf (fun w' h' f' => fin w' (em ▸ h') f')
  have s2 : 10 ≤ v → ∀ (m : List Nat) (w : zI), m ++ pc 10 v ++ pc 1 v = l ++ dg v → m.length < 63 → WM w m → FI iv w → Zv mX11_writesNumber (d + 1) 18 [some (.ref 174), some (.int (nI v)), some (.int (nI 10))] [] w rv lv (fun u r c' => r = rv ∧ c' = lv ∧ WM u (l ++ dg v) ∧ FI iv u) := fun hv m w em lm hw hf => step 10 m w (by omega) (by omega) hv (by omega) hw hf (fun w' h' f' => s1 _ w' em (by rw [List.length_append]; omega) h' f')
  have s3 : 100 ≤ v → ∀ (m : List Nat) (w : zI), m ++ pc 100 v ++ pc 10 v ++ pc 1 v = l ++ dg v → m.length < 62 → WM w m → FI iv w → Zv mX11_writesNumber (d + 1) 18 [some (.ref 174), some (.int (nI v)), some (.int (nI 100))] [] w rv lv (fun u r c' => r = rv ∧ c' = lv ∧ WM u (l ++ dg v) ∧ FI iv u) := fun hv m w em lm hw hf => step 100 m w (by omega) (by omega) hv (by omega) hw hf (fun w' h' f' => s2 (by omega) _ w' em (by rw [List.length_append]; omega) h' f')
  have s4 : 1000 ≤ v → ∀ (m : List Nat) (w : zI), m ++ pc 1000 v ++ pc 100 v ++ pc 10 v ++ pc 1 v = l ++ dg v → m.length < 61 → WM w m → FI iv w → Zv mX11_writesNumber (d + 1) 18 [some (.ref 174), some (.int (nI v)), some (.int (nI 1000))] [] w rv lv (fun u r c' => r = rv ∧ c' = lv ∧ WM u (l ++ dg v) ∧ FI iv u) := fun hv m w em lm hw hf => step 1000 m w (by omega) (by omega) hv (by omega) hw hf (fun w' h' f' => s3 (by omega) _ w' em (by rw [List.length_append]; omega) h' f')
  have up1 : ∀ u : Nat, 1 ≤ u → u ≤ 1000 → (v / u ≤ 9 → Zv mX11_writesNumber (d + 1) 18 [some (.ref 174), some (.int (nI v)), some (.int (nI u))] [] iv rv lv (fun u r c' => r = rv ∧ c' = lv ∧ WM u (l ++ dg v) ∧ FI iv u)) → (¬ v / u ≤ 9 → Zv mX11_writesNumber (d + 1) 2 [some (.ref 174), some (.int (nI v)), some (.int (nI (u * 10)))] [] iv rv lv (fun u r c' => r = rv ∧ c' = lv ∧ WM u (l ++ dg v) ∧ FI iv u)) → Zv mX11_writesNumber (d + 1) 2 [some (.ref 174), some (.int (nI v)), some (.int (nI u))] [] iv rv lv (fun u r c' => r = rv ∧ c' = lv ∧ WM u (l ++ dg v) ∧ FI iv u) := by
    intro u u1 u2 g1 g2
    have dv : v / u ≤ v := Nat.div_le_self _ _
    refine bX11_writesNumber_2 _ _ hT ?_
    rw [pk_div (show v < 2 ^ 31 by omega) (by omega) (by omega), show (9 : Int32) = nI 9 from rfl, nI_leI (by omega) (by omega), show (10 : Int32) = nI 10 from rfl, pk_mul]
    exact ⟨fun q => absurd q (show ¬ nI u = nI 0 from fun q => by rw [nI_eq (by omega) (by omega)] at q; omega), g1, g2⟩
  refine up1 1 (by omega) (by omega) (fun q => ?_) (fun q => up1 10 (by omega) (by omega) (fun q => ?_) (fun q => up1 100 (by omega) (by omega) (fun q => ?_) (fun q => up1 1000 (by omega) (by omega) (fun q => ?_) (fun q => ?_))))
  · exact s1 l iv (by unfold dg; rw [pn 1000 (by omega), pn 100 (by omega), pn 10 (by omega)]; rfl) (by omega) hW FI.refl
  · exact s2 (by omega) l iv (by unfold dg; rw [pn 1000 (by omega), pn 100 (by omega)]; rw [List.append_assoc]; rfl) (by omega) hW FI.refl
  · exact s3 (by omega) l iv (by unfold dg; rw [pn 1000 (by omega)]; rw [List.append_assoc, List.append_assoc, ← List.append_assoc (pc 100 v)]; rfl) (by omega) hW FI.refl
  · exact s4 (by omega) l iv (by unfold dg; simp only [List.append_assoc]) (by omega) hW FI.refl
  · omega
theorem y_write {d : Nat} {S : St} {iv : zI} {rv : zR} {lv : zJ} (hT : zTop rv) (h : MB S iv) (hv : VT S) : Ci mX11_write (d + 31) [.ref 174] iv rv lv (YR (F_write S).2 (F_write S).1 iv rv lv) := by
  refine eX11_write (bX11_write_0 hT ?_)
  intro w0 e0
  have h0 : MB S w0 := e0 ▸ h.th
  have f0 : FM iv w0 := e0 ▸ FM.th
  rw [h0.txt]
  cases e : S.2.1 with
  | none =>
    have eF : F_write S = rf S 1 := by unfold F_write; rw [e]
    rw [eF]
    exact ⟨fun q => absurd rfl q, fun _ => zcall (y_refused hT) hT (YR.tr' rfl h0 f0)⟩
  | some s =>
    have eF : F_write S = if (lq s s.2.1).2.1 = 0 then rf S 6 else (nI (wrt s (lq s s.2.1).2.2.2 s.2.1).length, sT (sW S (wrt s (lq s s.2.1).2.2.2 s.2.1)) 0) := by unfold F_write; rw [e]
    rw [eF]
    have ms := h0.2.1.2 s e
    have vs := hv.2.1 s e
    have vn := vs.1
    have v2 := vs.2.1
    have c1 : w0 176 1 = nI s.2.1 := ms.2.1
    have c0 : w0 176 0 = nI s.1 := ms.1
    rw [c1]
    refine ⟨fun _ => zcallQ (y_areRows (d := d + 10) hT ms vs v2.1 v2.2) ?_, fun q => absurd (show (1 : Int32) = 0 from q) (by decide)⟩
    rintro y a rv1 lv1 ⟨q0, q1, q2, g1, g2⟩
    have q1 := q1.symm
    have q2 := q2.symm
    subst q0 q1 q2
    have lp := lq_pos vs s.2.1
    refine ⟨hT, fun z u0 eu => ?_, fun z => ?_⟩
    · have z : 0 < rq s s.2.1 := of_decide_eq_true ((bI_n0 _).mp z)
      obtain ⟨b1, b2, b3, b4, b5, b6⟩ := g1.2.2 z
      have lf := lq_f (s := s) (k := s.2.1) (by omega)
      rw [if_neg (show ¬ (lq s s.2.1).2.1 = 0 by have := lp.mpr z; omega)]
      generalize (lq s s.2.1).2.2.2 = ρ at b6 lf ⊢
      have fu0 : FI a u0 := ⟨fun p p1 _ => by rw [eu, zu_row p1], fun b hb => by rw [eu, zu_k hb]⟩
      have r176 : ∀ u : zI, FI a u → u 176 = w0 176 := fun u hu => by rw [hu.1 176 (by decide) (by decide), g2.1 176 (by omega)]
      have msu : ∀ u : zI, FI a u → MS u 176 0 s := fun u hu => by
        unfold MS
        rw [r176 u hu]
        exact ms
      have key := zfor (c := s.2.1) (P := fun x => ∀ w : zI, WM w (wrt s ρ x) → FI a w → Zi mX11_write (d + 31) 45 [some (.ref 174), some (.int (nI x)), none, none] [] w rv lv (YR (sT (sW S (wrt s ρ s.2.1)) 0) (nI (wrt s ρ s.2.1).length) iv rv lv)) ?_ ?_
      · exact key 0 (by omega) u0 ⟨by rw [eu, zu_eq]; rfl, fun j hj => absurd hj (Nat.not_lt_zero _)⟩ fu0
      · intro w w1 w2
        refine bX11_write_45 _ hT ⟨fun _ => ?_, fun z => absurd (by rw [r176 w w2, c1]; exact nI_le (by omega) (by omega)) z⟩
        obtain ⟨m1, m2, m3, m4, m5, m6⟩ := h0
        have fm : FM iv w := fun p hp => by rw [w2.1 p (by omega) (by omega), g2.1 p (by omega)]; exact f0 p hp
        have k1 : ∀ b, b ≠ 51 → b < 44 ∨ 47 < b → w 174 b = w0 174 b := fun b x1 x2 => by rw [w2.2 b x1, g2.2 b x2]
        have k2 : ∀ p, p ≠ 198 → 174 < p → p < 181 → w p = w0 p := fun p x1 x2 x3 => by rw [w2.1 p (by omega) x1, g2.1 p (by omega)]
        have mw : MB (sW S (wrt s ρ s.2.1)) w := by
          refine MB.mk' ?_ ?_ ?_ ?_ ?_ w1
          · rw [k1 4 (by decide) (by omega), k2 175 (by decide) (by omega) (by omega)]; exact m1
          · rw [k1 19 (by decide) (by omega)]
            unfold MS
            rw [k2 176 (by decide) (by omega) (by omega)]
            exact m2
          · unfold HM MS
            rw [k1 21 (by decide) (by omega), k2 178 (by decide) (by omega) (by omega)]
            exact m3
          · unfold MS
            rw [k2 180 (by decide) (by omega) (by omega), k2 179 (by decide) (by omega) (by omega)]
            exact m4
          · rw [k1 7 (by decide) (by omega), k1 2 (by decide) (by omega), k1 1 (by decide) (by omega)]; exact m5
        exact zcall (y_good hT) hT (YR.tr' w1.1 mw fm)
      · intro x hx ih w w1 w2
        have wb0 := (wr_b vs (i := 0) v2.2 lf hx (by omega)).1
        refine bX11_write_45 _ hT ⟨fun z => absurd z (by rw [r176 w w2, c1]; exact nI_ge hx (by omega)), fun _ => ?_⟩
        -- one heap
        have heap : ∀ (u : zI) (l : List Nat), l = wrt s ρ x ++ (if x = 0 then [] else [47]) → WM u l → FI a u → Zi mX11_write (d + 31) 69 [some (.ref 174), some (.int (nI x)), some (.int 0), some (.int (nI 0))] [] u rv lv (YR (sT (sW S (wrt s ρ s.2.1)) 0) (nI (wrt s ρ s.2.1).length) iv rv lv) := by
          intro u l el hu fu
          have ll : l.length ≤ (wrt s ρ x).length + 1 := by
            rw [el, List.length_append]
            split
            · show _ + 0 ≤ _; omega
            · exact Nat.le_refl _
          have key2 := zfor (c := s.1) (P := fun i => ∀ v : zI, WM v (l ++ hpl s ρ x i) → FI a v → Zi mX11_write (d + 31) 69 [some (.ref 174), some (.int (nI x)), some (.int (bI (decide (¬ hpl s ρ x i = [])))), some (.int (nI i))] [] v rv lv (YR (sT (sW S (wrt s ρ s.2.1)) 0) (nI (wrt s ρ s.2.1).length) iv rv lv)) ?_ ?_
          · exact key2 0 (by omega) u (by rw [hpl, List.append_nil]; exact hu) fu
          · intro v v1 v2'
            have wb := (wr_b vs (i := s.1) v2.2 lf hx (Nat.le_refl _)).1
            refine bX11_write_69 _ _ _ hT ⟨fun _ => ?_, fun z => absurd (by rw [r176 v v2', c0]; exact nI_le (by omega) (by omega)) z⟩
            rw [nI_1]
            refine ⟨fun z => ?_, fun z => ?_⟩
            · have z : ¬ hpl s ρ x s.1 = [] := of_decide_eq_true ((bI_n0 _).mp z)
              refine ih v ?_ v2'
              rw [wrt, ← el]
              unfold wHp
              rw [if_neg z]
              exact v1
            · have z : hpl s ρ x s.1 = [] := Classical.not_not.mp (of_decide_eq_false ((bI_0 _).mp z))
              rw [z, List.append_nil] at v1
              refine zcallV (y_writes (b := 48) hT (by omega) v1) ?_
              rintro t rv1 lv1 ⟨q1, q2, t1, t2⟩
              have q1 := q1.symm
              have q2 := q2.symm
              subst q1 q2
              refine ⟨hT, ih t ?_ (v2'.trans t2)⟩
              rw [wrt, ← el]
              unfold wHp
              rw [if_pos z]
              exact t1
          · intro i hi ih2 v v1 v2'
            have vb := vs.2.2.1 i hi
            have rb := lf i hi
            have c3 : v 183 i = nI (ρ i) := by rw [v2'.1 183 (by decide) (by decide)]; exact b6 i hi
            refine bX11_write_69 _ _ _ hT ⟨fun z => absurd z (by rw [r176 v v2', c0]; exact nI_ge hi (by omega)), fun _ => ?_⟩
            rw [nI_clamp (show i < 2 ^ 31 by omega), c3, nI_eq (by omega) (by omega), nI_1]
            refine ⟨vp_in_nI (by omega) (by decide), fun q => ?_, fun q => ?_⟩
            · obtain ⟨e1, e2⟩ := hpl_e vs hi q
              have wb := (wr_b vs (i := i) v2.2 lf hx (by omega)).2 hi q
              have fin : ∀ (t : zI) (m : List Nat), m ++ dg (s.2.2.1 i) = l ++ hpl s ρ x (i + 1) → m.length ≤ 60 → WM t m → FI a t → ∃ Q8 : Int32 → zI → zR → zJ → Prop, Ci mX11_value (d + 30) [.ref 174, .int (nI i)] t rv lv Q8 ∧ ∀ (v13 : Int32) (b9 : zI) (b10 : zR) (b11 : zJ), Q8 v13 b9 b10 b11 → zTop b10 ∧ ∃ Q14 : zI → zR → zJ → Prop, Cv mX11_writesNumber (d + 30) [.ref 174, .int v13] b9 b10 b11 Q14 ∧ ∀ (b15 : zI) (b16 : zR) (b17 : zJ), Q14 b15 b16 b17 → zTop b16 ∧ Zi mX11_write (d + 31) 69 [some (.ref 174), some (.int (nI x)), some (.int 1), some (.int (nI (i + 1)))] [] b15 b16 b17 (YR (sT (sW S (wrt s ρ s.2.1)) 0) (nI (wrt s ρ s.2.1).length) iv rv lv) := by
                intro t m em lm ht ft
                refine zcall (y_value (n := s.1) (v := s.2.2.1) hT (msu t ft).vals vn.2 hi) hT (zcallV (y_writesNumber (d := d + 29) hT vb.1 vb.2 lm ht) ?_)
                rintro t2 rv1 lv1 ⟨q1, q2, k1, k2⟩
                have q1 := q1.symm
                have q2 := q2.symm
                subst q1 q2
                rw [em] at k1
                have := ih2 t2 k1 (ft.trans k2)
                rw [decide_eq_true e2] at this
                exact ⟨hT, this⟩
              refine ⟨fun z => ?_, fun z => ?_⟩
              · have z : hpl s ρ x i = [] := Classical.not_not.mp (of_decide_eq_false ((bI_0 _).mp z))
                refine fin v (l ++ hpl s ρ x i) ?_ ?_ v1 v2'
                · rw [e1, if_pos z, List.append_nil, List.append_assoc]
                · rw [List.length_append]
                  omega
              · have z : ¬ hpl s ρ x i = [] := of_decide_eq_true ((bI_n0 _).mp z)
                refine zcallV (y_writes (b := 43) hT (by rw [List.length_append]; omega) v1) ?_
                rintro t rv1 lv1 ⟨q1, q2, t1, t2⟩
                have q1 := q1.symm
                have q2 := q2.symm
                subst q1 q2
                refine ⟨hT, fin t _ ?_ ?_ t1 (v2'.trans t2)⟩
                · rw [e1, if_neg z, List.append_assoc, List.append_assoc, List.append_assoc]
                · rw [List.length_append, List.length_append]
                  show _ + _ + 1 ≤ 60
                  omega
            · have e : hpl s ρ x (i + 1) = hpl s ρ x i := by rw [hpl, if_neg q]
              rw [e] at ih2
              exact ih2 v v1 v2'
          
        rw [z_0, nI_leI (by omega) (by omega)]
        refine ⟨fun q => heap w _ (by rw [if_pos (show x = 0 by omega), List.append_nil]) w1 w2, fun q => zcallV (y_writes (b := 47) hT (by omega) w1) ?_⟩
        rintro t rv1 lv1 ⟨q1, q2, t1, t2⟩
        have q1 := q1.symm
        have q2 := q2.symm
        subst q1 q2
        exact ⟨hT, heap t _ (by rw [if_neg (show ¬ x = 0 by omega)]) t1 (w2.trans t2)⟩
    · have z : ¬ 0 < rq s s.2.1 := of_decide_eq_false ((bI_0 _).mp z)
      rw [if_pos (show (lq s s.2.1).2.1 = 0 by
        rcases Nat.eq_zero_or_pos (lq s s.2.1).2.1 with y | y
        · exact y
        · exact absurd (lp.mp y) z)]
      exact zcall (y_refused hT) hT (YR.fn rfl h0 f0 g2.fn)
