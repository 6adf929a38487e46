/-! THE LAW'S ROWS: its octet, its script. -/
def mLw : zM := (yL_law, cL_law, 7, some .boolean)
theorem zw_lo : Cond.codeWith yL_octet cL_octet 4 (some .int) [(0, 9, 12, 13)] ∈ Wd ∧ Cond.initialized RL ∈ Wd ∧ Cond.static yL_octet ∈ Wd := ⟨List.mem_filter.mpr ⟨(by decide +kernel), (by decide +kernel)⟩, List.mem_filter.mpr ⟨(by decide +kernel), (by decide +kernel)⟩, List.mem_filter.mpr ⟨(by decide +kernel), (by decide +kernel)⟩⟩
theorem zwh_good : GoodIn Wd (va_wsS RL 179 yL_octet zwh) := fun w h => by
  have hw : w ∈ Wd := by
    simp only [va_wsS, zwh, List.cons_append, List.nil_append, List.mem_cons] at h
    rcases h with rfl | rfl | rfl | rfl | h
    · exact lL_179
    · exact zw_lo.2.2
    · exact zw_lo.2.1
    · exact zw_lo.1
    · exact h
  exact ⟨hw, good_of_word (List.mem_filter.mp hw).2⟩
set_option maxHeartbeats 2000000 in
theorem Z_octet {d d2 x pc q : Nat} {K : (Nat → Prop) → Launch → State → (Nat → Nat) → Prop} {loc : List (Option Value)} {rest : List Value} {iv : zI} {rv : zR} {lv : zJ} {Q : zQ} {j : Int32} {Q2 : zQ} (hd : decode cL_law pc = .ok (.invokestatic 179, 3)) (hKo : ∀ A l U ad, K A l U ad → zKo A l U ad) (hcat : (rest.map fun v => v.category).sum ≤ 8) (hd2 : d2 + 1 ≤ d) (hm : ∀ l, Mo l d2 j iv rv lv Q2) (hq : pc + 3 = q) (k : ∀ r iv' rv' lv', Q2 r iv' rv' lv' → Z mLw (d, 0, 200, x, K) q loc (r.toList ++ rest) 200 iv' rv' lv' Q) : Z mLw (d, 0, 200, x + 1, K) pc loc (.ref 199 :: .int j :: .ref 0 :: rest) 200 iv rv lv Q := by
  subst hq
  intro l p e R s m args below meth c D dA ad0 adV xc xs Qm hC hR ad H locs ls h1 h2 h3 h4 h5 h6 h7
  have hcat2 : ((rest.map (zcv ad)).map fun v => v.category).sum ≤ 8 := by
    rw [List.map_map, show ((fun v : Value => v.category) ∘ zcv ad) = fun v => v.category from funext fun v => zcv_cat ad v]
    exact hcat
  obtain ⟨hx, hb, hmlc, hown, hts, hK, hnm, hfr, hroom, hX, hB⟩ := hC
  have hpre := z_pre (Nat.le_trans h7 hB.1) h1 h3 h4 h5 hK hX (([.ref 0, .int j, .ref 199] : List Value).map (zcv ad))
  have hko : zKo (zA ad0 0 s.heap.size) l s ad0 := hKo _ _ _ _ hB.2
  have hpre2 : PreS s H (va_Pc [Value.ref (ad 0), Value.int j, Value.ref (ad 199)] (zInK l D dA ad adV iv rv lv H.size)) [Value.ref (ad 0), Value.int j, Value.ref (ad 199)] :=
    ⟨fun a U g mk hq => ⟨(hpre.1 a U g mk ⟨hq.1, hq.2.1⟩).1, (hpre.1 a U g mk ⟨hq.1, hq.2.1⟩).2, hq.2.2.call⟩, fun U hU hW => ⟨(hpre.2 U hU hW).1, (hpre.2 U hU hW).2, hko.pass h5 (z_sub h4 h5) hU hW⟩⟩
  have hroom0 : 200 - 0 + xc + (x + 1) ≤ R.cells ∧ zSL 200 - zSL 0 + xs + 8 * (x + 1) ≤ R.slots := hroom
  have hroom2 : 200 - 0 + xc + 1 ≤ R.cells ∧ zSL 200 - zSL 0 + xs + 8 ≤ R.slots := ⟨by omega, by omega⟩
  have cw : vx_CSW R s args RL 179 yL_octet cL_octet 4 (some .int) [(0, 9, 12, 13)] zwh (zrx d2) 1 8 3 := vx_cwSW 3 hts zwh_good rfl rfl rfl ⟨(by decide), (by decide), (by decide +kernel)⟩ (z_fr hfr.1 hfr.2 hd2 (by decide))
  have hrun := vx_runSW (e := e) (below := below) (meth := meth) (locs := locs) (cells := 200 - 0 + xc) (slots := zSL 200 - zSL 0 + xs) (H := H) (As := [Value.ref (ad 0), Value.int j, Value.ref (ad 199)]) (rest := rest.map (zcv ad)) (g := F0 m pc ls ((.ref 199 :: .int j :: .ref 0 :: rest).map (zcv ad))) ⟨hx, hb, hmlc, hown, hts⟩ (hm l D dA ad adV H.size) cw hpre2 rfl rfl h2.1 (by simp [zcv]) (lv_room hcat2) hd hroom2
  refine z_run hrun h5 (z_sub h4 h5) (fun r iv' rv' lv' ad' H1 locs1 hq hag hP hD hS => ?_)
  cases hag.same
  have hw := k r iv' rv' lv' hq l p e R s m args below meth c D dA ad0 adV (xc + 1) (xs + 8) Qm ⟨hx, hb, hmlc, hown, hts, hK, hnm, hfr, ⟨(show 200 - 0 + (xc + 1) + x ≤ R.cells by omega), (show zSL 200 - zSL 0 + (xs + 8) + 8 * x ≤ R.slots by omega)⟩, hX, hB⟩ (fun yc ys a1 a2 a3 a4 => hR yc ys (by omega) (by omega) a3 a4) ad H1 locs1 ls h1 h2 hP hD hS h6 h7
  have e3 : (r.map (zcv ad)).toList ++ rest.map (zcv ad) = (r.toList ++ rest).map (zcv ad) := by cases r <;> simp
  have e4 : 200 - 0 + xc + 1 = 200 - 0 + (xc + 1) := by omega
  have e5 : zSL 200 - zSL 0 + xs + 8 = zSL 200 - zSL 0 + (xs + 8) := by omega
  rw [e3, e4, e5]
  exact hw
/-- what is known of the law's start: the throw's things, the script -/
def zKl (b L : Nat) (xs : Nat → Int32) : (Nat → Prop) → Launch → State → (Nat → Nat) → Prop := fun A l U ad => zKo A l U ad ∧ ad 2000000 = b ∧ va_X b L xs U U.heap ∧ b < U.heap.size ∧ ¬ A b
theorem Z_scrLen {d x pc q b L : Nat} {xs : Nat → Int32} {loc : List (Option Value)} {rest : List Value} {iv : zI} {rv : zR} {lv : zJ} {Q : zQ} (hd : decode cL_law pc = .ok (.arraylength, 1)) (hq : pc + 1 = q) (k : Z mLw (d, 0, 200, x, zKl b L xs) q loc (.int (nI L) :: rest) 200 iv rv lv Q) : Z mLw (d, 0, 200, x, zKl b L xs) pc loc (.ref 2000000 :: rest) 200 iv rv lv Q := by
  subst hq
  intro l p e R s m args below meth c D dA ad0 adV xc xs Qm hC hR ad H locs ls h1 h2 h3 h4 h5 h6 h7
  have hw := k l p e R s m args below meth c D dA ad0 adV xc xs Qm hC hR ad H locs ls h1 h2 h3 h4 h5 h6 h7
  obtain ⟨hx, hb, hmlc, hown, hts, hK, hnm, hfr, hroom, hX, hB⟩ := hC
  obtain ⟨-, e1, e2, e3, e4⟩ := hB.2
  have e5 : ad 2000000 = b := (h1 2000000 (Or.inr (by decide))).trans e1
  have hg := va_slen (e := e) (below := below) (meth := meth) (args := args) hx hb e2 e3 e4 h5 hd hw
  rw [← e5] at hg
  exact hg
theorem Z_scrAt {d x pc q b L : Nat} {xs : Nat → Int32} {loc : List (Option Value)} {rest : List Value} {iv : zI} {rv : zR} {lv : zJ} {Q : zQ} {i : Int32} (hd : decode cL_law pc = .ok (.iaload, 1)) (hin : vp_in i L) (hq : pc + 1 = q) (k : Z mLw (d, 0, 200, x, zKl b L xs) q loc (.int (xs i.toNatClampNeg) :: rest) 200 iv rv lv Q) : Z mLw (d, 0, 200, x, zKl b L xs) pc loc (.int i :: .ref 2000000 :: rest) 200 iv rv lv Q := by
  subst hq
  intro l p e R s m args below meth c D dA ad0 adV xc xs1 Qm hC hR ad H locs ls h1 h2 h3 h4 h5 h6 h7
  have hw := k l p e R s m args below meth c D dA ad0 adV xc xs1 Qm hC hR ad H locs ls h1 h2 h3 h4 h5 h6 h7
  obtain ⟨hx, hb, hmlc, hown, hts, hK, hnm, hfr, hroom, hX, hB⟩ := hC
  obtain ⟨-, e1, e2, e3, e4⟩ := hB.2
  have e5 : ad 2000000 = b := (h1 2000000 (Or.inr (by decide))).trans e1
  have hg := va_sld (e := e) (below := below) (meth := meth) (args := args) hx hb e2 e3 e4 h5 hin hd hw
  rw [← e5] at hg
  exact hg
