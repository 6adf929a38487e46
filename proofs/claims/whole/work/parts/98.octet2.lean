/-! OCTET: what the class answers where it answers; the law's method with its table; the law's row. -/
theorem x_octet {d j n9 : Nat} {iv : zI} {rv : zR} {lv : zJ} (hT : zTop rv) (hn : iv 0 11 = nI n9) (hj : j < n9) (hn9 : n9 ≤ 64) : Ci mX10_octet d [.ref 0, .int (nI j)] iv rv lv (zP (iv 158 j) iv rv lv) := by
  refine Ci.of (loc := [some (.ref 0), some (.int (nI j))]) (by decide +kernel) (by simp [Value.category]) (Nat.le_of_ble_eq_true rfl) rfl ?_
  unfold Zi
  refine Z_iload_n (a := 1) (q := 1) (by decide +kernel) rfl rfl ?_
  refine Z_if_lt (t := 12) (off := 11) (q := 4) (by decide +kernel) (by decide) rfl (fun hc => absurd hc (nI_pos (by omega))) (fun hc => ?_)
  refine Z_iload_n (a := 1) (q := 5) (by decide +kernel) rfl rfl ?_
  refine Z_aload_n (a := 0) (q := 6) (by decide +kernel) rfl rfl ?_
  refine g10_11 (idx := 79) (q := 9) (by decide +kernel) fX10_79 rfl (by decide) rfl ?_
  rw [hn]
  refine Z_icmp_lt (t := 20) (off := 11) (q := 12) (by decide +kernel) (by decide) rfl (fun hc => ?_) (fun hc => absurd (nI_lt hj (by omega)) hc)
  refine Z_aload_n (a := 0) (q := 21) (by decide +kernel) rfl rfl ?_
  refine g10_10 (idx := 75) (q := 24) (by decide +kernel) fX10_75 rfl (by decide) (t10_10 hT) rfl ?_
  refine Z_iload_n (a := 1) (q := 25) (by decide +kernel) rfl rfl ?_
  refine Z_bald (q := 26) (len := 64) (by decide +kernel) rfl (by decide) (vp_in_nI (by omega) (by omega)) rfl ?_
  rw [nI_clamp (by omega)]
  exact Z_iret (ty := .int) (by decide +kernel) rfl rfl rfl ⟨_, rfl, zP.mk rfl⟩
def zwh : List Cond := Cond.codeWith yL_octet cL_octet 4 (some .int) [(0, 9, 12, 13)] :: Wd
def mLo : zM := (yL_octet, cL_octet, 4, some .int)
/-- the law's octet: its contract -/
def Mo (l : Launch) (d : Nat) (j : Int32) (iv : zI) (rv : zR) (lv : zJ) (Q : zQ) : Prop :=
  ∀ (D : va_G) (dA : Nat → ClassId) (ad adV : Nat → Nat) (sz : Nat), Met l yL_octet zwh (zrx d) (va_Pc [.ref (ad 0), .int j, .ref (ad 199)] (zInK l D dA ad adV iv rv lv sz)) (zOut D dA ad 200 200 sz Q) 1 8 (zA ad 200 sz)
set_option maxHeartbeats 2000000 in
theorem o_good {l : Launch} {d : Nat} {j : Int32} {iv : zI} {rv : zR} {lv : zJ} {Q : zQ} (hz : Z mLo (d, 200, 200, 1, zK0) 0 [some (.ref 0), some (.int j), some (.ref 199), none] [] 200 iv rv lv Q) : Mo l d j iv rv lv Q := by
  intro D dA ad adV sz
  refine va_MetW (cc := cL_octet) (maxL := 4) (ret := some .int) (hh := [(0, 9, 12, 13)]) (by decide +kernel) rfl ?_
  intro p e s m args below meth c s₁ Bd hml hv
  obtain ⟨rfl, ⟨hsz, hP, hK, hD0, hX⟩, -⟩ := hv
  subst hsz
  have hts := atoms_spec (ws := zwh) Bd.pre
  have hlocks := Bd.notSynchronized
  have hret := Bd.returns
  have hD : va_D (zA ad 200 s.heap.size) (zW dA ad 200 iv rv lv) := ⟨hD0.1, fun k q hk => by
    obtain ⟨h1, rfl⟩ := zW_lt hk
    exact Or.inl ⟨k, h1, rfl⟩⟩
  rw [lg_entry_eq]
  have hw := hz l p e (headSpec zwh (zrx d)).room s m _ below meth c D dA ad adV 0 0 (MQ below (zOut D dA ad 200 200 s.heap.size Q) _ s 1 8 (zA ad 200 s.heap.size)) ⟨Bd.exec, Bd.bytes, hml, findClass_of_methodNamed Bd.named, fun w h => hts w (List.mem_cons_of_mem _ h), hK, (name_of_methodNamed Bd.named Bd.method).1, ⟨Nat.le_refl _, Nat.le_refl _⟩, ⟨(show 200 - 200 + 0 + 1 ≤ 1 by decide), (show zSL 200 - zSL 200 + 0 + 8 * 1 ≤ 8 by omega)⟩, hX, (show 200 ≤ 1000000 by decide), trivial⟩
    (by
      intro yc ys _ _ g1 g2 r iv' rv' lv' ad' H locs pc ls hq hdec hag hP' hD' hS'
      have g1 : 200 - 200 + yc ≤ 1 := g1
      have g2 : zSL 200 - zSL 200 + ys ≤ 8 := g2
      have hpost : ∀ t : State, t.heap = H → s.WarmedH t.vm → zOut D dA ad 200 200 s.heap.size Q [Value.ref (ad 0), Value.int j, Value.ref (ad 199)].toArray s (.returned (r.map (zcv ad'))) t := fun t ht hW => ⟨⟨r, iv', rv', lv', ad', rfl, hq, hag, by rw [ht]; exact hP', zK_mv hW.alike hK, hD'⟩, hS'.F ht⟩
      refine W.widen (k := 1) (n := 8) g1 g2 ?_
      rcases hdec with ⟨rfl, hr, hd⟩ | ⟨v, ty, rfl, hr, hnw, hd⟩ | ⟨v, rfl, hr, hd⟩ | ⟨a, nm, rfl, hr, hd⟩
      · cases hr
      · exact W.zret Bd.exec Bd.bytes (by rw [hret]; exact hr) hnw hpost hS'.2.2 hd
      · cases hr
      · cases hr)
    ad s.heap [] _ zAg.rf (zL_args (as := [.ref 0, .int j, .ref 199]) (by simp [Value.category]) (show 3 ≤ 4 by decide) rfl) hP hD va_S.rf (Nat.le_refl _) (Nat.le_refl _)
  simp only [Nat.sub_self, Nat.add_zero] at hw
  exact hw
set_option maxHeartbeats 2000000 in
theorem o_catch {l : Launch} {d : Nat} {j : Int32} {iv : zI} {rv : zR} {lv : zJ} {Q : zQ} (hd8 : 9 ≤ d) (hj : j < 0 ∨ ¬ j < iv 0 11) (hQ : Q (some (.int 1)) iv rv lv) : Mo l d j iv rv lv Q := by
  intro D dA ad adV sz
  refine va_MetW (cc := cL_octet) (maxL := 4) (ret := some .int) (hh := [(0, 9, 12, 13)]) (by decide +kernel) rfl ?_
  intro p e s m args below meth c s₁ Bd hml hv
  obtain ⟨rfl, ⟨hsz, hP, hK, hD0, hX⟩, hKo⟩ := hv
  subst hsz
  have hts0 := atoms_spec (ws := zwh) Bd.pre
  have hts : ∀ w ∈ Wd, w.before _ s = true := fun w h => hts0 w (List.mem_cons_of_mem _ h)
  have htab : c.exceptionTable.toList = tableOf [(0, 9, 12, 13)] := vx_table (x := yL_octet) Bd (hts0 _ List.mem_cons_self)
  have hlocks := Bd.notSynchronized
  have hret := Bd.returns
  have hown : s.vm.findClass RL = some m.cls := findClass_of_methodNamed Bd.named
  have hD : va_D (zA ad 200 s.heap.size) (zW dA ad 200 iv rv lv) := ⟨hD0.1, fun k q hk => by
    obtain ⟨h1, rfl⟩ := zW_lt hk
    exact Or.inl ⟨k, h1, rfl⟩⟩
  have hpre := z_pre (av := [Value.ref (ad 0), Value.int j]) (show 200 ≤ 1000000 by decide) zAg.rf hP hD va_S.rf hK hX
  have hp : PreV s s.heap RX10 (ad 0) (va_Pc [Value.ref (ad 0), Value.int j] (zInK l D dA ad adV iv rv lv s.heap.size)) [Value.int j] :=
    ⟨fun a U g mk hq => ⟨(hpre.1 a U g mk ⟨hq.1, hq.2.1⟩).1, (hpre.1 a U g mk ⟨hq.1, hq.2.1⟩).2, hq.2.2.call⟩, va_recv hK hP (ci := 10) (q := (RX10, TX10, 15)) rfl ((zW_at (i := 0) (by decide)).trans (by rw [zE_o (ci := 10) (N := 15) rfl])), fun U hU hW => ⟨(hpre.2 U hU hW).1, (hpre.2 U hU hW).2, hKo.pass va_S.rf (fun _ h => h) hU hW⟩⟩
  rw [lg_entry_eq]
  have key : ∀ ls : Array Slot, zL ls 4 ad [some (.ref 0), some (.int j), some (.ref 199), none] → W p l e (headSpec zwh (zrx d)).room s m [Value.ref (ad 0), Value.int j, Value.ref (ad 199)].toArray below meth c s.heap [] 0 0 (MQ below (zOut D dA ad 200 200 s.heap.size Q) [Value.ref (ad 0), Value.int j, Value.ref (ad 199)].toArray s 1 8 (zA ad 200 s.heap.size)) (F0 m 0 ls []) := by
    intro ls hL
    refine lv_aload_n (pc := 0) (i := 2) (x := ad 199) Bd.exec Bd.bytes (show decode cL_octet 0 = .ok (.aload_n 2, 1) by decide +kernel) rfl (hL.2.2 2 _ rfl) ?_
    refine lv_iconst (pc := 1) (n := 0) (v := 0) Bd.exec Bd.bytes (show decode cL_octet 1 = .ok (.iconst 0, 1) by decide +kernel) (by decide) ?_
    refine lv_aload_n (pc := 2) (i := 0) (x := ad 0) Bd.exec Bd.bytes (show decode cL_octet 2 = .ok (.aload_n 0, 1) by decide +kernel) rfl (hL.2.2 0 _ rfl) ?_
    refine lv_iload_n (pc := 3) (i := 1) (x := j) Bd.exec Bd.bytes (show decode cL_octet 3 = .ok (.iload_n 1, 1) by decide +kernel) rfl (hL.2.2 1 _ rfl) ?_
    obtain ⟨k1, k2, k3, k4, k5, k6, k7, k8⟩ := kX10_octet
    have cb : CallB (headSpec zwh (zrx d)).room s [Value.ref (ad 0), Value.int j, Value.ref (ad 199)].toArray RL 7 yX10_octet cX10_octet 2 (some .int) (zws mX10_octet) (zrx (d - 1)) 1 8 1 := callB_of 1 hts (zws_good k1) rfl rfl rfl (hts _ k2) (hts _ lL_7) ⟨k6, k7, k8⟩ (z_fr (d := d) (d2 := d - 1) (mL := 2) (F := d) (Lc := 64 * d) (Nat.le_refl _) (Nat.le_refl _) (by omega) (by decide))
    have hrun := vx_runV (e := e) (below := below) (meth := meth) (locs := []) (cells := 0) (slots := 0) (C := RX10) (b := ad 0) (As := [Value.int j]) (rest := [Value.int 0, Value.ref (ad 199)]) (g := F0 m 4 ls [Value.int j, Value.ref (ad 0), Value.int 0, Value.ref (ad 199)]) ⟨Bd.exec, Bd.bytes, hml, hown, hts⟩ (o_bad (l := l) (d := d - 1) (by omega) hj D dA ad adV s.heap.size) ⟨cb, hts _ k3, hts _ k4⟩ hp rfl rfl hL.1 rfl (lv_room (Nat.le_of_ble_eq_true rfl)) (show decode cL_octet 4 = .ok (.invokevirtual 7, 3) by decide +kernel) ⟨(show 0 + 1 ≤ 1 by decide), (show 0 + 8 ≤ 8 by decide)⟩
    intro T hT X
    rcases hrun T hT X with ⟨v, st₀, t, T', L, h0, X', hL', e1, e2, hF, st⟩ | ⟨q, st₀, t, T', L, E, ce, h0, X', hL', e1, e2, hxc, hce, hcv, hcl, st⟩
    · exact hF.elim
    · obtain ⟨rfl, hz1, hz2⟩ := hxc
      rw [h0, ← e1] at hz1 hz2
      rw [← e1] at hce
      have hS' : va_S (zA ad 200 s.heap.size) s.heap T'.heap ([] ++ L) := ⟨hz1, fun q h1 _ => hz2 q h1, fun z hz => hL' z (by simpa using hz)⟩
      have hP' : va_P D vwCl (zW dA ad 200 iv rv lv) T'.heap := hP.kept (fun k q hk => hz2 _ (vx_lt hP hk))
      have hend : W p l e (headSpec zwh (zrx d)).room s m [Value.ref (ad 0), Value.int j, Value.ref (ad 199)].toArray below meth c T'.heap ([] ++ L) 1 8 (MQ below (zOut D dA ad 200 200 s.heap.size Q) [Value.ref (ad 0), Value.int j, Value.ref (ad 199)].toArray s 1 8 (zA ad 200 s.heap.size)) (F0 m 12 ls [Value.ref q]) := by
        refine lv_astore_n (pc := 12) (i := 3) (nL := 4) (x := q) (lv := []) (lv' := [(3, Value.ref q)]) Bd.exec Bd.bytes (show decode cL_octet 12 = .ok (.astore_n 3, 1) by decide +kernel) rfl ⟨hL.1, hL.2.1, fun z hz => nomatch hz⟩ (by decide) rfl (fun ls' _ => ?_)
        refine lv_iconst (pc := 13) (n := 1) (v := 1) Bd.exec Bd.bytes (show decode cL_octet 13 = .ok (.iconst 1, 1) by decide +kernel) (by decide) ?_
        refine W.zret (pc := 14) (ty := .int) Bd.exec Bd.bytes hret rfl (fun t ht hW => ?_) hS'.2.2 (show decode cL_octet 14 = .ok (.ireturn, 1) by decide +kernel) hlocks
        exact ⟨⟨some (.int 1), iv, rv, lv, ad, rfl, hQ, zAg.rf, by rw [ht]; exact hP', zK_mv hW.alike hK, hD⟩, hS'.F ht⟩
      have hk := vx_catch (p := p) (l := l) (e := e) (R := (headSpec zwh (zrx d)).room) (below := below) (cells := 0 + 1) (slots := 0 + 8) (locs := [] ++ L) (ls := ls) (rest := [Value.int 0, Value.ref (ad 199)]) (pc := 4) (name := oX) hown [] { startPc := 0, endPc := 9, handlerPc := 12, catchType := 13 } [] (htab.trans rfl) (fun z hz => nomatch hz) (by decide) (by decide) (hts _ cL_13) (va_Nw.use rfl (hKo.2.2.2 (.castable oX oX) (by simp [oB]))) hce hcv hcl hend
      obtain ⟨t2, a1, b1⟩ := hk T' rfl X'
      exact ⟨t2, st.trans a1, b1⟩
  exact key _ (zL_args (as := [.ref 0, .int j, .ref 199]) (by simp [Value.category]) (show 3 ≤ 4 by decide) rfl)
