/-! THE ROWS OF Z: calls. -/
theorem z_sub {dA : Nat → ClassId} {ad0 ad : Nat → Nat} {n0 n : Nat} {iv : zI} {rv : zR} {lv : zJ} {s : State} {H : Heap} {locs : List Loc} (hD : va_D (zA ad0 n0 s.heap.size) (zW dA ad n iv rv lv)) (hS : va_S (zA ad0 n0 s.heap.size) s.heap H locs) : ∀ q, zA ad n H.size q → zA ad0 n0 s.heap.size q := by
  rintro q (⟨i, hi, rfl⟩ | h)
  · exact hD.2 i _ (zW_at hi)
  · exact Or.inr (Nat.le_trans hS.1 h)
theorem z_pre {D : va_G} {dA : Nat → ClassId} {ad0 ad adV : Nat → Nat} {n0 n : Nat} {iv : zI} {rv : zR} {lv : zJ} {s : State} {H : Heap} {locs : List Loc} (hn : n ≤ 1000000) (hag : zAg n0 n ad0 ad) (hP : va_P D vwCl (zW dA ad n iv rv lv) H) (hD : va_D (zA ad0 n0 s.heap.size) (zW dA ad n iv rv lv)) (hS : va_S (zA ad0 n0 s.heap.size) s.heap H locs) (hK : va_K D vwCl (zTy dA) s) (hX : zX ad0 adV (zA ad0 n0 s.heap.size) s s.heap) (av : List Value) :
    FrameBlind (va_Pc av (zIn D dA ad adV n iv rv lv H.size)) ∧ ∀ U : State, U.heap = H → s.WarmedH U.vm → va_Pc av (zIn D dA ad adV n iv rv lv H.size) av.toArray U := by
  refine ⟨fun a U g mk hq => ?_, fun U hU hW => ⟨rfl, by rw [hU], by rw [hU]; exact hP, zK_mv hW.alike hK, ⟨hD.1, fun _ _ _ => trivial⟩, ?_⟩⟩
  · obtain ⟨q0, q1, q2, q3, q4, q5⟩ := hq
    exact ⟨q0, q1, q2, va_K.moved (u := U) (U := U.calling g mk a) (Vm.Alike.refl U.vm) q3, q4, zX.same (u := U) (U := U.calling g mk a) rfl q5⟩
  · rw [hU]
    exact (((hX.ad (ad' := ad) (fun i hi => hag i (Or.inr (Nat.le_trans hn hi)))).kept (fun a ha hna => hS.2.1 a ha hna)).narrow (z_sub hD hS)).warm hW
theorem z_run {p : Program} {l : Launch} {e : Env} {R : Room} {s : State} {m : MethodId} {args : Array Value} {below : List Frame} {meth : Method} {c : Code} {H : Heap} {locs : List Loc} {cells slots mc ms : Nat} {Qm : State → Prop} {pc n n1 n0 : Nat} {ls : Array Slot} {rest st0 : List Value} {a : Array Value} {D : va_G} {dA : Nat → ClassId} {ad ad0 : Nat → Nat} {Q2 : zQ}
    (hr : va_Run p l e R s m args below meth c H locs cells slots mc ms (F0 m pc ls st0) rest (zOut D dA ad n n1 H.size Q2 a) (zA ad n H.size)) (hS : va_S (zA ad0 n0 s.heap.size) s.heap H locs) (hA : ∀ q, zA ad n H.size q → zA ad0 n0 s.heap.size q)
    (kk : ∀ (r : Option Value) (iv : zI) (rv : zR) (lv : zJ) (ad' : Nat → Nat) (H1 : Heap) (locs1 : List Loc), Q2 r iv rv lv → zAg n n1 ad ad' → va_P D vwCl (zW dA ad' n1 iv rv lv) H1 → va_D (zA ad0 n0 s.heap.size) (zW dA ad' n1 iv rv lv) → va_S (zA ad0 n0 s.heap.size) s.heap H1 locs1 → W p l e R s m args below meth c H1 locs1 (cells + mc) (slots + ms) Qm (F0 m (pc + 3) ls ((r.map (zcv ad')).toList ++ rest))) : W p l e R s m args below meth c H locs cells slots Qm (F0 m pc ls st0) := by
  intro T hT X
  obtain ⟨v, st₀, t, T', L, h0, X', hL, e1, e2, ⟨⟨r, iv, rv, lv, ad', hv, hq, hag, hP, hK, hD⟩, hz, hk⟩, st⟩ := hr T hT X
  cases hv
  rw [h0] at hz hk
  have hS1 : va_S (zA ad0 n0 s.heap.size) s.heap T'.heap (locs ++ L) := ⟨Nat.le_trans hS.1 (by rw [e1]; exact hz), fun q h1 h2 => by rw [e1, hk q (Nat.lt_of_lt_of_le h1 hS.1) (fun z => h2 (hA q z))]; exact hS.2.1 q h1 h2, fun q hq => by
      rcases List.mem_append.mp hq with h | h
      · exact hS.2.2 q h
      · exact hA _ (hL q h)⟩
  obtain ⟨t2, a1, b1⟩ := kk r iv rv lv ad' T'.heap (locs ++ L) hq hag (by rw [e1]; exact hP) (hD.weaken (fun _ q _ h => hA q.1 h)) hS1 T' rfl X'
  exact ⟨t2, st t2 a1, b1⟩
theorem zws_good {M : zM} (hk : Cond.code M.1 M.2.1 M.2.2.1 M.2.2.2 ∈ Wd) : GoodIn Wd (zws M) := fun w h => (List.mem_cons.mp h).elim (fun e => by subst e; exact ⟨hk, good_of_word (List.mem_filter.mp hk).2⟩) (fun h => ⟨h, good_of_word (List.mem_filter.mp h).2⟩)
theorem z_fr {d d2 mL F Lc : Nat} (h1 : d ≤ F) (h2 : 64 * d ≤ Lc) (h3 : d2 + 1 ≤ d) (h4 : mL ≤ 40) : d2 + 1 ≤ F ∧ 8 + (mL + 11) + 64 * d2 ≤ Lc := ⟨by omega, by omega⟩
theorem zL_ad {ls : Array Slot} {nL : Nat} {ad ad' : Nat → Nat} {loc : List (Option Value)} (h : zL ls nL ad loc) (hv : ∀ v, some v ∈ loc → zcv ad' v = zcv ad v) : zL ls nL ad' loc := ⟨h.1, h.2.1, fun i v hi => by rw [hv v (List.mem_of_getElem? hi)]; exact h.2.2 i v hi⟩
def zok (n n1 : Nat) (v : Value) : Bool := match v with
  | .ref i => decide (i < n) || decide (n1 ≤ i)
  | _ => true
theorem zok_cv {n n1 : Nat} {ad ad' : Nat → Nat} (hag : zAg n n1 ad ad') {v : Value} (h : zok n n1 v = true) : zcv ad' v = zcv ad v := by
  cases v <;> try rfl
  next i =>
    have : i < n ∨ n1 ≤ i := by simpa [zok] using h
    show Value.ref (ad' i) = Value.ref (ad i)
    rw [hag i this]
theorem zSL_le {a b : Nat} (h : a ≤ b) : zSL a ≤ zSL b := by
  unfold zSL
  obtain ⟨c, rfl⟩ := Nat.exists_eq_add_of_le h
  rw [List.take_add, List.map_append, List.sum_append]
  exact Nat.le_add_right _ _
theorem Z_callV {M : zM} {B : zB} {pc q : Nat} {loc : List (Option Value)} {rest st : List Value} {n : Nat} {iv : zI} {rv : zR} {lv : zJ} {Q : zQ} {M2 : zM} {idx d2 na o : Nat} {As : List Value} {Q2 : zQ} (hd : decode M.2.1 pc = .ok (.invokevirtual idx, 3)) (hk : zMi M2 na) (hl : Cond.methodLink M.1.cls idx M2.1 ∈ Wd) {ci N : Nat} {T : u_T} (hc : vwCl[ci]? = some (M2.1.cls, T, N)) (hs : zSH o = (ci + 20, N)) (ho : o < n) (hst : As.reverse ++ .ref o :: rest = st) (hna : As.length = na) (hml : M2.2.2.1 ≤ 40) (hcat : (rest.map fun v => v.category).sum ≤ 8) (hd2 : d2 + 1 ≤ B.1) (hm : Mw M2 d2 n (.ref o :: As) n iv rv lv Q2) (hq : pc + 3 = q) (k : ∀ r iv' rv' lv', Q2 r iv' rv' lv' → Z M B q loc (r.toList ++ rest) n iv' rv' lv' Q) : Z M B pc loc st n iv rv lv Q := by
  subst hq
  subst hst
  intro l p e R s m args below meth c D dA ad0 adV xc xs Qm hC hR ad H locs ls h1 h2 h3 h4 h5 h6 h7
  have hcat2 : ((rest.map (zcv ad)).map fun v => v.category).sum ≤ 8 := by
    rw [List.map_map, show ((fun v : Value => v.category) ∘ zcv ad) = fun v => v.category from funext fun v => zcv_cat ad v]
    exact hcat
  obtain ⟨hx, hb, hmlc, hown, hts, hK, hnm, hfr, hroom, hX, hB⟩ := hC
  have hpre := z_pre (Nat.le_trans h7 hB.1) h1 h3 h4 h5 hK hX ((.ref o :: As).map (zcv ad))
  obtain ⟨k1, k2, k3, k4, k5, k6, k7, k8⟩ := hk
  have hroom2 : n - B.2.1 + xc + (n - n) ≤ R.cells ∧ zSL n - zSL B.2.1 + xs + (zSL n - zSL n) ≤ R.slots := by
    have a1 := zSL_le h6
    have a2 := zSL_le h7
    exact ⟨by omega, by omega⟩
  have cb : CallB R s args M.1.cls idx M2.1 M2.2.1 M2.2.2.1 M2.2.2.2 (zws M2) (zrm d2 n n) (n - n) (zSL n - zSL n) na := callB_of na hts (zws_good k1) rfl rfl rfl (hts _ k2) (hts _ hl) ⟨k6, k7, k8⟩ (z_fr hfr.1 hfr.2 hd2 hml)
  have hrecv := va_recv hK h3 hc ((zW_at ho).trans (by rw [zE_o hs]))
  have hrun := va_runV (e := e) (below := below) (meth := meth) (locs := locs) (C := M2.1.cls) (b := ad o) (As := As.map (zcv ad)) (rest := rest.map (zcv ad)) (g := F0 m pc ls ((As.reverse ++ .ref o :: rest).map (zcv ad))) ⟨hx, hb, hmlc, hown, hts⟩ (hm l D dA ad adV H.size) ⟨cb, hts _ k3, hts _ k4⟩ ⟨hpre.1, hrecv, hpre.2⟩ rfl (by simpa using hna) h2.1 (by simp [List.map_append, List.map_reverse, zcv]) (lv_room hcat2) hd hroom2
  refine z_run hrun h5 (z_sub h4 h5) (fun r iv' rv' lv' ad' H1 locs1 hq hag hP hD hS => ?_)
  cases hag.same
  have hw := k r iv' rv' lv' hq l p e R s m args below meth c D dA ad0 adV xc xs Qm ⟨hx, hb, hmlc, hown, hts, hK, hnm, hfr, hroom, hX, hB⟩ hR ad H1 locs1 ls h1 h2 hP hD hS h6 h7
  have e1 : n - B.2.1 + xc + (n - n) = n - B.2.1 + xc := by omega
  have e2 : zSL n - zSL B.2.1 + xs + (zSL n - zSL n) = zSL n - zSL B.2.1 + xs := by omega
  rw [e1, e2]
  have e3 : (r.map (zcv ad)).toList ++ rest.map (zcv ad) = (r.toList ++ rest).map (zcv ad) := by cases r <;> simp
  rw [e3]
  exact hw
theorem Z_callS {M : zM} {B : zB} {pc q : Nat} {loc : List (Option Value)} {rest st : List Value} {n : Nat} {iv : zI} {rv : zR} {lv : zJ} {Q : zQ} {M2 : zM} {idx d2 na : Nat} {As : List Value} {Q2 : zQ} (hd : decode M.2.1 pc = .ok (.invokestatic idx, 3)) (hk : zMs M2 na) (hl : Cond.methodLink M.1.cls idx M2.1 ∈ Wd) (hst : As.reverse ++ rest = st) (hna : As.length = na) (hml : M2.2.2.1 ≤ 40) (hcat : (rest.map fun v => v.category).sum ≤ 8) (hd2 : d2 + 1 ≤ B.1) (hm : Mw M2 d2 n As n iv rv lv Q2) (hq : pc + 3 = q) (k : ∀ r iv' rv' lv', Q2 r iv' rv' lv' → Z M B q loc (r.toList ++ rest) n iv' rv' lv' Q) : Z M B pc loc st n iv rv lv Q := by
  subst hq
  subst hst
  intro l p e R s m args below meth c D dA ad0 adV xc xs Qm hC hR ad H locs ls h1 h2 h3 h4 h5 h6 h7
  have hcat2 : ((rest.map (zcv ad)).map fun v => v.category).sum ≤ 8 := by
    rw [List.map_map, show ((fun v : Value => v.category) ∘ zcv ad) = fun v => v.category from funext fun v => zcv_cat ad v]
    exact hcat
  obtain ⟨hx, hb, hmlc, hown, hts, hK, hnm, hfr, hroom, hX, hB⟩ := hC
  have hpre := z_pre (Nat.le_trans h7 hB.1) h1 h3 h4 h5 hK hX (As.map (zcv ad))
  obtain ⟨k1, k2, k3, k5, k6, k7, k8⟩ := hk
  have hroom2 : n - B.2.1 + xc + (n - n) ≤ R.cells ∧ zSL n - zSL B.2.1 + xs + (zSL n - zSL n) ≤ R.slots := by
    have a1 := zSL_le h6
    have a2 := zSL_le h7
    exact ⟨by omega, by omega⟩
  have cb : CallB R s args M.1.cls idx M2.1 M2.2.1 M2.2.2.1 M2.2.2.2 (zws M2) (zrm d2 n n) (n - n) (zSL n - zSL n) na := callB_of na hts (zws_good k1) rfl rfl rfl (hts _ k2) (hts _ hl) ⟨k6, k7, k8⟩ (z_fr hfr.1 hfr.2 hd2 hml)
  have hrun := va_runS (e := e) (below := below) (meth := meth) (locs := locs) (As := As.map (zcv ad)) (rest := rest.map (zcv ad)) (g := F0 m pc ls ((As.reverse ++ rest).map (zcv ad))) ⟨hx, hb, hmlc, hown, hts⟩ (hm l D dA ad adV H.size) ⟨cb, hts _ k3⟩ hpre rfl (by simpa using hna) h2.1 (by simp [List.map_append, List.map_reverse, zcv]) (lv_room hcat2) hd hroom2
  refine z_run hrun h5 (z_sub h4 h5) (fun r iv' rv' lv' ad' H1 locs1 hq hag hP hD hS => ?_)
  cases hag.same
  have hw := k r iv' rv' lv' hq l p e R s m args below meth c D dA ad0 adV xc xs Qm ⟨hx, hb, hmlc, hown, hts, hK, hnm, hfr, hroom, hX, hB⟩ hR ad H1 locs1 ls h1 h2 hP hD hS h6 h7
  have e1 : n - B.2.1 + xc + (n - n) = n - B.2.1 + xc := by omega
  have e2 : zSL n - zSL B.2.1 + xs + (zSL n - zSL n) = zSL n - zSL B.2.1 + xs := by omega
  rw [e1, e2]
  have e3 : (r.map (zcv ad)).toList ++ rest.map (zcv ad) = (r.toList ++ rest).map (zcv ad) := by cases r <;> simp
  rw [e3]
  exact hw
theorem Z_callSN {M : zM} {B : zB} {pc q : Nat} {loc : List (Option Value)} {rest st : List Value} {n : Nat} {iv : zI} {rv : zR} {lv : zJ} {Q : zQ} {M2 : zM} {idx d2 na : Nat} {As : List Value} {Q2 : zQ} (hd : decode M.2.1 pc = .ok (.invokestatic idx, 3)) (hk : zMs M2 na) (hl : (M.1.cls, idx, M2.1) ∈ zNs) (hst : As.reverse ++ rest = st) (hna : As.length = na) (hml : M2.2.2.1 ≤ 40) (hcat : (rest.map fun v => v.category).sum ≤ 8) (hd2 : d2 + 1 ≤ B.1) (hm : Mw M2 d2 n As n iv rv lv Q2) (hq : pc + 3 = q) (k : ∀ r iv' rv' lv', Q2 r iv' rv' lv' → Z M B q loc (r.toList ++ rest) n iv' rv' lv' Q) : Z M B pc loc st n iv rv lv Q := by
  subst hq
  subst hst
  intro l p e R s m args below meth c D dA ad0 adV xc xs Qm hC hR ad H locs ls h1 h2 h3 h4 h5 h6 h7
  have hcat2 : ((rest.map (zcv ad)).map fun v => v.category).sum ≤ 8 := by
    rw [List.map_map, show ((fun v : Value => v.category) ∘ zcv ad) = fun v => v.category from funext fun v => zcv_cat ad v]
    exact hcat
  obtain ⟨hx, hb, hmlc, hown, hts, hK, hnm, hfr, hroom, hX, hB⟩ := hC
  have hpre := z_pre (Nat.le_trans h7 hB.1) h1 h3 h4 h5 hK hX (As.map (zcv ad))
  obtain ⟨k1, k2, k3, k5, k6, k7, k8⟩ := hk
  have hroom2 : n - B.2.1 + xc + (n - n) ≤ R.cells ∧ zSL n - zSL B.2.1 + xs + (zSL n - zSL n) ≤ R.slots := by
    have a1 := zSL_le h6
    have a2 := zSL_le h7
    exact ⟨by omega, by omega⟩
  have cb : va_CN R s args M.1.cls idx M2.1 "NumberHeaps" M2.2.1 M2.2.2.1 M2.2.2.2 (zws M2) (zrm d2 n n) (n - n) (zSL n - zSL n) na := va_cnB na hts (zws_good k1) rfl rfl rfl (hX.2.2.2.2.2.1 _ hl) (hts _ k2) ⟨k6, k7, k8⟩ (z_fr hfr.1 hfr.2 hd2 hml)
  have hrun := va_runSN (e := e) (below := below) (meth := meth) (locs := locs) (As := As.map (zcv ad)) (rest := rest.map (zcv ad)) (g := F0 m pc ls ((As.reverse ++ rest).map (zcv ad))) ⟨hx, hb, hmlc, hown, hts⟩ (hm l D dA ad adV H.size) ⟨cb, hts _ k3, trivial⟩ hpre rfl (by simpa using hna) h2.1 (by simp [List.map_append, List.map_reverse, zcv]) (lv_room hcat2) hd hroom2
  refine z_run hrun h5 (z_sub h4 h5) (fun r iv' rv' lv' ad' H1 locs1 hq hag hP hD hS => ?_)
  cases hag.same
  have hw := k r iv' rv' lv' hq l p e R s m args below meth c D dA ad0 adV xc xs Qm ⟨hx, hb, hmlc, hown, hts, hK, hnm, hfr, hroom, hX, hB⟩ hR ad H1 locs1 ls h1 h2 hP hD hS h6 h7
  have e1 : n - B.2.1 + xc + (n - n) = n - B.2.1 + xc := by omega
  have e2 : zSL n - zSL B.2.1 + xs + (zSL n - zSL n) = zSL n - zSL B.2.1 + xs := by omega
  rw [e1, e2]
  have e3 : (r.map (zcv ad)).toList ++ rest.map (zcv ad) = (r.toList ++ rest).map (zcv ad) := by cases r <;> simp
  rw [e3]
  exact hw
theorem Z_callI {M : zM} {B : zB} {pc q : Nat} {loc : List (Option Value)} {rest st : List Value} {n : Nat} {iv : zI} {rv : zR} {lv : zJ} {Q : zQ} {M2 : zM} {idx d2 na o n2 : Nat} {As : List Value} {Q2 : zQ} (hd : decode M.2.1 pc = .ok (.invokespecial idx, 3)) (hk : zMc M2 na) (hl : Cond.methodLink M.1.cls idx M2.1 ∈ Wd) (hst : As.reverse ++ .ref o :: rest = st) (hna : As.length = na) (hml : M2.2.2.1 ≤ 40) (hcat : (rest.map fun v => v.category).sum ≤ 8) (hd2 : d2 + 1 ≤ B.1) (hn2 : n ≤ n2) (hn3 : n2 ≤ B.2.2.1) (hokS : rest.all (zok n n2) = true) (hokL : loc.all (fun v => match v with | some v => zok n n2 v | none => true) = true) (hret : M2.2.2.2 = none) (hm : Mw M2 d2 n2 (.ref o :: As) n iv rv lv Q2) (hq : pc + 3 = q) (k : ∀ r iv' rv' lv', Q2 r iv' rv' lv' → Z M B q loc (r.toList ++ rest) n2 iv' rv' lv' Q) : Z M B pc loc st n iv rv lv Q := by
  subst hq
  subst hst
  intro l p e R s m args below meth c D dA ad0 adV xc xs Qm hC hR ad H locs ls h1 h2 h3 h4 h5 h6 h7
  have hcat2 : ((rest.map (zcv ad)).map fun v => v.category).sum ≤ 8 := by
    rw [List.map_map, show ((fun v : Value => v.category) ∘ zcv ad) = fun v => v.category from funext fun v => zcv_cat ad v]
    exact hcat
  obtain ⟨hx, hb, hmlc, hown, hts, hK, hnm, hfr, hroom, hX, hB⟩ := hC
  have hpre := z_pre (Nat.le_trans h7 hB.1) h1 h3 h4 h5 hK hX ((.ref o :: As).map (zcv ad))
  obtain ⟨k1, k2, k3, k4, k5, k6, k7, k8⟩ := hk
  have hroom2 : n - B.2.1 + xc + (n2 - n) ≤ R.cells ∧ zSL n - zSL B.2.1 + xs + (zSL n2 - zSL n) ≤ R.slots := by
    have a1 := zSL_le h6
    have a2 := zSL_le hn2
    have a3 := zSL_le hn3
    exact ⟨by omega, by omega⟩
  have cb : CallB R s args M.1.cls idx M2.1 M2.2.1 M2.2.2.1 M2.2.2.2 (zws M2) (zrm d2 n n2) (n2 - n) (zSL n2 - zSL n) na := callB_of na hts (zws_good k1) rfl rfl rfl (hts _ k2) (hts _ hl) ⟨k6, k7, k8⟩ (z_fr hfr.1 hfr.2 hd2 hml)
  have hrun := va_runI (e := e) (below := below) (meth := meth) (locs := locs) (b := ad o) (As := As.map (zcv ad)) (rest := rest.map (zcv ad)) (g := F0 m pc ls ((As.reverse ++ .ref o :: rest).map (zcv ad))) ⟨hx, hb, hmlc, hown, hts⟩ (hm l D dA ad adV H.size) ⟨hret ▸ cb, k4, hts _ k3⟩ hpre rfl (by simpa using hna) h2.1 (by simp [List.map_append, List.map_reverse, zcv]) (lv_room hcat2) hd hroom2
  refine z_run hrun h5 (z_sub h4 h5) (fun r iv' rv' lv' ad' H1 locs1 hq hag hP hD hS => ?_)
  have hag2 : zAg B.2.1 n2 ad0 ad' := h1.trans h6 hn2 hag
  have hL2 : zL ls M.2.2.1 ad' loc := zL_ad h2 (fun v hv => zok_cv hag (by simpa using List.all_eq_true.mp hokL _ hv))
  have hst2 : rest.map (zcv ad) = rest.map (zcv ad') := List.map_congr_left (fun v hv => (zok_cv hag (List.all_eq_true.mp hokS _ hv)).symm)
  have hw := k r iv' rv' lv' hq l p e R s m args below meth c D dA ad0 adV xc xs Qm ⟨hx, hb, hmlc, hown, hts, hK, hnm, hfr, hroom, hX, hB⟩ hR ad' H1 locs1 ls hag2 hL2 hP hD hS (Nat.le_trans h6 hn2) hn3
  rw [hst2]
  have e1 : n - B.2.1 + xc + (n2 - n) = n2 - B.2.1 + xc := by omega
  have e2 : zSL n - zSL B.2.1 + xs + (zSL n2 - zSL n) = zSL n2 - zSL B.2.1 + xs := by
    have a1 := zSL_le h6
    have a2 := zSL_le hn2
    omega
  rw [e1, e2]
  have e3 : (r.map (zcv ad')).toList ++ rest.map (zcv ad') = (r.toList ++ rest).map (zcv ad') := by cases r <;> simp
  rw [e3]
  exact hw
theorem Z_callIN {M : zM} {B : zB} {pc q : Nat} {loc : List (Option Value)} {rest st : List Value} {n : Nat} {iv : zI} {rv : zR} {lv : zJ} {Q : zQ} {M2 : zM} {idx d2 na o n2 : Nat} {As : List Value} {Q2 : zQ} (hd : decode M.2.1 pc = .ok (.invokespecial idx, 3)) (hk : zMc M2 na) (hl : (M.1.cls, idx, M2.1) ∈ zNs) (hst : As.reverse ++ .ref o :: rest = st) (hna : As.length = na) (hml : M2.2.2.1 ≤ 40) (hcat : (rest.map fun v => v.category).sum ≤ 8) (hd2 : d2 + 1 ≤ B.1) (hn2 : n ≤ n2) (hn3 : n2 ≤ B.2.2.1) (hokS : rest.all (zok n n2) = true) (hokL : loc.all (fun v => match v with | some v => zok n n2 v | none => true) = true) (hret : M2.2.2.2 = none) (hm : Mw M2 d2 n2 (.ref o :: As) n iv rv lv Q2) (hq : pc + 3 = q) (k : ∀ r iv' rv' lv', Q2 r iv' rv' lv' → Z M B q loc (r.toList ++ rest) n2 iv' rv' lv' Q) : Z M B pc loc st n iv rv lv Q := by
  subst hq
  subst hst
  intro l p e R s m args below meth c D dA ad0 adV xc xs Qm hC hR ad H locs ls h1 h2 h3 h4 h5 h6 h7
  have hcat2 : ((rest.map (zcv ad)).map fun v => v.category).sum ≤ 8 := by
    rw [List.map_map, show ((fun v : Value => v.category) ∘ zcv ad) = fun v => v.category from funext fun v => zcv_cat ad v]
    exact hcat
  obtain ⟨hx, hb, hmlc, hown, hts, hK, hnm, hfr, hroom, hX, hB⟩ := hC
  have hpre := z_pre (Nat.le_trans h7 hB.1) h1 h3 h4 h5 hK hX ((.ref o :: As).map (zcv ad))
  obtain ⟨k1, k2, k3, k4, k5, k6, k7, k8⟩ := hk
  have hroom2 : n - B.2.1 + xc + (n2 - n) ≤ R.cells ∧ zSL n - zSL B.2.1 + xs + (zSL n2 - zSL n) ≤ R.slots := by
    have a1 := zSL_le h6
    have a2 := zSL_le hn2
    have a3 := zSL_le hn3
    exact ⟨by omega, by omega⟩
  have cb : va_CN R s args M.1.cls idx M2.1 "NumberHeaps" M2.2.1 M2.2.2.1 M2.2.2.2 (zws M2) (zrm d2 n n2) (n2 - n) (zSL n2 - zSL n) na := va_cnB na hts (zws_good k1) rfl rfl rfl (hX.2.2.2.2.2.1 _ hl) (hts _ k2) ⟨k6, k7, k8⟩ (z_fr hfr.1 hfr.2 hd2 hml)
  have hrun := va_runIN (e := e) (below := below) (meth := meth) (locs := locs) (b := ad o) (As := As.map (zcv ad)) (rest := rest.map (zcv ad)) (g := F0 m pc ls ((As.reverse ++ .ref o :: rest).map (zcv ad))) ⟨hx, hb, hmlc, hown, hts⟩ (hm l D dA ad adV H.size) ⟨hret ▸ cb, k4, hts _ k3⟩ hpre rfl (by simpa using hna) h2.1 (by simp [List.map_append, List.map_reverse, zcv]) (lv_room hcat2) hd hroom2
  refine z_run hrun h5 (z_sub h4 h5) (fun r iv' rv' lv' ad' H1 locs1 hq hag hP hD hS => ?_)
  have hag2 : zAg B.2.1 n2 ad0 ad' := h1.trans h6 hn2 hag
  have hL2 : zL ls M.2.2.1 ad' loc := zL_ad h2 (fun v hv => zok_cv hag (by simpa using List.all_eq_true.mp hokL _ hv))
  have hst2 : rest.map (zcv ad) = rest.map (zcv ad') := List.map_congr_left (fun v hv => (zok_cv hag (List.all_eq_true.mp hokS _ hv)).symm)
  have hw := k r iv' rv' lv' hq l p e R s m args below meth c D dA ad0 adV xc xs Qm ⟨hx, hb, hmlc, hown, hts, hK, hnm, hfr, hroom, hX, hB⟩ hR ad' H1 locs1 ls hag2 hL2 hP hD hS (Nat.le_trans h6 hn2) hn3
  rw [hst2]
  have e1 : n - B.2.1 + xc + (n2 - n) = n2 - B.2.1 + xc := by omega
  have e2 : zSL n - zSL B.2.1 + xs + (zSL n2 - zSL n) = zSL n2 - zSL B.2.1 + xs := by
    have a1 := zSL_le h6
    have a2 := zSL_le hn2
    omega
  rw [e1, e2]
  have e3 : (r.map (zcv ad')).toList ++ rest.map (zcv ad') = (r.toList ++ rest).map (zcv ad') := by cases r <;> simp
  rw [e3]
  exact hw
