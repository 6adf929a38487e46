/-! A ROW OF ROWS OF INTS at once. -/
theorem mo_outer (c : ClassId) (N h0 : Nat) : ∀ i : Nat, Jvm.Free.Multi.outerC c N h0 i = arrV c N (fun j => va_rf (if j < i then some (h0 + 1 + j) else none))
  | 0 => by
    show ({ cls := c, slots := Array.replicate N .null, vm := .none } : Cell) = _
    rw [arrV_new]
    refine congrArg (arrV c N) (funext fun j => ?_)
    simp [va_rf]
  | i + 1 => by
    show (Jvm.Free.Multi.outerC c N h0 i).setSlot i (.ref (h0 + 1 + i)) = _
    rw [mo_outer c N h0 i, arrV_store]
    refine congrArg (arrV c N) (funext fun j => ?_)
    by_cases e : j = i
    · subst e
      simp [updV, va_rf]
    · by_cases h : j < i
      · simp [updV, e, h, Nat.lt_succ_of_lt h]
      · simp [updV, e, h, show ¬ j < i + 1 by omega]
def rmna (n : Nat) (rv : zR) : zR := fun a k => if a = n ∧ k < 10 then some (n + 1 + k) else rv a k
theorem zFresh.mna {n : Nat} {iv : zI} {rv : zR} {lv : zJ} (h : zFresh n iv rv lv) : zFresh (n + 11) iv (rmna n rv) lv := by
  refine ⟨fun a ha k => ?_, fun a k r hr => ?_⟩
  · have := h.1 a (by omega) k
    refine ⟨this.1, ?_, this.2.2⟩
    show (if a = n ∧ k < 10 then some (n + 1 + k) else rv a k) = none
    rw [if_neg (by omega)]
    exact this.2.1
  · have hr : (if a = n ∧ k < 10 then some (n + 1 + k) else rv a k) = some r := hr
    by_cases q : a = n ∧ k < 10
    · rw [if_pos q] at hr
      have := Option.some.inj hr
      omega
    · rw [if_neg q] at hr
      have := h.2 a k r hr
      omega
set_option maxHeartbeats 2000000 in
theorem Z_mna {M : zM} {B : zB} {pc q : Nat} {loc : List (Option Value)} {rest : List Value} {n : Nat} {iv : zI} {rv : zR} {lv : zJ} {Q : zQ} {idx : Nat} (hd : decode M.2.1 pc = .ok (.multianewarray idx 2, 4)) (hcl : Cond.classLink M.1.cls idx ("[" ++ (FieldType.array FieldType.int).toString) ∈ Wd) (harr : Cond.arrayClass .int ∈ Wd) (hsh : zSH n = (7, 10)) (hsi : ∀ j, j < 10 → zSH (n + 1 + j) = (0, 4)) (hsl : zSL (n + 11) = zSL n + 50) (hf : zFresh n iv rv lv) (hn1 : n + 11 ≤ B.2.2.1) (hokS : rest.all (zok n (n + 11)) = true) (hokL : loc.all (fun v => match v with | some v => zok n (n + 11) v | none => true) = true) (hq : pc + 4 = q) (k : Z M B q loc (.ref n :: rest) (n + 11) iv (rmna n rv) lv Q) : Z M B pc loc (.int 4 :: .int 10 :: rest) n iv rv lv Q := by
  subst hq
  intro l p e R s m args below meth c D dA ad0 adV xc xs Qm hC hR ad H locs ls h1 h2 h3 h4 h5 h6 h7
  have hC' := hC
  obtain ⟨hx, hb, hmlc, hown, hts, hK, hnm, hfr, hroom, hX, hB⟩ := hC'
  have a1 := zSL_le h6
  have a2 := zSL_le hn1
  intro T hT Xs
  obtain ⟨vm₁, cA, comp, -, fA, fC, hO, hI, X', step⟩ := Xs.multianewarray2F (ty := .int) hx hown (hts _ hcl) hX.2.2.2.2.2.2.2.2.2 (hts _ harr) (g := F0 m pc ls (.int 4 :: .int 10 :: rest.map (zcv ad))) rfl (by rw [hb]; exact hd) (n := 10) (k := 4) (rest := rest.map (zcv ad)) rfl (by decide) (by decide) (by decide) (by decide) (by decide) (by decide) rfl (show n - B.2.1 + xc + (1 + 10) ≤ R.cells by omega) (show zSL n - zSL B.2.1 + xs + (10 + 10 * 4) ≤ R.slots by omega)
  have r7 : s.vm.findClass ("[" ++ (FieldType.array FieldType.int).toString) = some (dA 7) := (hK.2 7 (dA 7, .array .int) rfl).2
  have r0 : s.vm.findClass ("[" ++ (FieldType.int).toString) = some (dA 0) := (hK.2 0 (dA 0, .int) rfl).2
  have e7 : cA = dA 7 := Option.some.inj (fA.symm.trans r7)
  have e0 : comp = dA 0 := Option.some.inj (fC.symm.trans r0)
  subst e7
  subst e0
  have c10 : (10 : Int32).toNatClampNeg = 10 := by decide
  have c4 : (4 : Int32).toNatClampNeg = 4 := by decide
  rw [c10, c4] at X' step
  generalize hF : Jvm.Free.Multi.fill (T.setVm vm₁) (dA 7) (dA 0) 10 4 (defaultValue .int) 10 = F at X' step
  have hTh : (T.setVm vm₁).heap = H := hT
  obtain ⟨f1, f2, -, -⟩ := Jvm.Free.Multi.fill_facts (T.setVm vm₁) (dA 7) (dA 0) 10 4 (defaultValue .int) 10
  rw [hF, hTh] at f1 f2
  have hold : ∀ x : Nat, x < H.size → F.heap[x]? = H[x]? := fun x hx => by
    have := Jvm.Free.Multi.fill_old (T.setVm vm₁) (dA 7) (dA 0) 10 4 (defaultValue .int) (a := x) (by rw [hTh]; exact hx) 10
    rw [hF, hTh] at this
    exact this
  have hz : Jvm.Free.Multi.innerC (dA 0) 4 (defaultValue .int) = vp_cell (dA 0) (4, .inl (fun _ => 0)) := by
    rw [vp_cell_i]
    exact arrV_new ..
  have hrow : ∀ j : Nat, j < 10 → F.heap[H.size + 1 + j]? = some (vp_cell (dA 0) (4, .inl (fun _ => 0))) := fun j hj => by
    have := Jvm.Free.Multi.fill_inner (T.setVm vm₁) (dA 7) (dA 0) 10 4 (defaultValue .int) 10 j hj
    rw [hF, hTh, hz] at this
    exact this
  rw [mo_outer] at f2
  obtain ⟨ad', had⟩ : ∃ ad' : Nat → Nat, ad' = fun i => if n ≤ i ∧ i < n + 11 then H.size + (i - n) else ad i := ⟨_, rfl⟩
  have hin : ∀ i, n ≤ i → i < n + 11 → ad' i = H.size + (i - n) := fun i i1 i2 => by rw [had]; exact if_pos ⟨i1, i2⟩
  have hout : ∀ i, i < n ∨ n + 11 ≤ i → ad' i = ad i := fun i hi => by rw [had]; exact if_neg (by omega)
  have hlt : ∀ i, i < n → ad i < H.size := fun i hi => (h3 i _ (zW_at hi)).lt
  have hP' : va_P D vwCl (zW dA ad' (n + 11) iv (rmna n rv) lv) F.heap := by
    intro k' q' hk'
    obtain ⟨hk1, rfl⟩ := zW_lt hk'
    by_cases c1 : k' < n
    · have ee : zE dA ad' iv (rmna n rv) lv k' = zE dA ad iv rv lv k' := by
        rw [zE_r (rv := rv) (rv' := rmna n rv) (by funext b; exact if_neg (by omega))]
        exact zE_ad (fun b r hr => hout r (Or.inl (hf.2 _ _ _ hr)))
      rw [hout k' (Or.inl c1), ee]
      exact (h3 k' _ (zW_at c1)).kept (hold _ (hlt k' c1))
    · by_cases c2 : k' = n
      · subst c2
        rw [hin k' (Nat.le_refl _) (by omega), Nat.sub_self, Nat.add_zero, zE_q hsh (by decide) (by decide)]
        show F.heap[H.size]? = some (vp_cell (dA 7) (10, .inr (.inr (.inr (.inr (fun j => (rmna k' rv k' j).map ad'))))))
        rw [f2, vp_cell_q]
        refine congrArg some (congrArg (arrV (dA 7) 10) (funext fun j => ?_))
        by_cases hj : j < 10
        · rw [if_pos hj, show rmna k' rv k' j = some (k' + 1 + j) from if_pos ⟨rfl, hj⟩]
          show va_rf (some (H.size + 1 + j)) = va_rf (some (ad' (k' + 1 + j)))
          rw [hin _ (by omega) (by omega), show H.size + (k' + 1 + j - k') = H.size + 1 + j by omega]
        · rw [if_neg hj, show rmna k' rv k' j = rv k' j from if_neg (by omega), (hf.1 k' (Nat.le_refl _) j).2.1]
          rfl
      · obtain ⟨j, hj, rfl⟩ : ∃ j, j < 10 ∧ k' = n + 1 + j := ⟨k' - n - 1, by omega, by omega⟩
        rw [hin _ (by omega) (by omega), zE_0 (hsi j hj)]
        show F.heap[H.size + (n + 1 + j - n)]? = some (vp_cell (dA 0) (4, .inl (iv (n + 1 + j))))
        rw [show H.size + (n + 1 + j - n) = H.size + 1 + j by omega, hrow j hj, show iv (n + 1 + j) = fun _ => 0 from funext fun b => (hf.1 _ (by omega) b).1]
  have hD' : va_D (zA ad0 B.2.1 s.heap.size) (zW dA ad' (n + 11) iv (rmna n rv) lv) := by
    refine ⟨fun i j p q hi hj hpq => ?_, fun k' q' hk' => ?_⟩
    · obtain ⟨i1, rfl⟩ := zW_lt hi
      obtain ⟨j1, rfl⟩ := zW_lt hj
      have hpq : ad' i = ad' j := hpq
      by_cases ci : i < n
      · by_cases cj : j < n
        · rw [hout i (Or.inl ci), hout j (Or.inl cj)] at hpq
          exact h4.1 i j _ _ (zW_at ci) (zW_at cj) hpq
        · have := hlt i ci
          rw [hout i (Or.inl ci), hin j (by omega) j1] at hpq
          omega
      · by_cases cj : j < n
        · have := hlt j cj
          rw [hout j (Or.inl cj), hin i (by omega) i1] at hpq
          omega
        · rw [hin i (by omega) i1, hin j (by omega) j1] at hpq
          omega
    · obtain ⟨k1, rfl⟩ := zW_lt hk'
      by_cases ci : k' < n
      · show zA ad0 B.2.1 s.heap.size (ad' k')
        rw [hout k' (Or.inl ci)]
        exact h4.2 k' _ (zW_at ci)
      · show zA ad0 B.2.1 s.heap.size (ad' k')
        rw [hin k' (by omega) k1]
        have := h5.1
        exact Or.inr (by omega)
  have hS' : va_S (zA ad0 B.2.1 s.heap.size) s.heap F.heap locs := ⟨by have := h5.1; rw [f1]; omega, fun q hq1 hq2 => by rw [hold q (Nat.lt_of_lt_of_le hq1 h5.1)]; exact h5.2.1 q hq1 hq2, h5.2.2⟩
  have hag : zAg B.2.1 (n + 11) ad0 ad' := fun i hi => by
    rw [hout i (by omega)]
    exact h1 i (by omega)
  have hag1 : zAg n (n + 11) ad ad' := fun i hi => hout i hi
  have hL2 : zL ls M.2.2.1 ad' loc := zL_ad h2 (fun v hv => zok_cv hag1 (by simpa using List.all_eq_true.mp hokL _ hv))
  have hst2 : rest.map (zcv ad) = rest.map (zcv ad') := List.map_congr_left (fun v hv => (zok_cv hag1 (List.all_eq_true.mp hokS _ hv)).symm)
  have hw := k l p e R s m args below meth c D dA ad0 adV xc xs Qm hC hR ad' F.heap locs ls hag hL2 hP' hD' hS' (by omega) hn1
  have e1 : n - B.2.1 + xc + 1 + 10 = n + 11 - B.2.1 + xc := by omega
  have e2 : zSL n - zSL B.2.1 + xs + 10 + 10 * 4 = zSL (n + 11) - zSL B.2.1 + xs := by omega
  rw [e1, e2] at X'
  obtain ⟨t, b1, b2⟩ := hw F rfl X'
  refine ⟨t, step t ?_, b2⟩
  have e3 : ((Value.ref n :: rest).map (zcv ad')) = Value.ref T.heap.size :: rest.map (zcv ad) := by
    rw [hst2]
    show Value.ref (ad' n) :: _ = _
    rw [hin n (Nat.le_refl _) (by omega), Nat.sub_self, Nat.add_zero, hT]
  rw [e3] at b1
  exact b1
