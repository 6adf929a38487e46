/-! THE CLAIM OUT OF ONE WALK OF THE LAW'S BODY. Your part is whole_start (and what it stands on); all else here is the same for every law, but numbers. -/
def R_law : String := "NumberHeapsLaw"
def lw_P (b : Addr) (xs : List Int32) (args : Array Value) (s : State) : Prop := args = #[.ref b] ∧ s.IntsAt b xs ∧ xs.length ≤ 3072 ∧ (Jvm.Cond.and given_1 narrow_1).before args s = true
def lw_Q (_ : Array Value) (s : State) (o : Outcome) (t : State) : Prop := o = .returned (some (.int 1)) ∧ Framed s o t [] 601024 7293034
def lw_Z (below : List Frame) (a : Array Value) (s : State) : State → Prop := fun t => ∃ o, t.status = .running ∧ Ended t below o ∧ lw_Q a s o t
/-- the law's own end, with 1 on the stack, nothing written that was there before, its room as the claim has it -/
theorem lw_ret {p : Program} {l : Launch} {e : Env} {s : State} {m : MethodId} {below : List Frame} {meth : Method} {c : Code} {b : Nat} (hx : p.tables.exec = Jvm.exec) (hb : c.code = code) (hr : meth.sig.returnType = ret) (hlocks : meth.locks = false) {pc : Nat} {H : Heap} {ls : Array Slot} (hdg : decode code pc = .ok (.ireturn, 1)) : W p l e room_1 s m #[Value.ref b] below meth c H [] 601024 7293034 (lw_Z below #[Value.ref b] s) (F0 m pc ls [.int 1]) := by
  intro T hT X
  obtain ⟨fs, hret, hrun, hended, hW, hframe⟩ := X.leave (v := some (.int 1)) (hlocks := hlocks) (fun h => by rw [hr] at h; cases h)
  have hmeth' : T.vm.method? m = some meth := X.method'
  refine ⟨T.setFrames fs, ?_, .returned (some (.int 1)), hrun, hended, rfl, ⟨_, rfl⟩, hW, hframe⟩
  jvm_step X.here [X.here.top, hx, hb, hdg, hmeth', hr, ret, narrow_b1]
  (try refine ⟨rfl, ?_⟩); (try refine ⟨rfl, ?_⟩)
  first | (intro acts; rw [hret _ acts rfl rfl rfl]) | rw [hret _ _ rfl rfl rfl]
  exact Steps.refl _
/-- what holds at the law's entry: the machine, the code, the tables' words (any of lw_tbl by 'hts w (by decide +kernel)'), the script of L ints xs at the cell b, what the Statement gives of the start (any of its parts by flat_of_before) -/
def lw_At (p : Program) (s : State) (m : MethodId) (meth : Method) (c : Code) (b L : Nat) (xs : Nat → Int32) : Prop :=
  p.tables.exec = Jvm.exec ∧ c.code = code ∧ meth.sig.returnType = ret ∧ c.maxLocals = 7 ∧ s.vm.findClass R_law = some m.cls ∧ (∀ w ∈ lw_tbl, w.before #[Value.ref b] s = true) ∧ va_X b L xs s s.heap ∧ b < s.heap.size ∧ meth.locks = false ∧ (Jvm.Cond.and given_1 narrow_1).before #[Value.ref b] s = true
/-! THE START OF THE WORLD -/
theorem ws_D {b : Nat} {s : State} (hts : ∀ w ∈ Wd, w.before #[Value.ref b] s = true) : ∃ D : va_G, ∀ (c : Nat) (q : vw_C), vwCl[c]? = some q → u_Kn s q.1 q.2.1 q.2.2 (D.1 c) (D.2 c) := by
  have h : ∀ c : Nat, ∃ x : ClassId × (Nat → Nat), ∀ q : vw_C, vwCl[c]? = some q → u_Kn s q.1 q.2.1 q.2.2 x.1 x.2 := by
    intro c
    have hk : ∀ (C : String) (T : u_T) (N : Nat), (∀ w ∈ u_ws C T N, w ∈ Wd) → Cond.instantiable C N ∈ Wd → vwCl[c]? = some (C, T, N) → ∃ x : ClassId × (Nat → Nat), ∀ q : vw_C, vwCl[c]? = some q → u_Kn s q.1 q.2.1 q.2.2 x.1 x.2 := fun C T N hin hi he => by
      obtain ⟨a, f, h⟩ := u_known hts hin (hts _ hi)
      refine ⟨(a, f), fun q hq => ?_⟩
      rw [he] at hq
      cases hq
      exact h
    match c with
    | 0 => exact hk _ _ _ inW0 iX0 rfl
    | 1 => exact hk _ _ _ inW1 iX1 rfl
    | 2 => exact hk _ _ _ inW2 iX2 rfl
    | 3 => exact hk _ _ _ inW3 iX3 rfl
    | 4 => exact hk _ _ _ inW4 iX4 rfl
    | 5 => exact hk _ _ _ inW5 iX5 rfl
    | 6 => exact hk _ _ _ inW6 iX6 rfl
    | 7 => exact hk _ _ _ inW7 iX7 rfl
    | 8 => exact hk _ _ _ inW8 iX8 rfl
    | 9 => exact hk _ _ _ inW9 iX9 rfl
    | 10 => exact hk _ _ _ inW10 iX10 rfl
    | 11 => exact hk _ _ _ inW11 iX11 rfl
    | n + 12 => exact ⟨(0, fun _ => 0), fun q hq => by cases hq⟩
  obtain ⟨f, hf⟩ := Classical.axiomOfChoice h
  exact ⟨(fun c => (f c).1, fun c => (f c).2), fun c q hq => hf c q hq⟩
theorem ws_A {b : Nat} {s : State} (hts : ∀ w ∈ Wd, w.before #[Value.ref b] s = true) (hb : zTb s) : ∃ dA : Nat → ClassId, ∀ (k : Nat) (q : ClassId × FieldType), (zTy dA)[k]? = some q → ArrOfT s q.1 q.2 ∧ va_RA s q.1 q.2 := by
  have prim : ∀ t, Cond.arrayClass t ∈ Wd → ∃ cA, ArrOfT s cA t ∧ s.vm.findClass ("[" ++ t.toString) = some cA := fun t ht => by
    obtain ⟨c, k, comp, h1, h2, h3⟩ := Cond.arrayClass_spec (hts _ ht)
    exact ⟨c, fun N z => ⟨(fun k h => by cases h), k, h2, comp, h3⟩, h1⟩
  have obj : ∀ C, va_AO C s → ∃ cA, ArrOfT s cA (.object C) ∧ va_RA s cA (.object C) := fun C hC => by
    obtain ⟨comp, c, k, h1, -, h2, h3, h4⟩ := Cond.arrayOver_spec hC
    exact ⟨c, fun N z => ⟨(fun k h => by cases h), k, h2, comp, h3⟩, k, comp, h2, h3, h1, h4⟩
  obtain ⟨c0, a0, b0⟩ := prim _ a_arrayClass_int
  obtain ⟨c1, a1, b1⟩ := prim _ a_arrayClass_byte
  obtain ⟨c2, a2, b2⟩ := prim _ a_arrayClass_boolean
  obtain ⟨c3, a3, b3⟩ := prim _ a_arrayClass_long
  obtain ⟨c4, a4, b4⟩ := obj _ hb.2.1
  obtain ⟨c5, a5, b5⟩ := obj _ hb.2.2.1
  obtain ⟨c6, a6, b6⟩ := obj _ hb.2.2.2.1
  obtain ⟨comp, c7, k7, -, b7, a7, d7⟩ := ovr_ex hb.2.2.2.2
  refine ⟨fun k => [c0, c1, c2, c3, c4, c5, c6, c7].getD k 0, fun k q hq => ?_⟩
  match k with
  | 0 => cases hq; exact ⟨a0, b0⟩
  | 1 => cases hq; exact ⟨a1, b1⟩
  | 2 => cases hq; exact ⟨a2, b2⟩
  | 3 => cases hq; exact ⟨a3, b3⟩
  | 4 => cases hq; exact ⟨a4, b4⟩
  | 5 => cases hq; exact ⟨a5, b5⟩
  | 6 => cases hq; exact ⟨a6, b6⟩
  | 7 => cases hq; exact ⟨fun N z => ⟨(fun k h => by cases h), k7, a7, comp, d7⟩, b7⟩
  | n + 8 => cases hq
def sTm (i : Nat) : Term := .string RX6 ([74, 83, 88, 113, 93].getD i 0)
def sTn (i : Nat) : Term := .string RX11 ([180, 185, 191, 171, 196].getD i 0)
def gvW : List Cond := flatC (Jvm.Cond.and given_1 narrow_1)
theorem gv_ex : ∀ i, i < 5 → Cond.exactly (sTm i) "java/lang/String" ∈ gvW := by decide +kernel
theorem gv_ex2 : ∀ i, i < 5 → Cond.exactly (sTn i) "java/lang/String" ∈ gvW := by decide +kernel
theorem gv_co : ∀ i, i < 5 → Cond.eq (.field (sTm i) "java/lang/String" "coder" "B") (.int 0) ∈ gvW := by decide +kernel
theorem gv_ar : ∀ i, i < 5 → Cond.arrayOf (.field (sTm i) "java/lang/String" "value" "[B") .byte ∈ gvW := by decide +kernel
theorem gv_le : ∀ i, i < 5 → Cond.eq (.length (.field (sTm i) "java/lang/String" "value" "[B")) (.int (Int32.ofNat (zSl.getD i 0))) ∈ gvW := by decide +kernel
theorem gv_el : ∀ i, i < 5 → ∀ j, j < zSl.getD i 0 → Cond.eq (.elem (.field (sTm i) "java/lang/String" "value" "[B") (.int (Int32.ofNat j))) (.int ((zSb.getD i []).getD j 0)) ∈ gvW := by decide +kernel
theorem gv_ne : ∀ i, i < 5 → ∀ j, j < 5 → i ≠ j → Cond.not (Cond.eq (sTm i) (sTm j)) ∈ gvW ∨ Cond.not (Cond.eq (sTm j) (sTm i)) ∈ gvW := by decide +kernel
theorem gv_mn : ∀ i, i < 5 → Cond.eq (sTm i) (sTn i) ∈ gvW := by decide +kernel
theorem gv_z : Cond.eq (.static "java/lang/String" "COMPACT_STRINGS" "Z") (.int 1) ∈ gvW ∧ Cond.isRef (.static "jdk/internal/util/Preconditions" "SIOOBE_FORMATTER" "Ljava/util/function/BiFunction;") ∈ gvW ∧ Cond.isRef (.static Bundle.tN "UNASSIGNED_STACK" Bundle.steD) ∈ gvW ∧ Cond.isRef (.static Bundle.tN "SUPPRESSED_SENTINEL" Bundle.listD) ∈ gvW := ⟨by decide +kernel, by decide +kernel, by decide +kernel, by decide +kernel⟩
theorem tb_z : (Cond.laysStatic "java/lang/String" "COMPACT_STRINGS" "Z" ∈ lw_tbl ∧ Cond.initialized "java/lang/String" ∈ lw_tbl) ∧ (Cond.laysStatic "jdk/internal/util/Preconditions" "SIOOBE_FORMATTER" "Ljava/util/function/BiFunction;" ∈ lw_tbl ∧ Cond.initialized "jdk/internal/util/Preconditions" ∈ lw_tbl) ∧ (Cond.laysStatic Bundle.tN "UNASSIGNED_STACK" Bundle.steD ∈ lw_tbl ∧ Cond.laysStatic Bundle.tN "SUPPRESSED_SENTINEL" Bundle.listD ∈ lw_tbl ∧ Cond.initialized Bundle.tN ∈ lw_tbl) := ⟨⟨by decide +kernel, by decide +kernel⟩, ⟨by decide +kernel, by decide +kernel⟩, ⟨by decide +kernel, by decide +kernel, by decide +kernel⟩⟩
theorem tb_r6 : Cond.stringRef RX6 74 "number" ∈ lw_tbl ∧ Cond.stringRef RX6 83 "heaps" ∈ lw_tbl ∧ Cond.stringRef RX6 88 "keep" ∈ lw_tbl ∧ Cond.stringRef RX6 113 "in" ∈ lw_tbl ∧ Cond.stringRef RX6 93 "apart" ∈ lw_tbl := ⟨by decide +kernel, by decide +kernel, by decide +kernel, by decide +kernel, by decide +kernel⟩
theorem tb_r11 : Cond.stringRef RX11 180 "number" ∈ lw_tbl ∧ Cond.stringRef RX11 185 "heaps" ∈ lw_tbl ∧ Cond.stringRef RX11 191 "keep" ∈ lw_tbl ∧ Cond.stringRef RX11 171 "in" ∈ lw_tbl ∧ Cond.stringRef RX11 196 "apart" ∈ lw_tbl := ⟨by decide +kernel, by decide +kernel, by decide +kernel, by decide +kernel, by decide +kernel⟩
theorem tb_ao : Cond.arrayOver (.object RX9) ∈ lw_tbl ∧ Cond.arrayOver (.object RX3) ∈ lw_tbl ∧ Cond.arrayOver (.object RX5) ∈ lw_tbl ∧ Cond.arrayOver (.array .int) ∈ lw_tbl := ⟨by decide +kernel, by decide +kernel, by decide +kernel, by decide +kernel⟩
theorem ws_T {b : Nat} {s : State} (hts : ∀ w ∈ lw_tbl, w.before #[Value.ref b] s = true) : zTb s := ⟨fun q hq => va_tabs (c := .methodLinkNest q.1 q.2.1 q.2.2 "NumberHeaps") rfl rfl (hts _ (zNs_tbl q hq)), hts _ tb_ao.1, hts _ tb_ao.2.1, hts _ tb_ao.2.2.1, hts _ tb_ao.2.2.2⟩
theorem ws_S {b : Nat} {s : State} (hg : ∀ w ∈ gvW, w.before #[Value.ref b] s = true) {A : Nat → Prop} (hA : ∀ a : Nat, a < s.heap.size → ¬ A a) : ∃ adK adV : Nat → Nat, vk_S 5 zSl zSb adK adV A s s.heap ∧ (∀ i : Nat, i < 5 → (sTm i).eval #[Value.ref b] s none [] s = some (.ref (adK i))) ∧ ∀ i : Nat, i < 5 → (sTn i).eval #[Value.ref b] s none [] s = some (.ref (adK i)) := by
  obtain ⟨adK, adV, h1, h2⟩ := vk_Sof (args := #[Value.ref b]) (s := s) (N := 5) (tm := sTm) (len := zSl) (byt := zSb) (A := A) (by decide +kernel) (fun i hi => hg _ (gv_ex i hi)) (fun i hi => hg _ (gv_co i hi)) (fun i hi => hg _ (gv_ar i hi)) (fun i hi => hg _ (gv_le i hi)) (fun i hi j hj => hg _ (gv_el i hi j hj)) (fun i j hi hj hij => (gv_ne i hi j hj hij).imp (hg _) (hg _)) hA
  refine ⟨adK, adV, h1, h2, fun i hi => ?_⟩
  obtain ⟨a, c, cA, kA, q1, -⟩ := Cond.exactly_spec (args := #[Value.ref b]) (first := s) (o := none) (s := s) (idx := []) (t := sTn i) (cls := "java/lang/String") (hg _ (gv_ex2 i hi))
  have h3 := Cond.eq_refs (hg _ (gv_mn i hi)) q1 rfl
  rw [h2 i hi] at h3
  rw [q1, ← h3]
theorem vk_S.as {adK adV aK aV : Nat → Nat} {A : Nat → Prop} {U : State} {H : Heap} (h : vk_S 5 zSl zSb adK adV A U H) (h1 : ∀ i, i < 5 → aK i = adK i) (h2 : ∀ i, i < 5 → aV i = adV i) : vk_S 5 zSl zSb aK aV A U H :=
  ⟨fun i hi => by rw [h1 i hi, h2 i hi]; exact h.1 i hi, fun i j hi hj e => h.2 i j hi hj (by rw [h1 i hi, h1 j hj] at e; exact e)⟩
/-- the addresses of the places that the run does not make -/
def adS (adK adV : Nat → Nat) (t b : Nat) (i : Nat) : Nat := if i = 2000000 then b else if i = 1600000 then t else if 1500000 ≤ i then adV (i - 1500000) else adK (i - 1000000)
set_option maxHeartbeats 2000000 in
theorem whole_start {p : Program} {e : Env} {s : State} {m : MethodId} {below : List Frame} {meth : Method} {c : Code} (l : Launch) (hflags : l.flags = flags0) (hname : meth.name = x.name) {b L : Nat} {xs : Nat → Int32} (hL : L ≤ 3072) (C0 : lw_At p s m meth c b L xs) : W p l e room_1 s m #[Value.ref b] below meth c s.heap [] 0 0 (lw_Z below #[Value.ref b] s) (entryFrame m ([Value.ref b] : List Value).toArray 7) := by
  obtain ⟨hx, hcode, hret, hml, hown, hts, hX, hbl, hlocks, hgv⟩ := C0
  have hg : ∀ w ∈ gvW, w.before #[Value.ref b] s = true := flat_of_before _ hgv
  have hwd : ∀ w ∈ Wd, w.before #[Value.ref b] s = true := fun w hw => hts w (List.mem_filter.mp hw).1
  have hT : zTb s := ws_T hts
  obtain ⟨D, hD⟩ := ws_D hwd
  obtain ⟨dA, hdA⟩ := ws_A hwd hT
  have hA0 : ∀ a : Nat, a < s.heap.size → ¬ (fun q : Nat => s.heap.size ≤ q) a := fun a h1 h2 => Nat.lt_irrefl _ (Nat.lt_of_lt_of_le h1 h2)
  obtain ⟨adK, adV, hS, hm, hn⟩ := ws_S hg (A := fun q => s.heap.size ≤ q) hA0
  have hZc := va_Zof (A := fun q => s.heap.size ≤ q) (hts _ tb_z.1.1) (hts _ tb_z.1.2) (va_eqi (hg _ gv_z.1)) hA0
  have hZq := va_Zqof (A := fun q => s.heap.size ≤ q) (hts _ tb_z.2.1.1) (hts _ tb_z.2.1.2) (hg _ gv_z.2.1) hA0
  have hZu := vx_Zqof (A := fun q => s.heap.size ≤ q) (hts _ tb_z.2.2.1) (hts _ tb_z.2.2.2.2) (hg _ gv_z.2.2.1) hA0
  have hZs := vx_Zqof (A := fun q => s.heap.size ≤ q) (hts _ tb_z.2.2.2.1) (hts _ tb_z.2.2.2.2) (hg _ gv_z.2.2.2) hA0
  obtain ⟨t, hSi⟩ : ∃ t : Nat, zSi t (fun q => s.heap.size ≤ q) s s.heap := by
    rcases hZq with h | ⟨t, h⟩
    · exact ⟨0, Or.inl h⟩
    · exact ⟨t, Or.inr h⟩
  have hst : l.stackTraces = false := by
    unfold Launch.stackTraces
    rw [hflags]
    decide +kernel
  have hAB : ∀ q, zA (adS adK adV t b) 0 s.heap.size q → (fun q : Nat => s.heap.size ≤ q) q := fun q h => by
    rcases h with ⟨i, hi, -⟩ | h
    · exact absurd hi (Nat.not_lt_zero i)
    · exact h
  have k0 : ∀ i, i < 5 → adS adK adV t b (1000000 + i) = adK i := fun i hi => by
    unfold adS
    rw [if_neg (by omega), if_neg (by omega), if_neg (by omega), Nat.add_sub_cancel_left]
  have k1 : ∀ i, i < 5 → adS adK adV t b (1500000 + i) = adV i := fun i hi => by
    unfold adS
    rw [if_neg (by omega), if_neg (by omega), if_pos (by omega), Nat.add_sub_cancel_left]
  have hXX : zX (adS adK adV t b) (fun _ => 0) (zA (adS adK adV t b) 0 s.heap.size) s s.heap := by
    refine ⟨vk_S.narrow (vk_S.as hS k0 k1) hAB, ⟨vk_R.of (hts _ tb_r6.1) ?_, vk_R.of (hts _ tb_r6.2.1) ?_, vk_R.of (hts _ tb_r6.2.2.1) ?_, vk_R.of (hts _ tb_r6.2.2.2.1) ?_, vk_R.of (hts _ tb_r6.2.2.2.2) ?_⟩, ⟨vk_R.of (hts _ tb_r11.1) ?_, vk_R.of (hts _ tb_r11.2.1) ?_, vk_R.of (hts _ tb_r11.2.2.1) ?_, vk_R.of (hts _ tb_r11.2.2.2.1) ?_, vk_R.of (hts _ tb_r11.2.2.2.2) ?_⟩, va_Z.narrow hZc hAB, zSi.narrow hSi hAB, hT⟩
    · exact hm 0 (by decide)
    · exact hm 1 (by decide)
    · exact hm 2 (by decide)
    · exact hm 3 (by decide)
    · exact hm 4 (by decide)
    · exact hn 0 (by decide)
    · exact hn 1 (by decide)
    · exact hn 2 (by decide)
    · exact hn 3 (by decide)
    · exact hn 4 (by decide)
  have hKl : zKl b L xs (zA (adS adK adV t b) 0 s.heap.size) l s (adS adK adV t b) := by
    refine ⟨⟨hst, vx_Zq.narrow hZu hAB, vx_Zq.narrow hZs hAB, fun w hw => va_tabs (oB_on w hw) rfl (hts w (oB_tbl w hw))⟩, rfl, hX, hbl, fun h => hA0 b hbl (hAB b h)⟩
  rw [lg_entry_eq]
  have hw := lstart (b := b) (x := 600000) (xs := xs) hL (by decide) l p e room_1 s m #[Value.ref b] below meth c D dA (adS adK adV t b) (fun _ => 0) 0 0 (lw_Z below #[Value.ref b] s)
    ⟨hx, hcode, hml, hown, hwd, ⟨hD, hdA⟩, hname, (by decide +kernel : 40 + 1 ≤ room_1.frames ∧ 64 * (40 + 1) ≤ room_1.locals), (by decide +kernel : 200 - 0 + 0 + 600000 ≤ room_1.cells ∧ zSL 200 - zSL 0 + 0 + 8 * 600000 ≤ room_1.slots), hXX, (by decide : 200 ≤ 1000000), hKl⟩
    (by
      intro yc ys _ _ g1 g2 r iv' rv' lv' ad' H locs pc ls hq hdec hag hP' hD' hS'
      have hr : r = some (.int 1) := hq
      subst hr
      have hdg : decode code pc = .ok (.ireturn, 1) := by
        rcases hdec with ⟨h, -⟩ | ⟨v, ty, h, -, -, hd⟩ | ⟨v, h, -⟩ | ⟨a, nm, h, -⟩
        · cases h
        · exact hd
        · cases h
        · cases h
      refine va_forget (fun q hq => hAB _ (hS'.2.2 q hq)) ?_
      refine W.widen (k := 601024) (n := 7293034) g1 g2 ?_
      exact lw_ret hx hcode hret hlocks hdg)
    (adS adK adV t b) s.heap [] _ zAg.rf (zL_args (as := [.ref 2000000]) (by simp [Value.category]) (by decide) rfl) (fun k q h => nomatch (show ([] : va_W)[k]? = some q from h)) ⟨fun i j p q h => (nomatch (show ([] : va_W)[i]? = some p from h)), fun k q h => (nomatch (show ([] : va_W)[k]? = some q from h))⟩ va_S.rf (Nat.le_refl _) (show 0 ≤ 200 by decide)
  have e0 : adS adK adV t b 2000000 = b := if_pos rfl
  have e1 : zcv (adS adK adV t b) (Value.ref 2000000) = Value.ref b := congrArg Value.ref e0
  have e2 : ([Value.ref 2000000] : List Value).map (zcv (adS adK adV t b)) = [Value.ref b] := congrArg (fun v => [v]) e1
  rw [e2] at hw
  exact hw
set_option maxHeartbeats 4000000 in
theorem lw_walk (l : Launch) (hflags : l.flags = flags0) (b : Addr) (xs : List Int32) : MetFree l x (headSpec (Jvm.Cond.code x code maxLocals ret :: tables_1) room_1) (lw_P b xs) (fun _ _ _ _ _ => True) lw_Q := by
  refine MetFree.of_bodyS (code := code) (maxLocals := maxLocals) (ret := ret) (by decide) ?_ ?_
  · intro args s m h hn
    obtain ⟨meth, c, h1, h2, h3, h4, h5, h6, -, -⟩ := Cond.code_spec hn (atoms_spec (ws := Jvm.Cond.code x code maxLocals ret :: tables_1) h _ List.mem_cons_self)
    exact ⟨meth, c, h1, h2, h3, h4, h5, h6⟩
  · intro p e s m args below meth c s₁ B hml0 hP _
    obtain ⟨rfl, hx, hbd, hgv⟩ := hP
    obtain ⟨scr, harrAt, hlist, hof, hsmall⟩ := hx
    obtain ⟨hcb, hkn, -, -⟩ := State.arrayAt?_spec harrAt
    have hown : s.vm.findClass R_law = some m.cls := findClass_of_methodNamed B.named
    have hts0 : ∀ c ∈ (Jvm.Cond.code x code maxLocals ret :: tables_1), c.before #[Value.ref b] s = true := atoms_spec (ws := Jvm.Cond.code x code maxLocals ret :: tables_1) B.pre
    have hts : ∀ w ∈ lw_tbl, w.before #[Value.ref b] s = true := k2_hts_sels lw_privs (fun w hw => hts0 w (List.mem_cons_of_mem _ hw)) lw_privs_ok
    have hml : c.maxLocals = 7 := B.maxLocals_eq (hts0 _ List.mem_cons_self)
    have X₀ : Stand p l e room_1 s m #[Value.ref b] below meth c s₁ [] 0 0 := Stand.of_body B
    have hh0 : s₁.heap = s.heap := by rw [B.state]; rfl
    have hsz : scr.slots.size = xs.length := by rw [← Array.length_toList, hlist, List.length_map]
    have hval : ∀ j : Nat, j < xs.length → scr.slots[j]? = some (.int (xs.getD j 0)) := fun j hj => by
      rw [← Array.getElem?_toList, hlist]
      simp [hj]
    have hbl : b < s.heap.size := (Array.getElem?_eq_some_iff.mp hcb).1
    have hX : va_X b xs.length (fun j => xs.getD j 0) s s.heap := ⟨scr, hcb, hof, hkn, hsz, hval⟩
    have K : W p l e room_1 s m #[Value.ref b] below meth c s₁.heap [] 0 0 (lw_Z below #[Value.ref b] s) (entryFrame m ([Value.ref b] : List Value).toArray 7) := by
      rw [hh0]
      exact whole_start l hflags (name_of_methodNamed B.named B.method).1 hbd ⟨B.exec, B.bytes, B.returns, hml, hown, hts, hX, hbl, B.notSynchronized, hgv⟩
    obtain ⟨t, a1, o, b1, b2, b3⟩ := K s₁ rfl X₀
    exact ⟨t, o, a1, b1, b2, b3⟩
theorem lw_pre_spec {args : Array Value} {s : State} (h : (Jvm.Cond.and given_1 narrow_1).before args s = true) (hr : rest_1_c.before args s = true) : ∃ (b : Addr) (xs : List Int32), lw_P b xs args s := by
  have hs := flat_of_before _ h
  have hq := flat_of_before _ hr
  have hc : (Cond.count 1).before args s = true := hs _ (by decide +kernel)
  have harr : (Cond.arrayOf (.arg 0) .int).before args s = true := hs _ (by decide +kernel)
  have hle : (Cond.le (.length (.arg 0)) (.int 3072)).before args s = true := hs _ (by decide +kernel)
  have hlen : (Cond.isInt (.length (.arg 0))).before args s = true := hq _ (by decide +kernel)
  have hall : (Cond.all (.arg 0) (.isInt (.elem (.arg 0) (.index 0)))).before args s = true := hq _ (by decide +kernel)
  obtain ⟨b, xs, hb, hx⟩ := State.ints_of_pre rfl harr hlen hall
  have hsm : xs.length < 2 ^ 31 := hx.choose_spec.2.2.2
  have hev : (Term.length (.arg 0)).eval args s none [] s = some (.int xs.length.toInt32) := hx.length_eval hb
  have hv := Cond.le_ints hev (show (Term.int 3072).eval args s none [] s = some (.int 3072) from rfl)
  have hd : xs.length.toInt32 ≤ 3072 := by
    simpa [Cond.before, Cond.holds, hv] using hle
  have hN : xs.length ≤ 3072 := (Int32.ofNat_le_ofNat hsm (by decide)).mp (show Int32.ofNat xs.length ≤ Int32.ofNat 3072 from hd)
  exact ⟨b, xs, Cond.one_arg hc (show args[0]? = some (.ref b) from hb), hx, hN, h⟩
theorem lw_comes (l : Launch) (hflags : l.flags = flags0) : Comes l x (Jvm.Cond.code x code maxLocals ret :: tables_1) room_1 (fun tb e args s => Calls_1 tb e args s ∧ rest_1 tb e args s ∧ Pre_1 tb e args s)
    (fun _ _ args s o t => lw_Q args s o t) := by
  intro p e ha hc hk s m args below hf hfit hheap happ hpre
  obtain ⟨b, xs, hP⟩ := lw_pre_spec hpre.2.2 hpre.2.1
  obtain ⟨k, o, h1, h2, h3, hQ⟩ := lw_walk l hflags b xs p e ha hc hk s m args below hf ((Spec.applies_iff_loose hf).mp happ).1 hP trivial
  exact ⟨k, o, h1, h2, h3, hQ⟩
theorem lw_frame {s t : State} {o : Outcome} {args : Array Value} (h : Framed s o t [] 601024 7293034) :
    Framed s o t (fieldLocs frame_1_writes args s ++ arrayLocs frame_1_arrays args s ++ staticLocs frame_1_statics s) 601024 7293034 := h
theorem lw_limb (L : Cond) (hL : ∀ (args : Array Value) (s t : State), L.after args s (.returned (some (.int 1))) t = true) :
    ArmFor flags0 classFile x code maxLocals ret World_1 tables_1 room_1 Calls_1 rest_1 Pre_1
      (fun tb e a s o t => postC L tb e a s o t ∧ Framed s o t (fieldLocs frame_1_writes a s ++ arrayLocs frame_1_arrays a s ++ staticLocs frame_1_statics s) 601024 7293034) := by
  intro l hflags _ _ p e ha hc hk s m args below hf hfit hheap happ hpre
  obtain ⟨k, o, h1, h2, h3, rfl, hF⟩ := lw_comes l hflags p e ha hc hk s m args below hf hfit hheap happ hpre
  exact ⟨k, _, h1, h2, h3, hL args s _, lw_frame hF⟩
theorem i_vc : Claimed_1_1 ∧ Claimed_1_2 := ⟨lw_limb limb_1_1 (fun args s t => by simp [limb_1_1, Cond.after, Cond.holds, Cond.value]), lw_limb limb_1_2 (fun args s t => Cond.after_iff.mpr (by
  first | (rw [show limb_1_2 = Cond.eq .result (.int 1) from rfl, Cond.eq_ints (x := 1) (y := 1) rfl rfl]; simp; done) | (simp [limb_1_2, Cond.value, Term.eval]; done)))⟩
