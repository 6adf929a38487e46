/-! OCTET: the call that may throw, and the law's own method that catches. -/
def oX : String := "java/util/NoSuchElementException"
def oNm : List String := ["java/lang/RuntimeException", "java/lang/Exception"]
def oB : List Cond := [.declares ⟨"java/lang/RuntimeException", "<init>", "()V"⟩, .declares ⟨"java/lang/Exception", "<init>", "()V"⟩, .declares ⟨"java/lang/Throwable", "<init>", "()V"⟩, .castable oX oX]
theorem oB_in : ∀ w ∈ (vx_at0 RX10 346 oX oNm).filter (fun w => !goodWord w), w ∈ oB := by decide +kernel
theorem oB_tbl : ∀ w ∈ oB, w ∈ lw_tbl := by decide +kernel
theorem oB_on : ∀ w ∈ oB, w.onTables = true := by decide +kernel
theorem oG_tbl : ∀ w ∈ (vx_at0 RX10 346 oX oNm).filter goodWord, w ∈ lw_tbl := by decide +kernel
theorem oG_in : ∀ w ∈ (vx_at0 RX10 346 oX oNm).filter goodWord, w ∈ Wd := fun w h => List.mem_filter.mpr ⟨oG_tbl w h, (List.mem_filter.mp h).2⟩
theorem oI_in : Cond.initialized oX ∈ Wd := List.mem_filter.mpr ⟨(by decide +kernel), (by decide +kernel)⟩
theorem oOt : ∀ w ∈ Cond.classLink RX10 344 oX :: Cond.initialized oX :: vx_at0 RX10 346 oX oNm, vx_ot w = true := by decide +kernel
/-- what a throw stands on -/
def zKo : (Nat → Prop) → Launch → State → (Nat → Nat) → Prop := fun A l U _ => l.stackTraces = false ∧ vx_Zq Bundle.tN "UNASSIGNED_STACK" Bundle.steD A U U.heap ∧ vx_Zq Bundle.tN "SUPPRESSED_SENTINEL" Bundle.listD A U U.heap ∧ ∀ w ∈ oB, va_Nw w U
theorem oB_warm {s U : State} (hW : s.WarmedH U.vm) (h : ∀ w ∈ oB, va_Nw w s) : ∀ w ∈ oB, va_Nw w U := by
  intro w hw
  have h1 := h w hw
  simp only [oB, List.mem_cons, List.not_mem_nil, or_false] at hw
  rcases hw with rfl | rfl | rfl | rfl
  · exact va_Nw.warmD hW h1
  · exact va_Nw.warmD hW h1
  · exact va_Nw.warmD hW h1
  · exact va_Nw.warmC hW h1
theorem oB_same {s U : State} (hv : s.vm = U.vm) (h : ∀ w ∈ oB, va_Nw w s) : ∀ w ∈ oB, va_Nw w U := fun w hw => va_Nw.same (oB_on w hw) hv (h w hw)
theorem zKo.pass {A A2 : Nat → Prop} {l : Launch} {s U : State} {H : Heap} {locs : List Loc} {ad ad2 : Nat → Nat} (h : zKo A l s ad) (hS : va_S A s.heap H locs) (hA : ∀ q, A2 q → A q) (hU : U.heap = H) (hW : s.WarmedH U.vm) : zKo A2 l U ad2 := by
  obtain ⟨h1, h2, h3, h4⟩ := h
  refine ⟨h1, ?_, ?_, oB_warm hW h4⟩
  · rw [hU]; exact vx_Zq.moved hW.alike ((h2.kept hS.2.1).narrow hA)
  · rw [hU]; exact vx_Zq.moved hW.alike ((h3.kept hS.2.1).narrow hA)
theorem zKo.call {A : Nat → Prop} {l : Launch} {U : State} {ad : Nat → Nat} {g : JFrame} {mk : MethodId} {a : Array Value} (h : zKo A l U ad) : zKo A l (U.calling g mk a) ad := by
  obtain ⟨h1, h2, h3, h4⟩ := h
  exact ⟨h1, vx_Zq.moved (u := U) (U := U.calling g mk a) (Vm.Alike.refl U.vm) h2, vx_Zq.moved (u := U) (U := U.calling g mk a) (Vm.Alike.refl U.vm) h3, oB_same (s := U) (U := U.calling g mk a) rfl h4⟩
/-- where it has thrown: the old cells stand -/
def XO : String → State → State → Prop := fun E st t => E = oX ∧ st.heap.size ≤ t.heap.size ∧ ∀ q : Nat, q < st.heap.size → t.heap[q]? = st.heap[q]?
def zrx (d : Nat) : Room := { frames := d, cells := 1, slots := 8, locals := 64 * d }
def zInK (l : Launch) (D : va_G) (dA : Nat → ClassId) (ad adV : Nat → Nat) (iv : zI) (rv : zR) (lv : zJ) (sz : Nat) (U : State) : Prop := zIn D dA ad adV 200 iv rv lv sz U ∧ zKo (zA ad 200 sz) l U ad
set_option maxHeartbeats 2000000 in
theorem o_bad {l : Launch} {d : Nat} {j : Int32} {iv : zI} {rv : zR} {lv : zJ} (hd : 8 ≤ d) (hj : j < 0 ∨ ¬ j < iv 0 11) (D : va_G) (dA : Nat → ClassId) (ad adV : Nat → Nat) (sz : Nat) :
    vx_Met l yX10_octet (zws mX10_octet) (zrx d) (va_Pc [.ref (ad 0), .int j] (zInK l D dA ad adV iv rv lv sz)) (fun _ _ _ _ => False) XO 1 8 (zA ad 200 sz) := by
  refine vx_ofW (cc := cX10_octet) (maxL := 2) (ret := some .int) (by decide +kernel) rfl ?_
  intro p e s m args below meth c s₁ Bd hml htab hv
  obtain ⟨rfl, ⟨hsz, hP, hK, hD0, hX⟩, hl, hU, hN, hB⟩ := hv
  subst hsz
  have hts0 := atoms_spec (ws := zws mX10_octet) Bd.pre
  have hts : ∀ w ∈ Wd, w.before _ s = true := fun w h => hts0 w (List.mem_cons_of_mem _ h)
  have hown : s.vm.findClass RX10 = some m.cls := findClass_of_methodNamed Bd.named
  have hlocks := Bd.notSynchronized
  rw [lg_entry_eq]
  have key : ∀ ls : Array Slot, zL ls 2 ad [some (.ref 0), some (.int j)] → W p l e (headSpec (zws mX10_octet) (zrx d)).room s m [Value.ref (ad 0), Value.int j].toArray below meth c s.heap [] 0 0 (vx_MQ below (fun _ _ _ _ => False) XO [Value.ref (ad 0), Value.int j].toArray s 1 8 (zA ad 200 s.heap.size)) (F0 m 0 ls []) := by
    intro ls hL
    have hthrow : W p l e (headSpec (zws mX10_octet) (zrx d)).room s m [Value.ref (ad 0), Value.int j].toArray below meth c s.heap [] 0 0 (vx_MQ below (fun _ _ _ _ => False) XO [Value.ref (ad 0), Value.int j].toArray s 1 8 (zA ad 200 s.heap.size)) (F0 m 12 ls []) := by
      refine vx_throw0 (own := RX10) (cls := oX) (names := oNm) (ik := 344) (ic := 346) (A := zA ad 200 s.heap.size) Bd.exec Bd.bytes hl hown (by decide +kernel) (by decide +kernel) (hts _ cX10_344) (hts _ oI_in) ?_ oOt hU hN va_S.rf (hL.1.trans hml.symm) (by decide +kernel) (by decide +kernel) (by decide +kernel) (by decide +kernel) (fun x hx => (htab x hx).elim) ?_ ?_ (Nat.le_refl _) (show 0 + 6 ≤ 8 by decide) hlocks ?_ (fun z hz => nomatch hz) (Nat.le_refl _) (by decide)
      · exact vx_hat (B := oB) (fun w hw => hts w (oG_in w hw)) oB_in (fun w hw => va_Nw.use (oB_on w hw) (hB w hw))
      · show 2 + 3 < d
        omega
      · show 0 + (13 * (2 + 1) + 42) ≤ 64 * d
        omega
      · intro t _ h1 h2
        exact ⟨rfl, h1, h2⟩
    refine lv_iload_n (pc := 0) (i := 1) (x := j) Bd.exec Bd.bytes (show decode cX10_octet 0 = .ok (.iload_n 1, 1) by decide +kernel) rfl (hL.2.2 1 _ rfl) ?_
    refine lv_if_lt (tgt := 12) (off := 11) Bd.exec Bd.bytes (show decode cX10_octet 1 = .ok (.ifCond .lt 11, 3) by decide +kernel) (by decide) (fun _ => hthrow) (fun h0 => ?_)
    refine lv_iload_n (pc := 4) (i := 1) (x := j) Bd.exec Bd.bytes (show decode cX10_octet 4 = .ok (.iload_n 1, 1) by decide +kernel) rfl (hL.2.2 1 _ rfl) ?_
    refine lv_aload_n (pc := 5) (i := 0) (x := ad 0) Bd.exec Bd.bytes (show decode cX10_octet 5 = .ok (.aload_n 0, 1) by decide +kernel) rfl (hL.2.2 0 _ rfl) ?_
    refine va_get (pc := 6) (ci := 10) (C := RX10) (T := TX10) (N := 15) (index := 79) (ref := RX10) (v := .int (iv 0 11)) Bd.exec Bd.bytes hts inW10 hown hK hP 0 ((zW_at (by decide)).trans (by rw [zE_o (ci := 10) (N := 15) rfl])) rfl 11 (by decide) (hts _ fX10_79) (fun _ h9 => h9) ((zF_at (by decide)).trans (congrArg some rfl)) (show decode cX10_octet 6 = .ok (.getfield 79, 3) by decide +kernel) ?_
    exact lv_icmp_lt (pc := 9) (tgt := 20) (off := 11) Bd.exec Bd.bytes (show decode cX10_octet 9 = .ok (.if_icmp .lt 11, 3) by decide +kernel) (by decide) (fun h1 => (hj.elim h0 (fun z => z h1)).elim) (fun _ => hthrow)
  exact key _ (zL_args (as := [.ref 0, .int j]) (by simp [Value.category]) (Nat.le_refl _) rfl)
