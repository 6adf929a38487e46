/-! EVERY CALL ON BOTH SIDES. -/
theorem Jb_feed {t : Nat} {x1 x2 x3 x4 x5 : Int32} {iv : zI} {rv : zR} {lv : zJ} (h : JK t iv rv) (ht : t < 2 ^ 31) : ∃ Q1 : Int32 → zI → zR → zJ → Prop, Ci mX10_feed 40 [.ref 0, .int x1, .int x2, .int x3, .int x4, .int x5] iv rv lv Q1 ∧ ∀ v a b c, Q1 v a b c → ∃ Q2 : Int32 → zI → zR → zJ → Prop, Ci mX11_feed 40 [.ref 174, .int x1, .int x2, .int x3, .int x4, .int x5] a b c Q2 ∧ ∀ w a2 b2 c2, Q2 w a2 b2 c2 → v = w ∧ JK (t + 1) a2 b2 := by
  obtain ⟨S, hv, hs, hk, hm⟩ := h
  have hn : ver S < 2 ^ 31 := by omega
  exact jstep hs (V_feed hv) hm ((x_feed (d := 31) hk.1 hk.2.1 hv).mono (fun _ _ _ _ z => XR.all hk (V_feed hv) z)) (fun a b c hb hm => (y_feed (d := 40) hb hm hv).mono (fun _ _ _ _ z => YR.all z))
theorem Jb_text {t : Nat} {x1 : Int32} {iv : zI} {rv : zR} {lv : zJ} (h : JK t iv rv) (ht : t < 2 ^ 31) : ∃ Q1 : Int32 → zI → zR → zJ → Prop, Ci mX10_text 40 [.ref 0, .int x1] iv rv lv Q1 ∧ ∀ v a b c, Q1 v a b c → ∃ Q2 : Int32 → zI → zR → zJ → Prop, Ci mX11_text 40 [.ref 174, .int x1] a b c Q2 ∧ ∀ w a2 b2 c2, Q2 w a2 b2 c2 → v = w ∧ JK (t + 1) a2 b2 := by
  obtain ⟨S, hv, hs, hk, hm⟩ := h
  have hn : ver S < 2 ^ 31 := by omega
  exact jstep hs (V_text hv) hm ((x_text (d := 23) hk.1 x_words hk.2.1 hv).mono (fun _ _ _ _ z => XR.all hk (V_text hv) z)) (fun a b c hb hm => (y_text (d := 26) hb y_words hm hv).mono (fun _ _ _ _ z => YT.all z))
theorem Jb_fault {t : Nat} {iv : zI} {rv : zR} {lv : zJ} (h : JK t iv rv) (ht : t < 2 ^ 31) : ∃ Q1 : Int32 → zI → zR → zJ → Prop, Ci mX10_fault 40 [.ref 0] iv rv lv Q1 ∧ ∀ v a b c, Q1 v a b c → ∃ Q2 : Int32 → zI → zR → zJ → Prop, Ci mX11_fault 40 [.ref 174] a b c Q2 ∧ ∀ w a2 b2 c2, Q2 w a2 b2 c2 → v = w ∧ JK (t + 1) a2 b2 := by
  obtain ⟨S, hv, hs, hk, hm⟩ := h
  have hn : ver S < 2 ^ 31 := by omega
  exact jstep hs (SV.r hv) hm ((x_fault (d := 40) hk.1 hk.2.1).mono (fun _ _ _ _ z => XR.all hk (SV.r hv) z)) (fun a b c hb hm => (y_fault (d := 40) hb hm).mono (fun _ _ _ _ z => YR.all z))
theorem Jb_where {t : Nat} {iv : zI} {rv : zR} {lv : zJ} (h : JK t iv rv) (ht : t < 2 ^ 31) : ∃ Q1 : Int32 → zI → zR → zJ → Prop, Ci mX10_where 40 [.ref 0] iv rv lv Q1 ∧ ∀ v a b c, Q1 v a b c → ∃ Q2 : Int32 → zI → zR → zJ → Prop, Ci mX11_where 40 [.ref 174] a b c Q2 ∧ ∀ w a2 b2 c2, Q2 w a2 b2 c2 → v = w ∧ JK (t + 1) a2 b2 := by
  obtain ⟨S, hv, hs, hk, hm⟩ := h
  have hn : ver S < 2 ^ 31 := by omega
  exact jstep hs (SV.r hv) hm ((x_where (d := 40) hk.1 hk.2.1).mono (fun _ _ _ _ z => XR.all hk (SV.r hv) z)) (fun a b c hb hm => (y_where (d := 40) hb hm).mono (fun _ _ _ _ z => YR.all z))
theorem Jb_about {t : Nat} {x1 : Int32} {iv : zI} {rv : zR} {lv : zJ} (h : JK t iv rv) (ht : t < 2 ^ 31) : ∃ Q1 : Int32 → zI → zR → zJ → Prop, Ci mX10_about 40 [.ref 0, .int x1] iv rv lv Q1 ∧ ∀ v a b c, Q1 v a b c → ∃ Q2 : Int32 → zI → zR → zJ → Prop, Ci mX11_about 40 [.ref 174, .int x1] a b c Q2 ∧ ∀ w a2 b2 c2, Q2 w a2 b2 c2 → v = w ∧ JK (t + 1) a2 b2 := by
  obtain ⟨S, hv, hs, hk, hm⟩ := h
  have hn : ver S < 2 ^ 31 := by omega
  exact jstep hs (V_about hv) hm ((x_about (d := 31) hk.1 hk.2.1 hv).mono (fun _ _ _ _ z => XR.all hk (V_about hv) z)) (fun a b c hb hm => (y_about (d := 31) hb hm hv).mono (fun _ _ _ _ z => YR.all z))
theorem Jb_number {t : Nat} {x1 x2 : Int32} {iv : zI} {rv : zR} {lv : zJ} (h : JK t iv rv) (ht : t < 2 ^ 31) : ∃ Q1 : Int32 → zI → zR → zJ → Prop, Ci mX10_number 40 [.ref 0, .int x1, .int x2] iv rv lv Q1 ∧ ∀ v a b c, Q1 v a b c → ∃ Q2 : Int32 → zI → zR → zJ → Prop, Ci mX11_number 40 [.ref 174, .int x1, .int x2] a b c Q2 ∧ ∀ w a2 b2 c2, Q2 w a2 b2 c2 → v = w ∧ JK (t + 1) a2 b2 := by
  obtain ⟨S, hv, hs, hk, hm⟩ := h
  have hn : ver S < 2 ^ 31 := by omega
  exact jstep hs (V_number hv) hm ((x_number (d := 31) hk.1 hk.2.1 hv).mono (fun _ _ _ _ z => XR.all hk (V_number hv) z)) (fun a b c hb hm => (y_number (d := 31) hb hm hv).mono (fun _ _ _ _ z => YR.all z))
theorem Jb_sized {t : Nat} {x1 : Int32} {iv : zI} {rv : zR} {lv : zJ} (h : JK t iv rv) (ht : t < 2 ^ 31) : ∃ Q1 : Int32 → zI → zR → zJ → Prop, Ci mX10_sized 40 [.ref 0, .int x1] iv rv lv Q1 ∧ ∀ v a b c, Q1 v a b c → ∃ Q2 : Int32 → zI → zR → zJ → Prop, Ci mX11_sized 40 [.ref 174, .int x1] a b c Q2 ∧ ∀ w a2 b2 c2, Q2 w a2 b2 c2 → v = w ∧ JK (t + 1) a2 b2 := by
  obtain ⟨S, hv, hs, hk, hm⟩ := h
  have hn : ver S < 2 ^ 31 := by omega
  exact jstep hs (V_sized hv) hm ((x_sized (d := 31) hk.1 hk.2.1 hv).mono (fun _ _ _ _ z => XR.all hk (V_sized hv) z)) (fun a b c hb hm => (y_sized (d := 31) hb hm hv).mono (fun _ _ _ _ z => YR.all z))
theorem Jb_greedy {t : Nat} {x1 x2 : Int32} {iv : zI} {rv : zR} {lv : zJ} (h : JK t iv rv) (ht : t < 2 ^ 31) : ∃ Q1 : Int32 → zI → zR → zJ → Prop, Ci mX10_greedy 40 [.ref 0, .int x1, .int x2] iv rv lv Q1 ∧ ∀ v a b c, Q1 v a b c → ∃ Q2 : Int32 → zI → zR → zJ → Prop, Ci mX11_greedy 40 [.ref 174, .int x1, .int x2] a b c Q2 ∧ ∀ w a2 b2 c2, Q2 w a2 b2 c2 → v = w ∧ JK (t + 1) a2 b2 := by
  obtain ⟨S, hv, hs, hk, hm⟩ := h
  have hn : ver S < 2 ^ 31 := by omega
  exact jstep hs (V_greedy hv) hm ((x_greedy (d := 31) hk.1 hk.2.1 hv).mono (fun _ _ _ _ z => XG.all hk (V_greedy hv) z)) (fun a b c hb hm => (y_greedy (d := 31) hb hm hv).mono (fun _ _ _ _ z => YR.all z))
theorem Jb_greedyOf {t : Nat} {x1 x2 : Int32} {iv : zI} {rv : zR} {lv : zJ} (h : JK t iv rv) (ht : t < 2 ^ 31) : ∃ Q1 : Int32 → zI → zR → zJ → Prop, Ci mX10_greedyOf 40 [.ref 0, .int x1, .int x2] iv rv lv Q1 ∧ ∀ v a b c, Q1 v a b c → ∃ Q2 : Int32 → zI → zR → zJ → Prop, Ci mX11_greedyOf 40 [.ref 174, .int x1, .int x2] a b c Q2 ∧ ∀ w a2 b2 c2, Q2 w a2 b2 c2 → v = w ∧ JK (t + 1) a2 b2 := by
  obtain ⟨S, hv, hs, hk, hm⟩ := h
  have hn : ver S < 2 ^ 31 := by omega
  exact jstep hs (V_greedyOf hv) hm ((x_greedyOf (d := 31) hk.1 hk.2.1 hv).mono (fun _ _ _ _ z => XG.all hk (V_greedyOf hv) z)) (fun a b c hb hm => (y_greedyOf (d := 31) hb hm hv).mono (fun _ _ _ _ z => YR.all z))
theorem Jb_difference {t : Nat} {iv : zI} {rv : zR} {lv : zJ} (h : JK t iv rv) (ht : t < 2 ^ 31) : ∃ Q1 : Int32 → zI → zR → zJ → Prop, Ci mX10_difference 40 [.ref 0] iv rv lv Q1 ∧ ∀ v a b c, Q1 v a b c → ∃ Q2 : Int32 → zI → zR → zJ → Prop, Ci mX11_difference 40 [.ref 174] a b c Q2 ∧ ∀ w a2 b2 c2, Q2 w a2 b2 c2 → v = w ∧ JK (t + 1) a2 b2 := by
  obtain ⟨S, hv, hs, hk, hm⟩ := h
  have hn : ver S < 2 ^ 31 := by omega
  exact jstep hs (V_difference hv) hm ((x_difference (d := 31) hk.1 hk.2.1 hv).mono (fun _ _ _ _ z => XG.all hk (V_difference hv) z)) (fun a b c hb hm => (y_difference (d := 31) hb hm hv).mono (fun _ _ _ _ z => YR.all z))
theorem Jb_differenceOf {t : Nat} {x1 : Int32} {iv : zI} {rv : zR} {lv : zJ} (h : JK t iv rv) (ht : t < 2 ^ 31) : ∃ Q1 : Int32 → zI → zR → zJ → Prop, Ci mX10_differenceOf 40 [.ref 0, .int x1] iv rv lv Q1 ∧ ∀ v a b c, Q1 v a b c → ∃ Q2 : Int32 → zI → zR → zJ → Prop, Ci mX11_differenceOf 40 [.ref 174, .int x1] a b c Q2 ∧ ∀ w a2 b2 c2, Q2 w a2 b2 c2 → v = w ∧ JK (t + 1) a2 b2 := by
  obtain ⟨S, hv, hs, hk, hm⟩ := h
  have hn : ver S < 2 ^ 31 := by omega
  exact jstep hs (V_differenceOf hv) hm ((x_differenceOf (d := 31) hk.1 hk.2.1 hv).mono (fun _ _ _ _ z => XG.all hk (V_differenceOf hv) z)) (fun a b c hb hm => (y_differenceOf (d := 31) hb hm hv).mono (fun _ _ _ _ z => YR.all z))
theorem Jb_step {t : Nat} {x1 x2 : Int32} {iv : zI} {rv : zR} {lv : zJ} (h : JK t iv rv) (ht : t < 2 ^ 31) : ∃ Q1 : Int32 → zI → zR → zJ → Prop, Ci mX10_step 40 [.ref 0, .int x1, .int x2] iv rv lv Q1 ∧ ∀ v a b c, Q1 v a b c → ∃ Q2 : Int32 → zI → zR → zJ → Prop, Ci mX11_step 40 [.ref 174, .int x1, .int x2] a b c Q2 ∧ ∀ w a2 b2 c2, Q2 w a2 b2 c2 → v = w ∧ JK (t + 1) a2 b2 := by
  obtain ⟨S, hv, hs, hk, hm⟩ := h
  have hn : ver S < 2 ^ 31 := by omega
  exact jstep hs (V_step hv) hm ((x_step (d := 31) hk.1 hk.2.1 hv).mono (fun _ _ _ _ z => XG.all hk (V_step hv) z)) (fun a b c hb hm => (y_step (d := 31) hb hm hv).mono (fun _ _ _ _ z => YR.all z))
theorem Jb_multi {t : Nat} {x1 : Int32} {iv : zI} {rv : zR} {lv : zJ} (h : JK t iv rv) (ht : t < 2 ^ 31) : ∃ Q1 : Int32 → zI → zR → zJ → Prop, Ci mX10_multi 40 [.ref 0, .int x1] iv rv lv Q1 ∧ ∀ v a b c, Q1 v a b c → ∃ Q2 : Int32 → zI → zR → zJ → Prop, Ci mX11_multi 40 [.ref 174, .int x1] a b c Q2 ∧ ∀ w a2 b2 c2, Q2 w a2 b2 c2 → v = w ∧ JK (t + 1) a2 b2 := by
  obtain ⟨S, hv, hs, hk, hm⟩ := h
  have hn : ver S < 2 ^ 31 := by omega
  exact jstep hs (V_multi hv) hm ((x_multi (d := 31) hk.1 hk.2.1 hv).mono (fun _ _ _ _ z => XG.all hk (V_multi hv) z)) (fun a b c hb hm => (y_multi (d := 31) hb hm hv).mono (fun _ _ _ _ z => YR.all z))
theorem Jb_multiOf {t : Nat} {x1 x2 : Int32} {iv : zI} {rv : zR} {lv : zJ} (h : JK t iv rv) (ht : t < 2 ^ 31) : ∃ Q1 : Int32 → zI → zR → zJ → Prop, Ci mX10_multiOf 40 [.ref 0, .int x1, .int x2] iv rv lv Q1 ∧ ∀ v a b c, Q1 v a b c → ∃ Q2 : Int32 → zI → zR → zJ → Prop, Ci mX11_multiOf 40 [.ref 174, .int x1, .int x2] a b c Q2 ∧ ∀ w a2 b2 c2, Q2 w a2 b2 c2 → v = w ∧ JK (t + 1) a2 b2 := by
  obtain ⟨S, hv, hs, hk, hm⟩ := h
  have hn : ver S < 2 ^ 31 := by omega
  exact jstep hs (V_multiOf hv) hm ((x_multiOf (d := 31) hk.1 hk.2.1 hv).mono (fun _ _ _ _ z => XG.all hk (V_multiOf hv) z)) (fun a b c hb hm => (y_multiOf (d := 31) hb hm hv).mono (fun _ _ _ _ z => YR.all z))
theorem Jb_search {t : Nat} {x1 : Int32} {iv : zI} {rv : zR} {lv : zJ} (h : JK t iv rv) (ht : t < 2 ^ 31) : ∃ Q1 : Int32 → zI → zR → zJ → Prop, Ci mX10_search 40 [.ref 0, .int x1] iv rv lv Q1 ∧ ∀ v a b c, Q1 v a b c → ∃ Q2 : Int32 → zI → zR → zJ → Prop, Ci mX11_search 40 [.ref 174, .int x1] a b c Q2 ∧ ∀ w a2 b2 c2, Q2 w a2 b2 c2 → v = w ∧ JK (t + 1) a2 b2 := by
  obtain ⟨S, hv, hs, hk, hm⟩ := h
  have hn : ver S < 2 ^ 31 := by omega
  exact jstep hs (V_search hv) hm ((x_search (d := 9) hk.1 hk.2.1 hv hk.2.2.1 hn).mono (fun _ _ _ _ z => XS.all hk (V_search hv) z)) (fun a b c hb hm => (y_search (d := 9) hb hm hv).mono (fun _ _ _ _ z => YR.all z))
theorem Jb_find {t : Nat} {x1 x2 : Int32} {iv : zI} {rv : zR} {lv : zJ} (h : JK t iv rv) (ht : t < 2 ^ 31) : ∃ Q1 : Int32 → zI → zR → zJ → Prop, Ci mX10_find 40 [.ref 0, .int x1, .int x2] iv rv lv Q1 ∧ ∀ v a b c, Q1 v a b c → ∃ Q2 : Int32 → zI → zR → zJ → Prop, Ci mX11_find 40 [.ref 174, .int x1, .int x2] a b c Q2 ∧ ∀ w a2 b2 c2, Q2 w a2 b2 c2 → v = w ∧ JK (t + 1) a2 b2 := by
  obtain ⟨S, hv, hs, hk, hm⟩ := h
  have hn : ver S < 2 ^ 31 := by omega
  exact jstep hs (V_find hv) hm ((x_find (d := 9) hk.1 hk.2.1 hv hk.2.2.1 hn).mono (fun _ _ _ _ z => XS.all hk (V_find hv) z)) (fun a b c hb hm => (y_find (d := 9) hb hm hv).mono (fun _ _ _ _ z => YR.all z))
theorem Jb_searchOf {t : Nat} {x1 : Int32} {iv : zI} {rv : zR} {lv : zJ} (h : JK t iv rv) (ht : t < 2 ^ 31) : ∃ Q1 : Int32 → zI → zR → zJ → Prop, Ci mX10_searchOf 40 [.ref 0, .int x1] iv rv lv Q1 ∧ ∀ v a b c, Q1 v a b c → ∃ Q2 : Int32 → zI → zR → zJ → Prop, Ci mX11_searchOf 40 [.ref 174, .int x1] a b c Q2 ∧ ∀ w a2 b2 c2, Q2 w a2 b2 c2 → v = w ∧ JK (t + 1) a2 b2 := by
  obtain ⟨S, hv, hs, hk, hm⟩ := h
  have hn : ver S < 2 ^ 31 := by omega
  exact jstep hs (V_searchOf hv) hm ((x_searchOf (d := 9) hk.1 hk.2.1 hv hk.2.2.1 hn).mono (fun _ _ _ _ z => XS.all hk (V_searchOf hv) z)) (fun a b c hb hm => (y_searchOf (d := 9) hb hm hv).mono (fun _ _ _ _ z => YR.all z))
theorem Jb_bound {t : Nat} {x1 : Int32} {iv : zI} {rv : zR} {lv : zJ} (h : JK t iv rv) (ht : t < 2 ^ 31) : ∃ Q1 : Int32 → zI → zR → zJ → Prop, Ci mX10_bound 40 [.ref 0, .int x1] iv rv lv Q1 ∧ ∀ v a b c, Q1 v a b c → ∃ Q2 : Int32 → zI → zR → zJ → Prop, Ci mX11_bound 40 [.ref 174, .int x1] a b c Q2 ∧ ∀ w a2 b2 c2, Q2 w a2 b2 c2 → v = w ∧ JK (t + 1) a2 b2 := by
  obtain ⟨S, hv, hs, hk, hm⟩ := h
  have hn : ver S < 2 ^ 31 := by omega
  exact jstep hs (V_bound hv) hm ((x_bound (d := 31) hk.1 hk.2.1 hv).mono (fun _ _ _ _ z => XG.all hk (V_bound hv) z)) (fun a b c hb hm => (y_bound (d := 31) hb hm hv).mono (fun _ _ _ _ z => YR.all z))
theorem Jb_least {t : Nat} {x1 x2 : Int32} {iv : zI} {rv : zR} {lv : zJ} (h : JK t iv rv) (ht : t < 2 ^ 31) : ∃ Q1 : Int32 → zI → zR → zJ → Prop, Ci mX10_least 40 [.ref 0, .int x1, .int x2] iv rv lv Q1 ∧ ∀ v a b c, Q1 v a b c → ∃ Q2 : Int32 → zI → zR → zJ → Prop, Ci mX11_least 40 [.ref 174, .int x1, .int x2] a b c Q2 ∧ ∀ w a2 b2 c2, Q2 w a2 b2 c2 → v = w ∧ JK (t + 1) a2 b2 := by
  obtain ⟨S, hv, hs, hk, hm⟩ := h
  have hn : ver S < 2 ^ 31 := by omega
  exact jstep hs (V_least hv) hm ((x_least (d := 8) hk.1 hk.2.1 hv hk.2.2.2.1 hn).mono (fun _ _ _ _ z => XP.all hk (V_least hv) z)) (fun a b c hb hm => (y_least (d := 9) hb hm hv).mono (fun _ _ _ _ z => YR.all z))
theorem Jb_leastOf {t : Nat} {x1 x2 : Int32} {iv : zI} {rv : zR} {lv : zJ} (h : JK t iv rv) (ht : t < 2 ^ 31) : ∃ Q1 : Int32 → zI → zR → zJ → Prop, Ci mX10_leastOf 40 [.ref 0, .int x1, .int x2] iv rv lv Q1 ∧ ∀ v a b c, Q1 v a b c → ∃ Q2 : Int32 → zI → zR → zJ → Prop, Ci mX11_leastOf 40 [.ref 174, .int x1, .int x2] a b c Q2 ∧ ∀ w a2 b2 c2, Q2 w a2 b2 c2 → v = w ∧ JK (t + 1) a2 b2 := by
  obtain ⟨S, hv, hs, hk, hm⟩ := h
  have hn : ver S < 2 ^ 31 := by omega
  exact jstep hs (V_leastOf hv) hm ((x_leastOf (d := 8) hk.1 hk.2.1 hv hk.2.2.2.1 hn).mono (fun _ _ _ _ z => XP.all hk (V_leastOf hv) z)) (fun a b c hb hm => (y_leastOf (d := 9) hb hm hv).mono (fun _ _ _ _ z => YR.all z))
theorem Jb_flat {t : Nat} {x1 : Int32} {iv : zI} {rv : zR} {lv : zJ} (h : JK t iv rv) (ht : t < 2 ^ 31) : ∃ Q1 : Int32 → zI → zR → zJ → Prop, Ci mX10_flat 40 [.ref 0, .int x1] iv rv lv Q1 ∧ ∀ v a b c, Q1 v a b c → ∃ Q2 : Int32 → zI → zR → zJ → Prop, Ci mX11_flat 40 [.ref 174, .int x1] a b c Q2 ∧ ∀ w a2 b2 c2, Q2 w a2 b2 c2 → v = w ∧ JK (t + 1) a2 b2 := by
  obtain ⟨S, hv, hs, hk, hm⟩ := h
  have hn : ver S < 2 ^ 31 := by omega
  exact jstep hs (V_flat hv) hm ((x_flat (d := 8) hk.1 hk.2.1 hv hk.2.2.2.1 hn).mono (fun _ _ _ _ z => XP.all hk (V_flat hv) z)) (fun a b c hb hm => (y_flat (d := 9) hb hm hv).mono (fun _ _ _ _ z => YR.all z))
theorem Jb_rows {t : Nat} {x1 : Int32} {iv : zI} {rv : zR} {lv : zJ} (h : JK t iv rv) (ht : t < 2 ^ 31) : ∃ Q1 : Int32 → zI → zR → zJ → Prop, Ci mX10_rows 40 [.ref 0, .int x1] iv rv lv Q1 ∧ ∀ v a b c, Q1 v a b c → ∃ Q2 : Int32 → zI → zR → zJ → Prop, Ci mX11_rows 40 [.ref 174, .int x1] a b c Q2 ∧ ∀ w a2 b2 c2, Q2 w a2 b2 c2 → v = w ∧ JK (t + 1) a2 b2 := by
  obtain ⟨S, hv, hs, hk, hm⟩ := h
  have hn : ver S < 2 ^ 31 := by omega
  exact jstep hs (V_rows hv) hm ((x_rows (d := 8) hk.1 hk.2.1 hv hk.2.2.2.1).mono (fun _ _ _ _ z => XP.all hk (V_rows hv) z)) (fun a b c hb hm => (y_rows (d := 9) hb hm hv).mono (fun _ _ _ _ z => YR.all z))
theorem Jb_climb {t : Nat} {x1 x2 : Int32} {iv : zI} {rv : zR} {lv : zJ} (h : JK t iv rv) (ht : t < 2 ^ 31) : ∃ Q1 : Int32 → zI → zR → zJ → Prop, Ci mX10_climb 40 [.ref 0, .int x1, .int x2] iv rv lv Q1 ∧ ∀ v a b c, Q1 v a b c → ∃ Q2 : Int32 → zI → zR → zJ → Prop, Ci mX11_climb 40 [.ref 174, .int x1, .int x2] a b c Q2 ∧ ∀ w a2 b2 c2, Q2 w a2 b2 c2 → v = w ∧ JK (t + 1) a2 b2 := by
  obtain ⟨S, hv, hs, hk, hm⟩ := h
  have hn : ver S < 2 ^ 31 := by omega
  exact jstep hs (V_climb hv) hm ((x_climb (d := 31) hk.1 hk.2.1 hv).mono (fun _ _ _ _ z => XG.all hk (V_climb hv) z)) (fun a b c hb hm => (y_climb (d := 31) hb hm hv).mono (fun _ _ _ _ z => YR.all z))
theorem Jb_climbOf {t : Nat} {x1 x2 : Int32} {iv : zI} {rv : zR} {lv : zJ} (h : JK t iv rv) (ht : t < 2 ^ 31) : ∃ Q1 : Int32 → zI → zR → zJ → Prop, Ci mX10_climbOf 40 [.ref 0, .int x1, .int x2] iv rv lv Q1 ∧ ∀ v a b c, Q1 v a b c → ∃ Q2 : Int32 → zI → zR → zJ → Prop, Ci mX11_climbOf 40 [.ref 174, .int x1, .int x2] a b c Q2 ∧ ∀ w a2 b2 c2, Q2 w a2 b2 c2 → v = w ∧ JK (t + 1) a2 b2 := by
  obtain ⟨S, hv, hs, hk, hm⟩ := h
  have hn : ver S < 2 ^ 31 := by omega
  exact jstep hs (V_climbOf hv) hm ((x_climbOf (d := 31) hk.1 hk.2.1 hv).mono (fun _ _ _ _ z => XG.all hk (V_climbOf hv) z)) (fun a b c hb hm => (y_climbOf (d := 31) hb hm hv).mono (fun _ _ _ _ z => YR.all z))
theorem Jb_ways {t : Nat} {x1 : Int32} {iv : zI} {rv : zR} {lv : zJ} (h : JK t iv rv) (ht : t < 2 ^ 31) : ∃ Q1 : Int32 → zI → zR → zJ → Prop, Ci mX10_ways 40 [.ref 0, .int x1] iv rv lv Q1 ∧ ∀ v a b c, Q1 v a b c → ∃ Q2 : Int32 → zI → zR → zJ → Prop, Ci mX11_ways 40 [.ref 174, .int x1] a b c Q2 ∧ ∀ w a2 b2 c2, Q2 w a2 b2 c2 → v = w ∧ JK (t + 1) a2 b2 := by
  obtain ⟨S, hv, hs, hk, hm⟩ := h
  have hn : ver S < 2 ^ 31 := by omega
  exact jstep hs (V_ways hv) hm ((x_ways (d := 31) hk.1 hk.2.1 hv hk.2.2.2.2 hn).mono (fun _ _ _ _ z => XQ.all hk (V_ways hv) z)) (fun a b c hb hm => (y_ways (d := 31) hb hm hv).mono (fun _ _ _ _ z => YR.all z))
theorem Jb_chosen {t : Nat} {x1 : Int32} {iv : zI} {rv : zR} {lv : zJ} (h : JK t iv rv) (ht : t < 2 ^ 31) : ∃ Q1 : Int32 → zI → zR → zJ → Prop, Ci mX10_chosen 40 [.ref 0, .int x1] iv rv lv Q1 ∧ ∀ v a b c, Q1 v a b c → ∃ Q2 : Int32 → zI → zR → zJ → Prop, Ci mX11_chosen 40 [.ref 174, .int x1] a b c Q2 ∧ ∀ w a2 b2 c2, Q2 w a2 b2 c2 → v = w ∧ JK (t + 1) a2 b2 := by
  obtain ⟨S, hv, hs, hk, hm⟩ := h
  have hn : ver S < 2 ^ 31 := by omega
  exact jstep hs (V_chosen hv) hm ((x_chosen (d := 31) hk.1 hk.2.1 hv hk.2.2.2.2 hn).mono (fun _ _ _ _ z => XQ.all hk (V_chosen hv) z)) (fun a b c hb hm => (y_chosen (d := 31) hb hm hv).mono (fun _ _ _ _ z => YR.all z))
theorem Jb_sums {t : Nat} {iv : zI} {rv : zR} {lv : zJ} (h : JK t iv rv) (ht : t < 2 ^ 31) : ∃ Q1 : Int32 → zI → zR → zJ → Prop, Ci mX10_sums 40 [.ref 0] iv rv lv Q1 ∧ ∀ v a b c, Q1 v a b c → ∃ Q2 : Int32 → zI → zR → zJ → Prop, Ci mX11_sums 40 [.ref 174] a b c Q2 ∧ ∀ w a2 b2 c2, Q2 w a2 b2 c2 → v = w ∧ JK (t + 1) a2 b2 := by
  obtain ⟨S, hv, hs, hk, hm⟩ := h
  have hn : ver S < 2 ^ 31 := by omega
  exact jstep hs (V_sums hv) hm ((x_sums (d := 31) hk.1 hk.2.1 hv hk.2.2.2.2 hn).mono (fun _ _ _ _ z => XQ.all hk (V_sums hv) z)) (fun a b c hb hm => (y_sums (d := 31) hb hm hv).mono (fun _ _ _ _ z => YR.all z))
theorem Jb_nearest {t : Nat} {x1 : Int32} {iv : zI} {rv : zR} {lv : zJ} (h : JK t iv rv) (ht : t < 2 ^ 31) : ∃ Q1 : Int32 → zI → zR → zJ → Prop, Ci mX10_nearest 40 [.ref 0, .int x1] iv rv lv Q1 ∧ ∀ v a b c, Q1 v a b c → ∃ Q2 : Int32 → zI → zR → zJ → Prop, Ci mX11_nearest 40 [.ref 174, .int x1] a b c Q2 ∧ ∀ w a2 b2 c2, Q2 w a2 b2 c2 → v = w ∧ JK (t + 1) a2 b2 := by
  obtain ⟨S, hv, hs, hk, hm⟩ := h
  have hn : ver S < 2 ^ 31 := by omega
  exact jstep hs (V_nearest hv) hm ((x_nearest (d := 31) hk.1 hk.2.1 hv hk.2.2.2.2 hn).mono (fun _ _ _ _ z => XQ.all hk (V_nearest hv) z)) (fun a b c hb hm => (y_nearest (d := 31) hb hm hv).mono (fun _ _ _ _ z => YR.all z))
theorem Jb_add {t : Nat} {x1 : Int32} {iv : zI} {rv : zR} {lv : zJ} (h : JK t iv rv) (ht : t < 2 ^ 31) : ∃ Q1 : Int32 → zI → zR → zJ → Prop, Ci mX10_add 40 [.ref 0, .int x1] iv rv lv Q1 ∧ ∀ v a b c, Q1 v a b c → ∃ Q2 : Int32 → zI → zR → zJ → Prop, Ci mX11_add 40 [.ref 174, .int x1] a b c Q2 ∧ ∀ w a2 b2 c2, Q2 w a2 b2 c2 → v = w ∧ JK (t + 1) a2 b2 := by
  obtain ⟨S, hv, hs, hk, hm⟩ := h
  have hn : ver S < 2 ^ 31 := by omega
  exact jstep hs (V_add hv) hm ((x_add (d := 31) hk.1 hk.2.1 hv).mono (fun _ _ _ _ z => XR.all hk (V_add hv) z)) (fun a b c hb hm => (y_add (d := 31) hb hm hv).mono (fun _ _ _ _ z => YR.all z))
theorem Jb_drop {t : Nat} {x1 : Int32} {iv : zI} {rv : zR} {lv : zJ} (h : JK t iv rv) (ht : t < 2 ^ 31) : ∃ Q1 : Int32 → zI → zR → zJ → Prop, Ci mX10_drop 40 [.ref 0, .int x1] iv rv lv Q1 ∧ ∀ v a b c, Q1 v a b c → ∃ Q2 : Int32 → zI → zR → zJ → Prop, Ci mX11_drop 40 [.ref 174, .int x1] a b c Q2 ∧ ∀ w a2 b2 c2, Q2 w a2 b2 c2 → v = w ∧ JK (t + 1) a2 b2 := by
  obtain ⟨S, hv, hs, hk, hm⟩ := h
  have hn : ver S < 2 ^ 31 := by omega
  exact jstep hs (V_drop hv) hm ((x_drop (d := 31) hk.1 hk.2.1 hv).mono (fun _ _ _ _ z => XR.all hk (V_drop hv) z)) (fun a b c hb hm => (y_drop (d := 31) hb hm hv).mono (fun _ _ _ _ z => YR.all z))
theorem Jb_become {t : Nat} {x1 x2 : Int32} {iv : zI} {rv : zR} {lv : zJ} (h : JK t iv rv) (ht : t < 2 ^ 31) : ∃ Q1 : Int32 → zI → zR → zJ → Prop, Ci mX10_become 40 [.ref 0, .int x1, .int x2] iv rv lv Q1 ∧ ∀ v a b c, Q1 v a b c → ∃ Q2 : Int32 → zI → zR → zJ → Prop, Ci mX11_become 40 [.ref 174, .int x1, .int x2] a b c Q2 ∧ ∀ w a2 b2 c2, Q2 w a2 b2 c2 → v = w ∧ JK (t + 1) a2 b2 := by
  obtain ⟨S, hv, hs, hk, hm⟩ := h
  have hn : ver S < 2 ^ 31 := by omega
  exact jstep hs (V_become hv) hm ((x_become (d := 31) hk.1 hk.2.1 hv).mono (fun _ _ _ _ z => XR.all hk (V_become hv) z)) (fun a b c hb hm => (y_become (d := 31) hb hm hv).mono (fun _ _ _ _ z => YR.all z))
theorem Jb_keepIn {t : Nat} {x1 x2 : Int32} {iv : zI} {rv : zR} {lv : zJ} (h : JK t iv rv) (ht : t < 2 ^ 31) : ∃ Q1 : Int32 → zI → zR → zJ → Prop, Ci mX10_keepIn 40 [.ref 0, .int x1, .int x2] iv rv lv Q1 ∧ ∀ v a b c, Q1 v a b c → ∃ Q2 : Int32 → zI → zR → zJ → Prop, Ci mX11_keepIn 40 [.ref 174, .int x1, .int x2] a b c Q2 ∧ ∀ w a2 b2 c2, Q2 w a2 b2 c2 → v = w ∧ JK (t + 1) a2 b2 := by
  obtain ⟨S, hv, hs, hk, hm⟩ := h
  have hn : ver S < 2 ^ 31 := by omega
  exact jstep hs (V_keepIn hv) hm ((x_keepIn (d := 31) hk.1 hk.2.1 hv).mono (fun _ _ _ _ z => XR.all hk (V_keepIn hv) z)) (fun a b c hb hm => (y_keepIn (d := 31) hb hm hv).mono (fun _ _ _ _ z => YR.all z))
theorem Jb_apart {t : Nat} {x1 x2 : Int32} {iv : zI} {rv : zR} {lv : zJ} (h : JK t iv rv) (ht : t < 2 ^ 31) : ∃ Q1 : Int32 → zI → zR → zJ → Prop, Ci mX10_apart 40 [.ref 0, .int x1, .int x2] iv rv lv Q1 ∧ ∀ v a b c, Q1 v a b c → ∃ Q2 : Int32 → zI → zR → zJ → Prop, Ci mX11_apart 40 [.ref 174, .int x1, .int x2] a b c Q2 ∧ ∀ w a2 b2 c2, Q2 w a2 b2 c2 → v = w ∧ JK (t + 1) a2 b2 := by
  obtain ⟨S, hv, hs, hk, hm⟩ := h
  have hn : ver S < 2 ^ 31 := by omega
  exact jstep hs (V_apart hv) hm ((x_apart (d := 31) hk.1 hk.2.1 hv).mono (fun _ _ _ _ z => XR.all hk (V_apart hv) z)) (fun a b c hb hm => (y_apart (d := 31) hb hm hv).mono (fun _ _ _ _ z => YR.all z))
theorem Jb_sort {t : Nat} {iv : zI} {rv : zR} {lv : zJ} (h : JK t iv rv) (ht : t < 2 ^ 31) : ∃ Q1 : Int32 → zI → zR → zJ → Prop, Ci mX10_sort 40 [.ref 0] iv rv lv Q1 ∧ ∀ v a b c, Q1 v a b c → ∃ Q2 : Int32 → zI → zR → zJ → Prop, Ci mX11_sort 40 [.ref 174] a b c Q2 ∧ ∀ w a2 b2 c2, Q2 w a2 b2 c2 → v = w ∧ JK (t + 1) a2 b2 := by
  obtain ⟨S, hv, hs, hk, hm⟩ := h
  have hn : ver S < 2 ^ 31 := by omega
  exact jstep hs (V_sort hv) hm ((x_sort (d := 31) hk.1 hk.2.1 hv).mono (fun _ _ _ _ z => XR.all hk (V_sort hv) z)) (fun a b c hb hm => (y_sort (d := 31) hb hm hv).mono (fun _ _ _ _ z => YR.all z))
theorem Jb_heaps {t : Nat} {x1 : Int32} {iv : zI} {rv : zR} {lv : zJ} (h : JK t iv rv) (ht : t < 2 ^ 31) : ∃ Q1 : Int32 → zI → zR → zJ → Prop, Ci mX10_heaps 40 [.ref 0, .int x1] iv rv lv Q1 ∧ ∀ v a b c, Q1 v a b c → ∃ Q2 : Int32 → zI → zR → zJ → Prop, Ci mX11_heaps 40 [.ref 174, .int x1] a b c Q2 ∧ ∀ w a2 b2 c2, Q2 w a2 b2 c2 → v = w ∧ JK (t + 1) a2 b2 := by
  obtain ⟨S, hv, hs, hk, hm⟩ := h
  have hn : ver S < 2 ^ 31 := by omega
  exact jstep hs (V_heaps hv) hm ((x_heaps (d := 31) hk.1 hk.2.1 hv).mono (fun _ _ _ _ z => XR.all hk (V_heaps hv) z)) (fun a b c hb hm => (y_heaps (d := 31) hb hm hv).mono (fun _ _ _ _ z => YR.all z))
theorem Jb_undo {t : Nat} {iv : zI} {rv : zR} {lv : zJ} (h : JK t iv rv) (ht : t < 2 ^ 31) : ∃ Q1 : Int32 → zI → zR → zJ → Prop, Ci mX10_undo 40 [.ref 0] iv rv lv Q1 ∧ ∀ v a b c, Q1 v a b c → ∃ Q2 : Int32 → zI → zR → zJ → Prop, Ci mX11_undo 40 [.ref 174] a b c Q2 ∧ ∀ w a2 b2 c2, Q2 w a2 b2 c2 → v = w ∧ JK (t + 1) a2 b2 := by
  obtain ⟨S, hv, hs, hk, hm⟩ := h
  have hn : ver S < 2 ^ 31 := by omega
  exact jstep hs (V_undo hv) hm ((x_undo (d := 31) hk.1 hk.2.1 hv).mono (fun _ _ _ _ z => XR.all hk (V_undo hv) z)) (fun a b c hb hm => (y_undo (d := 31) hb hm hv).mono (fun _ _ _ _ z => YR.all z))
theorem Jb_image {t : Nat} {x1 : Int32} {iv : zI} {rv : zR} {lv : zJ} (h : JK t iv rv) (ht : t < 2 ^ 31) : ∃ Q1 : Int32 → zI → zR → zJ → Prop, Ci mX10_image 40 [.ref 0, .int x1] iv rv lv Q1 ∧ ∀ v a b c, Q1 v a b c → ∃ Q2 : Int32 → zI → zR → zJ → Prop, Ci mX11_image 40 [.ref 174, .int x1] a b c Q2 ∧ ∀ w a2 b2 c2, Q2 w a2 b2 c2 → v = w ∧ JK (t + 1) a2 b2 := by
  obtain ⟨S, hv, hs, hk, hm⟩ := h
  have hn : ver S < 2 ^ 31 := by omega
  exact jstep hs (V_image hv) hm ((x_image (d := 31) hk.1 hk.2.1 hv).mono (fun _ _ _ _ z => XR.all hk (V_image hv) z)) (fun a b c hb hm => (y_image (d := 31) hb hm hv).mono (fun _ _ _ _ z => YR.all z))
theorem Jb_back {t : Nat} {x1 : Int32} {iv : zI} {rv : zR} {lv : zJ} (h : JK t iv rv) (ht : t < 2 ^ 31) : ∃ Q1 : Int32 → zI → zR → zJ → Prop, Ci mX10_back 40 [.ref 0, .int x1] iv rv lv Q1 ∧ ∀ v a b c, Q1 v a b c → ∃ Q2 : Int32 → zI → zR → zJ → Prop, Ci mX11_back 40 [.ref 174, .int x1] a b c Q2 ∧ ∀ w a2 b2 c2, Q2 w a2 b2 c2 → v = w ∧ JK (t + 1) a2 b2 := by
  obtain ⟨S, hv, hs, hk, hm⟩ := h
  have hn : ver S < 2 ^ 31 := by omega
  exact jstep hs (V_back hv) hm ((x_back (d := 31) hk.1 hk.2.1 hv).mono (fun _ _ _ _ z => XR.all hk (V_back hv) z)) (fun a b c hb hm => (y_back (d := 31) hb hm hv).mono (fun _ _ _ _ z => YR.all z))
theorem Jb_write {t : Nat} {iv : zI} {rv : zR} {lv : zJ} (h : JK t iv rv) (ht : t < 2 ^ 31) : ∃ Q1 : Int32 → zI → zR → zJ → Prop, Ci mX10_write 40 [.ref 0] iv rv lv Q1 ∧ ∀ v a b c, Q1 v a b c → ∃ Q2 : Int32 → zI → zR → zJ → Prop, Ci mX11_write 40 [.ref 174] a b c Q2 ∧ ∀ w a2 b2 c2, Q2 w a2 b2 c2 → v = w ∧ JK (t + 1) a2 b2 := by
  obtain ⟨S, hv, hs, hk, hm⟩ := h
  have hn : ver S < 2 ^ 31 := by omega
  exact jstep hs (V_write hv) hm ((x_write (d := 8) hk.1 hk.2.1 hv hk.2.2.2.1 hn).mono (fun _ _ _ _ z => XP.all hk (V_write hv) z)) (fun a b c hb hm => (y_write (d := 9) hb hm hv).mono (fun _ _ _ _ z => YR.all z))
theorem Jb_bytes {t : Nat} {iv : zI} {rv : zR} {lv : zJ} (h : JK t iv rv) (ht : t < 2 ^ 31) : ∃ Q1 : Int32 → zI → zR → zJ → Prop, Ci mX10_bytes 40 [.ref 0] iv rv lv Q1 ∧ ∀ v a b c, Q1 v a b c → ∃ Q2 : Int32 → zI → zR → zJ → Prop, Ci mX11_bytes 40 [.ref 174] a b c Q2 ∧ ∀ w a2 b2 c2, Q2 w a2 b2 c2 → v = w ∧ JK (t + 1) a2 b2 := by
  obtain ⟨S, hv, hs, hk, hm⟩ := h
  have hn : ver S < 2 ^ 31 := by omega
  exact jstep hs (SV.r hv) hm ((x_bytes (d := 40) hk.1 hk.2.1).mono (fun _ _ _ _ z => XR.all hk (SV.r hv) z)) (fun a b c hb hm => (y_bytes (d := 40) hb hm).mono (fun _ _ _ _ z => YR.all z))
theorem Jb_trouble {t : Nat} {iv : zI} {rv : zR} {lv : zJ} (h : JK t iv rv) (ht : t < 2 ^ 31) : ∃ Q1 : Int32 → zI → zR → zJ → Prop, Ci mX10_trouble 40 [.ref 0] iv rv lv Q1 ∧ ∀ v a b c, Q1 v a b c → ∃ Q2 : Int32 → zI → zR → zJ → Prop, Ci mX11_trouble 40 [.ref 174] a b c Q2 ∧ ∀ w a2 b2 c2, Q2 w a2 b2 c2 → v = w ∧ JK (t + 1) a2 b2 := by
  obtain ⟨S, hv, hs, hk, hm⟩ := h
  have hn : ver S < 2 ^ 31 := by omega
  exact jstep hs (SV.r hv) hm ((x_trouble (d := 40) hk.1 hk.2.1).mono (fun _ _ _ _ z => XR.all hk (SV.r hv) z)) (fun a b c hb hm => (y_trouble (d := 40) hb hm).mono (fun _ _ _ _ z => YR.all z))
theorem y_thrown {d : Nat} {iv : zI} {rv : zR} {lv : zJ} (hT : zTop rv) : Ci mX11_thrown d [.ref 174] iv rv lv (zP (iv 174 0) iv rv lv) := eX11_thrown (bX11_thrown_0 hT (zP.mk rfl))
theorem y_octet {d : Nat} {S : St} {x : Int32} {iv : zI} {rv : zR} {lv : zJ} (hT : zTop rv) (h : MB S iv) (hv : VT S) : Ci mX11_octet (d + 1) [.ref 174, .int x] iv rv lv (fun y a b c => b = rv ∧ c = lv ∧ MB S a ∧ (∀ p, p < 174 → a p = iv p) ∧ ((x < 0 ∨ ¬ x < nI S.2.2.2.2.2.1.length) → a 174 0 = 1) ∧ ∀ j, j < S.2.2.2.2.2.1.length → x = nI j → a 174 0 = 0 ∧ y = nI (S.2.2.2.2.2.1.getD j 0)) := by
  have hl := hv.2.2.2.2.2.2.1
  refine eX11_octet x (bX11_octet_0 x hT (zcall (y_in hT) hT ?_))
  rw [h.2.2.2.2.2.1]
  by_cases hx : x < 0 ∨ ¬ x < nI S.2.2.2.2.2.1.length
  · have e : (decide ((0 : Int32) ≤ x ∧ x ≤ nI S.2.2.2.2.2.1.length - 1)) = false := by
      rw [decide_eq_false_iff_not]
      rintro ⟨q1, q2⟩
      rcases hx with hx | hx
      · exact absurd hx (Int32.not_lt.mpr q1)
      · rcases Nat.eq_zero_or_pos S.2.2.2.2.2.1.length with z | z
        · rw [z] at q2
          exact absurd (Int32.le_trans q1 q2) (by decide)
        · rw [z_1, pk_sub z] at q2
          exact hx (Int32.lt_of_le_of_lt q2 (nI_lt (by omega) (by omega)))
    rw [e]
    refine ⟨fun _ => ?_, fun z => absurd rfl z⟩
    intro w ew
    subst ew
    have e0 : zu iv 174 0 1 174 0 = (1 : Int32) := zu_eq
    refine ⟨fun z => absurd e0 z, fun _ => ⟨rfl, rfl, h.th, fun p hp => by rw [zu_row (by omega)], fun _ => e0, fun j hj ej => ?_⟩⟩
    rw [ej] at hx
    rcases hx with hx | hx
    · exact absurd hx (nI_pos (by omega))
    · exact absurd (nI_lt hj (by omega)) hx
  · obtain ⟨j, hj, rfl⟩ : ∃ j : Nat, j < S.2.2.2.2.2.1.length ∧ x = nI j := by
      rcases pk_ix x (show S.2.2.2.2.2.1.length < 2 ^ 31 by omega) with q | q | ⟨j, hj, rfl⟩
      · exact absurd (Or.inl q) hx
      · exact absurd (Or.inr (Int32.not_lt.mpr q)) hx
      · exact ⟨j, hj, rfl⟩
    have e : (decide ((0 : Int32) ≤ nI j ∧ nI j ≤ nI S.2.2.2.2.2.1.length - 1)) = true := by
      rw [decide_eq_true_iff]
      refine ⟨nI_pos' (by omega), ?_⟩
      rw [z_1, pk_sub (by omega)]
      exact nI_le (by omega) (by omega)
    rw [e]
    refine ⟨fun z => absurd z (by decide), fun _ => ?_⟩
    intro w ew
    subst ew
    have e0 : zu iv 174 0 0 174 0 = (0 : Int32) := zu_eq
    refine ⟨fun _ => ⟨vp_in_nI (by omega) (by omega), rfl, rfl, h.th, fun p hp => by rw [zu_row (by omega)], fun z => absurd z hx, fun j2 hj2 ej => ⟨e0, ?_⟩⟩, fun z => absurd (e0.symm.trans z) (by decide)⟩
    rw [nI_clamp (by omega), zu_row (by omega), h.2.2.2.2.2.2 j hj]
    rw [nI_eq (by omega) (by omega)] at ej
    rw [ej]
theorem Jb_octet {t : Nat} {x : Int32} {iv : zI} {rv : zR} {lv : zJ} (h : JK t iv rv) : ∃ Q1 : zQ, (∀ l, Mo l 40 x iv rv lv Q1) ∧ ∀ r a1 b1 c1, Q1 r a1 b1 c1 → ∃ kx : Int32, r = some (.int kx) ∧ ∃ Q2 : Int32 → zI → zR → zJ → Prop, Ci mX11_octet 40 [.ref 174, .int x] a1 b1 c1 Q2 ∧ ∀ w a2 b2 c2, Q2 w a2 b2 c2 → ∃ Q3 : Int32 → zI → zR → zJ → Prop, Ci mX11_thrown 40 [.ref 174] a2 b2 c2 Q3 ∧ ∀ u a3 b3 c3, Q3 u a3 b3 c3 → u = kx ∧ (kx = 0 → c3 199 0 = w.toInt64) ∧ JK (t + 1) a3 b3 := by
  obtain ⟨S, hv, hs, hk, hm⟩ := h
  have hT := hk.1
  have hl := hv.2.2.2.2.2.2.1
  have c11 := hk.2.1.2.2.2.2.2.1
  by_cases hx : x < 0 ∨ ¬ x < nI S.2.2.2.2.2.1.length
  · refine ⟨fun r a b c => r = some (.int 1) ∧ a = iv ∧ b = rv ∧ c = lv, fun l => o_catch (by decide) (by rw [c11.1]; exact hx) ⟨rfl, rfl, rfl, rfl⟩, ?_⟩
    rintro r a1 b1 c1 ⟨e1, e2, e3, e4⟩
    subst e2 e3 e4
    refine ⟨1, e1, _, y_octet (d := 39) hT hm hv, ?_⟩
    rintro w a2 b2 c2 ⟨g1, g2, g3, g4, g5, g6⟩
    subst g1 g2
    refine ⟨_, y_thrown hT, ?_⟩
    rintro u a3 b3 c3 ⟨f1, f2, f3, f4⟩
    subst f2 f3 f4
    exact ⟨f1.trans (g5 hx), fun z => absurd z (by decide), S, hv, by omega, hk.low hv g4, g3⟩
  · obtain ⟨j, hj, rfl⟩ : ∃ j : Nat, j < S.2.2.2.2.2.1.length ∧ x = nI j := by
      rcases pk_ix x (show S.2.2.2.2.2.1.length < 2 ^ 31 by omega) with q | q | ⟨j, hj, rfl⟩
      · exact absurd (Or.inl q) hx
      · exact absurd (Or.inr (Int32.not_lt.mpr q)) hx
      · exact ⟨j, hj, rfl⟩
    have hz : Z mLo (40, 200, 200, 1, zK0) 0 [some (.ref 0), some (.int (nI j)), some (.ref 199), none] [] 200 iv rv lv (fun r a b c => r = some (.int 0) ∧ a = iv ∧ b = rv ∧ c = zu lv 199 0 (nI (S.2.2.2.2.2.1.getD j 0)).toInt64) := by
      refine Z_aload_n (a := 2) (q := 1) (by decide +kernel) rfl rfl ?_
      refine Z_iconst (a := 0) (v := 0) (q := 2) (by decide +kernel) (by decide +kernel) rfl ?_
      refine Z_aload_n (a := 0) (q := 3) (by decide +kernel) rfl rfl ?_
      refine Z_iload_n (a := 1) (q := 4) (by decide +kernel) rfl rfl ?_
      refine Z_callVi (M2 := mX10_octet) (idx := 7) (d2 := 39) (ci := 10) (As := [.int _]) (q := 7) (by decide +kernel) kX10_octet lL_7 rfl rfl (by decide) rfl rfl (by decide +kernel) (Nat.le_of_ble_eq_true rfl) (Nat.le_refl _) (x_octet hT c11.1 hj hl) rfl (fun v a b c hq => ?_)
      obtain ⟨q1, q2, q3, q4⟩ := hq
      subst q1 q2 q3 q4
      rw [c11.2 j hj]
      refine Z_i2l (q := 8) (by decide +kernel) rfl ?_
      refine Z_last (q := 9) (len := 1) (by decide +kernel) rfl (by decide) (show vp_in (nI 0) 1 from vp_in_nI (by decide) (by decide)) rfl ?_
      refine Z_goto (q := 15) (off := 6) (by decide +kernel) (by decide) ?_
      refine Z_iconst (a := 0) (v := 0) (q := 16) (by decide +kernel) (by decide +kernel) rfl ?_
      exact Z_iret (ty := .int) (by decide +kernel) rfl rfl rfl ⟨rfl, rfl, rfl, rfl⟩
    refine ⟨_, fun l => o_good hz, ?_⟩
    rintro r a1 b1 c1 ⟨e1, e2, e3, e4⟩
    subst e2 e3
    refine ⟨0, e1, _, y_octet (d := 39) hT hm hv, ?_⟩
    rintro w a2 b2 c2 ⟨g1, g2, g3, g4, g5, g6⟩
    subst g1 g2
    obtain ⟨g7, g8⟩ := g6 j hj rfl
    refine ⟨_, y_thrown hT, ?_⟩
    rintro u a3 b3 c3 ⟨f1, f2, f3, f4⟩
    subst f2 f3 f4
    refine ⟨f1.trans g7, fun _ => ?_, S, hv, by omega, hk.low hv g4, g3⟩
    rw [e4, zu_eq, g8]
