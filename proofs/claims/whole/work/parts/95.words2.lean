/-! THE WORDS of a text on both sides. -/
theorem ww : ∀ i, i < 5 → zSl.getD i 0 = (wds i).length ∧ ∀ k, k < (wds i).length → sch i k = nI ((wds i).getD k 0) := by decide +kernel
theorem sb_c : ∀ x, x < 256 → ∀ c, c < 128 → decide (sbI x = nI c) = decide (x = c) := by decide +kernel
theorem x_words : XWd := by
  intro d n i tp st iv rv lv hT hx hS hP hi
  obtain ⟨⟨r1, r2⟩, ⟨k1, k2, k3, k4⟩, f9, cs⟩ := hS
  obtain ⟨p1, p2, p3, p4, p5⟩ := hP
  obtain ⟨w1, w2⟩ := ww i hi
  obtain ⟨l6, lL⟩ := wds_L i hi
  have hn := hx.1
  have htp := hx.2
  generalize hw : wds i = w at *
  refine eX6_isWord _ (bX6_isWord_0 _ hT ⟨fun q => zP.mk ?_, fun q => ⟨⟨i, hi, rfl⟩, zcall (x_strlen hi) hT ⟨fun e => ?_, fun e => zP.mk ?_⟩⟩⟩)
  · rw [k1] at q
    have : st.1.1 ≠ 1 := fun e => q (by rw [e]; rfl)
    simp [tw, this, bI]
  · rw [k1] at q
    have q1 : st.1.1 = 1 := (nI_eq (by omega) (by omega)).mp (q.trans z_1)
    rw [k2, k3, w1, pk_sub p1, nI_eq (by omega) (by omega)] at e
    have key : ∀ j, j ≤ w.length → (alB tp st.1.2.1 w j = true → Zi mX6_isWord (d + 11 + 1) 28 [some (.ref 1), some (.ref (1000000 + i)), some (.int (nI j))] [] iv rv lv (zP (bI (tw tp st.1 w)) iv rv lv)) := by
      refine zfor (fun hal => ?_) (fun j hj ih hal => ?_)
      · refine bX6_isWord_28 _ _ hT ⟨⟨i, hi, rfl⟩, zcall (x_strlen hi) hT ⟨fun _ => zP.mk ?_, fun c => absurd ?_ c⟩⟩
        · simp [tw, q1, e, hal, bI]
        · rw [w1]; exact nI_le (Nat.le_refl _) (by omega)
      · have hc := lL j hj
        have hcb : w.getD j 0 < 128 := by
          have := of_decide_eq_true hc
          omega
        have hin : nI st.1.2.1 + nI j = nI (st.1.2.1 + j) := nI_add _ _
        have ht := htp (st.1.2.1 + j)
        have hsb := sb_c _ ht _ hcb
        refine bX6_isWord_28 _ _ hT ⟨⟨i, hi, rfl⟩, zcall (x_strlen hi) hT ⟨fun c => ?_, fun _ => ⟨?_, ⟨i, hi, rfl⟩, zcall (x_char hi (by rw [w1]; exact hj)) hT ⟨fun c => ?_, fun c => zP.mk ?_⟩⟩⟩⟩
        · rw [w1] at c
          exact absurd c (nI_ge hj (by omega))
        · rw [k2, hin]
          exact vp_in_nI (by omega) (by omega)
        · rw [k2, hin, nI_clamp (by omega), r2 _ (by omega), w2 j hj] at c
          have e2 : tp (st.1.2.1 + j) = w.getD j 0 := by
            rw [decide_eq_true c] at hsb
            exact of_decide_eq_true hsb.symm
          rw [← nI_succ]
          refine ih ?_
          rw [alB, hal, e2]
          simp
        · rw [k2, hin, nI_clamp (by omega), r2 _ (by omega), w2 j hj] at c
          have e2 : tp (st.1.2.1 + j) ≠ w.getD j 0 := by
            rw [decide_eq_false c] at hsb
            exact of_decide_eq_false hsb.symm
          have e3 : alB tp st.1.2.1 w w.length = false := by
            cases h9 : alB tp st.1.2.1 w w.length with
            | false => rfl
            | true =>
              exfalso
              have mono : ∀ m, j < m → alB tp st.1.2.1 w m = true → tp (st.1.2.1 + j) = w.getD j 0 := by
                intro m
                induction m with
                | zero => intro z; omega
                | succ m ihm =>
                  intro z hz
                  rw [alB, Bool.and_eq_true] at hz
                  by_cases hjm : j = m
                  · subst hjm
                    exact (beq_iff_eq.mp hz.2)
                  · exact ihm (by omega) hz.1
              exact e2 (mono _ hj h9)
          simp [tw, e3, bI]
    exact key 0 (Nat.zero_le _) rfl
  · rw [k2, k3, w1, pk_sub p1, nI_eq (by omega) (by omega)] at e
    simp [tw, e, bI]
theorem y_words : YWd := by
  intro d i iv rv lv hT hi
  obtain ⟨w1, w2⟩ := ww i hi
  obtain ⟨l6, lL⟩ := wds_L i hi
  unfold encW
  generalize hw : wds i = w at *
  refine eX11_wordOf _ (bX11_wordOf_0 _ hT ?_)
  have key : ∀ j, j ≤ w.length → Zl mX11_wordOf (d + 9 + 1) 4 [some (.ref (1000000 + i)), some (.long (nL (encT (fun j => w.getD j 0) 0 j))), none, some (.int (nI j))] [] iv rv lv (fun y a b c => y = nL (encT (fun j => w.getD j 0) 0 w.length) ∧ a = iv ∧ b = rv ∧ c = lv) := by
    refine zfor ?_ (fun j hj ih => ?_)
    · refine bX11_wordOf_4 _ _ _ hT ⟨⟨i, hi, rfl⟩, zcall (x_strlen hi) hT ⟨fun _ => ⟨rfl, rfl, rfl, rfl⟩, fun c => absurd ?_ c⟩⟩
      rw [w1]; exact nI_le (Nat.le_refl _) (by omega)
    · have hc := of_decide_eq_true (lL j hj)
      have hb := encT_b (tp := fun j => w.getD j 0) (s := 0) j (fun m hm => by rw [Nat.zero_add]; exact lL m (by omega))
      have hb2 : 32 ^ j ≤ 32 ^ 6 := Nat.pow_le_pow_right (by omega) (by omega)
      have e : encT (fun j => w.getD j 0) 0 (j + 1) = encT (fun j => w.getD j 0) 0 j * 32 + (w.getD j 0 - 96) := by
        rw [encT]
        simp only [Nat.zero_add]
      refine bX11_wordOf_4 _ _ _ hT ⟨⟨i, hi, rfl⟩, zcall (x_strlen hi) hT ⟨fun c => ?_, fun _ => ⟨⟨i, hi, rfl⟩, zcall (x_char hi (by rw [w1]; exact hj)) hT ?_⟩⟩⟩
      · rw [w1] at c
        exact absurd c (nI_ge hj (by omega))
      · rw [w2 j hj, nL_st (by omega) (by omega), ← e, ← nI_succ]
        exact ih
  exact key 0 (Nat.zero_le _)
