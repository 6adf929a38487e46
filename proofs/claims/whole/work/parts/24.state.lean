/-! State: total, keptCount, placeBySize, areApart. -/
theorem s_total {d o c : Nat} {v : Nat → Nat} {iv : zI} {rv : zR} {lv : zJ} (hT : zTop rv) (m : o ∈ zSts) (hc : iv o 0 = nI c) (hc10 : c ≤ 10) (hv : ∀ i, i < c → iv (o + 1) i = nI (v i)) : Ci mX9_total d [.ref o] iv rv lv (zP (nI (sm v c)) iv rv lv) := by
  refine eX9_total o (bX9_total_0 o hT m ?_)
  refine zfor (P := fun j => Zi mX9_total d 4 [some (.ref o), some (.int (nI (sm v j))), some (.int (nI j))] [] iv rv lv (zP (nI (sm v c)) iv rv lv)) (c := c) ?_ ?_ 0 (Nat.zero_le _)
  · exact bX9_total_4 o _ _ hT m ⟨fun _ => zP.mk rfl, fun h => absurd (by rw [hc]; exact nI_le (Nat.le_refl _) (by omega)) h⟩
  · intro j hj ih
    refine bX9_total_4 o _ _ hT m ⟨fun h => ?_, fun _ => ⟨vp_in_nI (by omega) (by decide), ?_⟩⟩
    · rw [hc] at h
      exact absurd h (nI_ge hj (by omega))
    · rw [nI_clamp (by omega), hv j hj, nI_add, nI_1]
      exact ih
