/-! THE REFERENCE: a pair goes. -/
theorem pl_era {l : List (Nat × Nat)} {p k : Nat} (hp : p < l.length) : pl (l.eraseIdx p) k = if k < 2 * p then pl l k else pl l (k + 2) := by
  unfold pl
  simp only [List.getD_eq_getElem?_getD, List.getElem?_eraseIdx]
  by_cases c : k < 2 * p
  · have c2 : k / 2 < p := by omega
    simp only [c, c2, if_true]
  · have c2 : ¬ k / 2 < p := by omega
    simp only [c, c2, if_false, show (k + 2) % 2 = k % 2 by omega, show (k + 2) / 2 = k / 2 + 1 by omega]
theorem y_parts {d p : Nat} {l : List (Nat × Nat)} {iv : zI} {rv : zR} {lv : zJ} (hT : zTop rv) (hP : PL 176 iv l) (hl : l.length ≤ 6) (hp : p < l.length) :
    Cv mX11_parts d [.ref 174, .int (nI p)] iv rv lv (fun a b c => b = rv ∧ c = lv ∧ PL 176 a (l.eraseIdx p) ∧ (∀ k, k < 22 → a 176 k = iv 176 k) ∧ ∀ q, q ≠ 176 → a q = iv q) := by
  have len : (l.eraseIdx p).length = l.length - 1 := List.length_eraseIdx_of_lt hp
  refine eX11_parts _ (bX11_parts_0 _ hT ?_)
  intro w0 e0
  rw [hP.1, z_1, pk_sub (by omega)] at e0
  rw [z_2, pk_mul]
  have key := zfor (c := 2 * (l.length - 1)) (P := fun k => 2 * p ≤ k → ∀ w : zI, (∀ q, q < k → w 176 (23 + q) = nI (pl (l.eraseIdx p) q)) → (∀ q, k ≤ q → q < 2 * l.length → w 176 (23 + q) = nI (pl l q)) → (∀ q, q < 23 → w 176 q = w0 176 q) → (∀ q, q ≠ 176 → w q = iv q) → Zv mX11_parts d 15 [some (.ref 174), some (.int (nI p)), some (.int (nI k))] [] w rv lv (fun a b c => b = rv ∧ c = lv ∧ PL 176 a (l.eraseIdx p) ∧ (∀ k, k < 22 → a 176 k = iv 176 k) ∧ ∀ q, q ≠ 176 → a q = iv q)) ?_ ?_
  · refine key (2 * p) (by omega) (Nat.le_refl _) w0 (fun q hq => ?_) (fun q _ hq => ?_) (fun _ _ => rfl) (fun q hq => by rw [e0, zu_row hq])
    · rw [e0, zu_k (by omega), hP.2 q (by omega), pl_era hp, if_pos hq]
    · rw [e0, zu_k (by omega), hP.2 q hq]
  · intro _ w g1 g2 g3 g4
    have c22 : w 176 22 = nI (l.length - 1) := by rw [g3 22 (by omega), e0, zu_eq]
    refine bX11_parts_15 _ _ hT ⟨fun _ => ?_, fun z => ?_⟩
    · refine ⟨rfl, rfl, ⟨by rw [len]; exact c22, fun k hk => g1 k (by rw [len] at hk; exact hk)⟩, fun k hk => ?_, g4⟩
      rw [g3 k (by omega), e0, zu_k (by omega)]
    · rw [c22, z_2, pk_mul] at z
      exact absurd (nI_le (by omega) (by omega)) z
  · intro k hk ih hpk w g1 g2 g3 g4
    have c22 : w 176 22 = nI (l.length - 1) := by rw [g3 22 (by omega), e0, zu_eq]
    refine bX11_parts_15 _ _ hT ⟨fun z => ?_, fun _ => ?_⟩
    · rw [c22, z_2, pk_mul] at z
      exact absurd z (nI_ge hk (by omega))
    · rw [z_23, nI_add, z_2, nI_add, nI_clamp (show 23 + k < 2 ^ 31 by omega), nI_clamp (show 23 + k + 2 < 2 ^ 31 by omega), nI_1]
      refine ⟨vp_in_nI (by omega) (by decide), vp_in_nI (by omega) (by decide), fun w1 e1 => ?_⟩
      subst e1
      refine ih (by omega) _ (fun q hq => ?_) (fun q q1 q2 => ?_) (fun q hq => ?_) (fun q hq => by rw [zu_row hq]; exact g4 q hq)
      · by_cases e : q = k
        · rw [e, zu_eq, show 23 + k + 2 = 23 + (k + 2) by omega, g2 (k + 2) (by omega) (by omega), pl_era hp, if_neg (by omega)]
        · rw [zu_k (by omega)]; exact g1 q (by omega)
      · rw [zu_k (by omega)]; exact g2 q (by omega) q2
      · rw [zu_k (by omega)]; exact g3 q hq
