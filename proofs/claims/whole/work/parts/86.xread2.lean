/-! THE CLASS: reading. -/
def TS (w : zI) (tp : Nat → Nat) (n : Nat) (st : PS) : Prop := RT w tp n ∧ TK w st.1 ∧ w 1 9 = bI st.2.1 ∧ CS w 2 st.2.2
def FR (iv a : zI) : Prop := (∀ p, p = 0 ∨ 6 < p → a p = iv p) ∧ a 1 0 = iv 1 0
theorem FR.refl {iv : zI} : FR iv iv := ⟨fun _ _ => rfl, rfl⟩
theorem FR.trans {iv a b : zI} (h : FR iv a) (g : FR a b) : FR iv b := ⟨fun p hp => by rw [g.1 p hp]; exact h.1 p hp, by rw [g.2]; exact h.2⟩
theorem FZ.fr {iv a : zI} (h : FZ iv a) : FR iv a := ⟨fun p hp => h.1 p (by omega), h.2 0 (by decide) (by decide) (by decide) (by decide)⟩
/-- a reader's answer -/
def RQA (iv : zI) (rv : zR) (lv : zJ) (tp : Nat → Nat) (n : Nat) (r : PR) : Int32 → zI → zR → zJ → Prop := fun y a b c => y = bI (r.1 == 0) ∧ b = rv ∧ c = lv ∧ (r.1 ≠ 0 → a 1 2 = nI r.1 ∧ a 1 3 = nI r.2.1.2.1) ∧ (r.1 = 0 → TS a tp n r.2 ∧ a 1 2 = iv 1 2) ∧ FR iv a
theorem CS.f2 {w w' : zI} {s : Sn} (h : CS w 2 s) (hf : ∀ p, 2 ≤ p → p ≤ 5 → w' p = w p) : CS w' 2 s := by
  unfold CS
  rw [hf 2 (by omega) (by omega), hf (2 + 1) (by omega) (by omega), hf (2 + 2) (by omega) (by omega), hf (2 + 3) (by omega) (by omega)]
  exact h
/-- what the reading rests on -/
abbrev TX (tp : Nat → Nat) (n : Nat) : Prop := n ≤ 300 ∧ ∀ j, tp j < 256
theorem x_nx {tp : Nat → Nat} {n d : Nat} {st : PS} {iv : zI} {rv : zR} {lv : zJ} (hT : zTop rv) (hx : TX tp n) (hS : TS iv tp n st) (hP : PO n st) : Cv mX6_nextToken (d + 2) [.ref 1] iv rv lv (fun a b c' => b = rv ∧ c' = lv ∧ TS a tp n (nx tp n st) ∧ a 1 2 = iv 1 2 ∧ FR iv a) := by
  obtain ⟨s1, s2, s3, s4⟩ := hS
  obtain ⟨Q, hQ, hk⟩ := zcallV (K := fun a b c' => b = rv ∧ c' = lv ∧ TS a tp n (nx tp n st) ∧ a 1 2 = iv 1 2 ∧ FR iv a) (x_nextToken (d := d) (lv := lv) hT hx.1 hx.2 s1 s2.2.2.1 hP.2.1) (by
    rintro a _ _ ⟨rfl, rfl, g1, g2⟩
    exact ⟨hT, rfl, rfl, ⟨g2.rt s1, g1, by rw [g2.2 9 (by decide) (by decide) (by decide) (by decide)]; exact s3, s4.f2 (fun p p1 p2 => g2.1 p (by omega))⟩, g2.2 2 (by decide) (by decide) (by decide) (by decide), g2.fr⟩)
  exact Cv.mono hQ (fun a b c' h => (hk a b c' h).2)
