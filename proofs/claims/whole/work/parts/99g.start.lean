/-! THE LAW'S START: both objects new, and what the memory then says. -/
def iv0 : zI := fun _ _ => 0
def rv0 : zR := fun _ _ => none
def lv0 : zJ := fun _ _ => 0
theorem fr0 : zFresh 0 iv0 rv0 lv0 := ⟨fun _ _ _ => ⟨rfl, rfl, rfl⟩, fun a k r h => by cases h⟩
/-- nothing read, nothing kept -/
def S0 : St := ((0, fun _ => 0), none, [], fun _ => none, (0, -1, 0), [], 0)
theorem S0_VT : VT S0 := ⟨⟨by decide +kernel, fun _ => (by decide : 0 < 256)⟩, (fun s h => by cases h), ⟨by decide +kernel, fun s h => by cases h⟩, (fun i s h => by cases h), (fun _ => ⟨rfl, fun _ => rfl⟩), ⟨by decide +kernel, by decide +kernel⟩, ⟨by decide +kernel, fun x h => by cases h⟩⟩
def ivS : zI := n11 (nw10 iv0)
def rvS : zR := r11 (r10 rv0)
theorem S0_top : zTop rvS := ⟨by decide +kernel, by decide +kernel, by decide +kernel, by decide +kernel, by decide +kernel, by decide +kernel, by decide +kernel, by decide +kernel, by decide +kernel, by decide +kernel⟩
theorem S0_MB : MB S0 ivS := by
  refine ⟨⟨(by decide +kernel : ivS 174 4 = nI 0), fun j h => absurd h (Nat.not_lt_zero j)⟩, ⟨(by decide +kernel : ivS 174 19 = bI false), fun s h => by cases h⟩, ⟨(by decide +kernel : ivS 174 21 = nI 0), fun j h => absurd h (Nat.not_lt_zero j)⟩, (fun i hi => ⟨(by decide +kernel : ∀ i, i < 2 → ivS 180 i = bI false) i hi, fun s h => by cases h⟩), ⟨(by decide +kernel : ivS 174 7 = nI 0), (by decide +kernel : ivS 174 2 = -1), (by decide +kernel : ivS 174 1 = nI 0)⟩, ⟨(by decide +kernel : ivS 174 51 = nI 0), fun j h => absurd h (Nat.not_lt_zero j)⟩⟩
theorem S0_CB : CB S0 ivS := by
  refine ⟨⟨(by decide +kernel : ivS 1 0 = nI 0), fun j h => absurd h (Nat.not_lt_zero j)⟩, (by decide +kernel : ivS 8 0 = nI 0), ⟨0, by decide, (by decide +kernel : ivS 13 1 = nI 0), (by decide +kernel : ivS 13 2 = nI 0), fun j h => absurd h (Nat.not_lt_zero j)⟩, (fun i hi => (by decide +kernel : ∀ i, i < 2 → ivS (66 + 5 * i) 0 = nI 0) i hi), ⟨(by decide +kernel : ivS 0 13 = nI 0), (by decide +kernel : ivS 0 14 = -1), (by decide +kernel : ivS 0 12 = nI 0)⟩, ⟨(by decide +kernel : ivS 0 11 = nI 0), fun j h => absurd h (Nat.not_lt_zero j)⟩, (by decide +kernel : ivS 0 3 = nI 0)⟩
theorem S0_JK : JK 0 ivS rvS := by
  refine ⟨S0, S0_VT, Nat.le_refl 0, ⟨S0_top, S0_CB, Or.inl (by decide +kernel : ivS 86 10 = -1), (fun k h1 h2 => ?_), ⟨Or.inl ⟨(by decide +kernel : rvS 155 0 = some 156), (by decide +kernel : rvS 155 1 = some 157)⟩, Or.inl (by decide +kernel : ivS 155 3 = -1)⟩⟩, S0_MB⟩
  have h3 := (by decide +kernel : ∀ j, j < 3 → ivS (159 + 5 * j) 4 = nI (j + 2) ∧ ivS (159 + 5 * j) 12 = -1) (k - 2) (by omega)
  rw [show k - 2 + 2 = k by omega] at h3
  exact ⟨h3.1, Or.inl h3.2⟩
theorem lstart {b L x : Nat} {xs : Nat → Int32} (hL : L ≤ 3072) (hx : 512 ≤ x) : Z mLw (40 + 1, 0, 200, x, zKl b L xs) 0 [some (.ref 2000000), none, none, none, none, none, none] [] 0 iv0 rv0 lv0 lQ := by
  refine Z_new (ci := 10) (N := 15) (C := RX10) (T := TX10) (n := 0) (idx := 8) (q := 3) (by decide +kernel) rfl inW10 cL_8 iX10 kX10_init.2.1 zty10_ok hdf10 rfl (by decide) fr0 (show 1 ≤ 200 by decide) rfl rfl rfl ?_
  have hf1 := fr0.up (m := 1) (by decide)
  refine Z_dup (q := 4) (by decide +kernel) rfl rfl ?_
  refine Z_callI (M2 := mX10_init) (idx := 15) (d2 := 37 + 3) (o := 0) (n2 := 174) (As := []) (q := 7) (by decide +kernel) kX10_init lL_15 rfl rfl (by decide +kernel) (Nat.le_of_ble_eq_true rfl) (Nat.le_refl _) (by decide) (show 174 ≤ 200 by decide) rfl rfl rfl (w10 (d := 37) hf1) rfl (fun r a b c hq => ?_)
  obtain ⟨e1, e2, e3, e4, hf2⟩ := hq
  subst e1 e2 e3 e4
  refine Z_astore_n (a := 1) (loc2 := [some (.ref 2000000), some (.ref 0), none, none, none, none, none]) (q := 8) (by decide +kernel) (by decide +kernel) rfl rfl rfl ?_
  refine Z_new (ci := 11) (N := 52) (C := RX11) (T := TX11) (n := 174) (idx := 16) (q := 11) (by decide +kernel) rfl inW11 cL_16 iX11 kX11_init.2.1 zty11_ok hdf11 rfl (by decide) hf2 (show 175 ≤ 200 by decide) rfl rfl rfl ?_
  have hf3 := hf2.up (m := 175) (by decide)
  refine Z_dup (q := 12) (by decide +kernel) rfl rfl ?_
  refine Z_callI (M2 := mX11_init) (idx := 18) (d2 := 39 + 1) (o := 174) (n2 := 199) (As := []) (q := 15) (by decide +kernel) kX11_init lL_18 rfl rfl (by decide +kernel) (Nat.le_of_ble_eq_true rfl) (Nat.le_refl _) (by decide) (show 199 ≤ 200 by decide) rfl rfl rfl (w11 (d := 39) hf3) rfl (fun r a b c hq => ?_)
  obtain ⟨e1, e2, e3, e4, hf4⟩ := hq
  subst e1 e2 e3 e4
  refine Z_astore_n (a := 2) (loc2 := [some (.ref 2000000), some (.ref 0), some (.ref 174), none, none, none, none]) (q := 16) (by decide +kernel) (by decide +kernel) rfl rfl rfl ?_
  refine Z_iconst (a := 1) (v := 1) (q := 17) (by decide +kernel) (by decide +kernel) rfl ?_
  refine Z_newaJ (N := 1) (n := 199) (q := 19) (by decide +kernel) (by decide) (by decide) (by decide) rfl (by decide) hf4 (show 200 ≤ 200 by decide) rfl rfl rfl ?_
  refine Z_astore_n (a := 3) (loc2 := [some (.ref 2000000), some (.ref 0), some (.ref 174), some (.ref 199), none, none, none]) (q := 20) (by decide +kernel) (by decide +kernel) rfl rfl rfl ?_
  refine Z_iconst (a := 0) (v := 0) (q := 21) (by decide +kernel) (by decide +kernel) rfl ?_
  refine Z_istore (a := 4) (loc2 := [some (.ref 2000000), some (.ref 0), some (.ref 174), some (.ref 199), some (.int (nI 0)), none, none]) (q := 23) (by decide +kernel) (by decide +kernel) rfl rfl rfl ?_
  exact lloop hL 512 0 0 x _ _ _ (by omega) (by omega) hx (by omega) S0_JK
