/-! CONSTRUCTORS: what each makes, in the order of the places. -/
theorem hdf0 : ∀ j, j < 3 → defaultValue (zty 0 j) = zdv (zkf (zty 0 j)) := by decide +kernel
theorem hdf1 : ∀ j, j < 8 → defaultValue (zty 1 j) = zdv (zkf (zty 1 j)) := by decide +kernel
theorem hdf2 : ∀ j, j < 4 → defaultValue (zty 2 j) = zdv (zkf (zty 2 j)) := by decide +kernel
theorem hdf3 : ∀ j, j < 4 → defaultValue (zty 3 j) = zdv (zkf (zty 3 j)) := by decide +kernel
theorem hdf4 : ∀ j, j < 6 → defaultValue (zty 4 j) = zdv (zkf (zty 4 j)) := by decide +kernel
theorem hdf5 : ∀ j, j < 13 → defaultValue (zty 5 j) = zdv (zkf (zty 5 j)) := by decide +kernel
theorem hdf6 : ∀ j, j < 10 → defaultValue (zty 6 j) = zdv (zkf (zty 6 j)) := by decide +kernel
theorem hdf7 : ∀ j, j < 11 → defaultValue (zty 7 j) = zdv (zkf (zty 7 j)) := by decide +kernel
theorem hdf8 : ∀ j, j < 4 → defaultValue (zty 8 j) = zdv (zkf (zty 8 j)) := by decide +kernel
theorem hdf9 : ∀ j, j < 6 → defaultValue (zty 9 j) = zdv (zkf (zty 9 j)) := by decide +kernel
theorem hdf10 : ∀ j, j < 15 → defaultValue (zty 10 j) = zdv (zkf (zty 10 j)) := by decide +kernel
theorem hdf11 : ∀ j, j < 52 → defaultValue (zty 11 j) = zdv (zkf (zty 11 j)) := by decide +kernel
def n9 (o : Nat) (iv : zI) : zI := zu (zu (iv) (o) 0 (0)) (o) 1 (2)
def r9 (o : Nat) (rv : zR) : zR := zu (zu (zu (zu (rv) (o) 2 (some (o + 1))) (o) 3 (some (o + 2))) (o) 4 (some (o + 3))) (o) 5 (some (o + 4))
theorem w9 {d o : Nat} {iv : zI} {rv : zR} {lv : zJ} (ho : o ∈ zSts) (hf : zFresh (o + 1) iv rv lv) : Mw mX9_init (d + 1) (o + 5) [.ref o] (o + 1) iv rv lv (fun r a b c => r = none ∧ a = n9 o iv ∧ b = r9 o rv ∧ c = lv ∧ zFresh (o + 5) a b c) := by
  refine Mw.of (loc := [some (.ref o)]) (by decide +kernel) (by simp [Value.category]) (Nat.le_of_ble_eq_true rfl) rfl (by omega) (by have := (sSts o ho).2.2.2.2.2; omega) ?_
  refine Z_aload_n (a := 0) (q := 1) (by decide +kernel) rfl rfl ?_
  refine Z_objInit (idx := 3) (q := 4) (by decide +kernel) lX9_3 (Nat.le_of_ble_eq_true rfl) (Nat.succ_le_succ (Nat.zero_le _)) rfl ?_
  refine Z_aload_n (a := 0) (q := 5) (by decide +kernel) rfl rfl ?_
  refine Z_iconst (a := 0) (v := 0) (q := 6) (by decide +kernel) (by decide +kernel) rfl ?_
  refine p9_0 (idx := 9) (q := 9) (by decide +kernel) fX9_9 (sSts o ho).1 (by omega) rfl ?_
  have hf1 := hf.putI (o := o) (k := 0) (x := 0) (by omega)
  refine Z_aload_n (a := 0) (q := 10) (by decide +kernel) rfl rfl ?_
  refine Z_iconst (a := 2) (v := 2) (q := 11) (by decide +kernel) (by decide +kernel) rfl ?_
  refine p9_1 (idx := 15) (q := 14) (by decide +kernel) fX9_15 (sSts o ho).1 (by omega) rfl ?_
  have hf2 := hf1.putI (o := o) (k := 1) (x := 2) (by omega)
  refine Z_aload_n (a := 0) (q := 15) (by decide +kernel) rfl rfl ?_
  refine Z_bipush (a := 10) (v := 10) (q := 17) (by decide +kernel) (by decide +kernel) rfl ?_
  refine Z_newaI (N := 10) (n := o + 1) (q := 19) (by decide +kernel) (by decide) (by decide) (by decide) (sSts o ho).2.1 (by have := (sSts o ho).2.2.2.2.2; omega) hf2 (show o + 2 ≤ o + 5 by omega) (by simp [zok]) (by simp [zok]) rfl ?_
  have hf3 := hf2.up (m := o + 2) (Nat.le_succ _)
  refine pf9_2 (idx := 18) (q := 22) (by decide +kernel) fX9_18 (sSts o ho).1 (by omega) rfl rfl rfl ?_
  have hf4 := hf3.putR (o := o) (k := 2) (r := o + 1) (by omega) (by omega)
  refine Z_aload_n (a := 0) (q := 23) (by decide +kernel) rfl rfl ?_
  refine Z_bipush (a := 10) (v := 10) (q := 25) (by decide +kernel) (by decide +kernel) rfl ?_
  refine Z_newaI (N := 10) (n := o + 2) (q := 27) (by decide +kernel) (by decide) (by decide) (by decide) (sSts o ho).2.2.1 (by have := (sSts o ho).2.2.2.2.2; omega) hf4 (show o + 3 ≤ o + 5 by omega) (by simp [zok]) (by simp [zok]) rfl ?_
  have hf5 := hf4.up (m := o + 3) (Nat.le_succ _)
  refine pf9_3 (idx := 22) (q := 30) (by decide +kernel) fX9_22 (sSts o ho).1 (by omega) rfl rfl rfl ?_
  have hf6 := hf5.putR (o := o) (k := 3) (r := o + 2) (by omega) (by omega)
  refine Z_aload_n (a := 0) (q := 31) (by decide +kernel) rfl rfl ?_
  refine Z_bipush (a := 10) (v := 10) (q := 33) (by decide +kernel) (by decide +kernel) rfl ?_
  refine Z_newaI (N := 10) (n := o + 3) (q := 35) (by decide +kernel) (by decide) (by decide) (by decide) (sSts o ho).2.2.2.1 (by have := (sSts o ho).2.2.2.2.2; omega) hf6 (show o + 4 ≤ o + 5 by omega) (by simp [zok]) (by simp [zok]) rfl ?_
  have hf7 := hf6.up (m := o + 4) (Nat.le_succ _)
  refine pf9_4 (idx := 25) (q := 38) (by decide +kernel) fX9_25 (sSts o ho).1 (by omega) rfl rfl rfl ?_
  have hf8 := hf7.putR (o := o) (k := 4) (r := o + 3) (by omega) (by omega)
  refine Z_aload_n (a := 0) (q := 39) (by decide +kernel) rfl rfl ?_
  refine Z_bipush (a := 10) (v := 10) (q := 41) (by decide +kernel) (by decide +kernel) rfl ?_
  refine Z_newaI (N := 10) (n := o + 4) (q := 43) (by decide +kernel) (by decide) (by decide) (by decide) (sSts o ho).2.2.2.2.1 (by have := (sSts o ho).2.2.2.2.2; omega) hf8 (show o + 5 ≤ o + 5 by omega) (by simp [zok]) (by simp [zok]) rfl ?_
  have hf9 := hf8.up (m := o + 5) (Nat.le_succ _)
  refine pf9_5 (idx := 28) (q := 46) (by decide +kernel) fX9_28 (sSts o ho).1 (by omega) rfl rfl rfl ?_
  have hf10 := hf9.putR (o := o) (k := 5) (r := o + 4) (by omega) (by omega)
  exact Z_vret (by decide +kernel) rfl rfl ⟨rfl, rfl, rfl, rfl, hf10⟩
def n3 (o : Nat) (iv : zI) : zI := zu (iv) (o) 0 (0)
def r3 (o : Nat) (rv : zR) : zR := zu (zu (zu (rv) (o) 1 (some (o + 1))) (o) 2 (some (o + 2))) (o) 3 (some (o + 3))
theorem w3 {d o : Nat} {iv : zI} {rv : zR} {lv : zJ} (ho : o ∈ zIts) (hf : zFresh (o + 1) iv rv lv) : Mw mX3_init (d + 1) (o + 4) [.ref o] (o + 1) iv rv lv (fun r a b c => r = none ∧ a = n3 o iv ∧ b = r3 o rv ∧ c = lv ∧ zFresh (o + 4) a b c) := by
  refine Mw.of (loc := [some (.ref o)]) (by decide +kernel) (by simp [Value.category]) (Nat.le_of_ble_eq_true rfl) rfl (by omega) (by have := (sIts o ho).2.2.2.2; omega) ?_
  refine Z_aload_n (a := 0) (q := 1) (by decide +kernel) rfl rfl ?_
  refine Z_objInit (idx := 3) (q := 4) (by decide +kernel) lX3_3 (Nat.le_of_ble_eq_true rfl) (Nat.succ_le_succ (Nat.zero_le _)) rfl ?_
  refine Z_aload_n (a := 0) (q := 5) (by decide +kernel) rfl rfl ?_
  refine Z_iconst (a := 0) (v := 0) (q := 6) (by decide +kernel) (by decide +kernel) rfl ?_
  refine p3_0 (idx := 9) (q := 9) (by decide +kernel) fX3_9 (sIts o ho).1 (by omega) rfl ?_
  have hf11 := hf.putI (o := o) (k := 0) (x := 0) (by omega)
  refine Z_aload_n (a := 0) (q := 10) (by decide +kernel) rfl rfl ?_
  refine Z_bipush (a := 10) (v := 10) (q := 12) (by decide +kernel) (by decide +kernel) rfl ?_
  refine Z_newaI (N := 10) (n := o + 1) (q := 14) (by decide +kernel) (by decide) (by decide) (by decide) (sIts o ho).2.1 (by have := (sIts o ho).2.2.2.2; omega) hf11 (show o + 2 ≤ o + 4 by omega) (by simp [zok]) (by simp [zok]) rfl ?_
  have hf12 := hf11.up (m := o + 2) (Nat.le_succ _)
  refine pf3_1 (idx := 15) (q := 17) (by decide +kernel) fX3_15 (sIts o ho).1 (by omega) rfl rfl rfl ?_
  have hf13 := hf12.putR (o := o) (k := 1) (r := o + 1) (by omega) (by omega)
  refine Z_aload_n (a := 0) (q := 18) (by decide +kernel) rfl rfl ?_
  refine Z_bipush (a := 10) (v := 10) (q := 20) (by decide +kernel) (by decide +kernel) rfl ?_
  refine Z_newaI (N := 10) (n := o + 2) (q := 22) (by decide +kernel) (by decide) (by decide) (by decide) (sIts o ho).2.2.1 (by have := (sIts o ho).2.2.2.2; omega) hf13 (show o + 3 ≤ o + 4 by omega) (by simp [zok]) (by simp [zok]) rfl ?_
  have hf14 := hf13.up (m := o + 3) (Nat.le_succ _)
  refine pf3_2 (idx := 19) (q := 25) (by decide +kernel) fX3_19 (sIts o ho).1 (by omega) rfl rfl rfl ?_
  have hf15 := hf14.putR (o := o) (k := 2) (r := o + 2) (by omega) (by omega)
  refine Z_aload_n (a := 0) (q := 26) (by decide +kernel) rfl rfl ?_
  refine Z_bipush (a := 10) (v := 10) (q := 28) (by decide +kernel) (by decide +kernel) rfl ?_
  refine Z_newaI (N := 10) (n := o + 3) (q := 30) (by decide +kernel) (by decide) (by decide) (by decide) (sIts o ho).2.2.2.1 (by have := (sIts o ho).2.2.2.2; omega) hf15 (show o + 4 ≤ o + 4 by omega) (by simp [zok]) (by simp [zok]) rfl ?_
  have hf16 := hf15.up (m := o + 4) (Nat.le_succ _)
  refine pf3_3 (idx := 22) (q := 33) (by decide +kernel) fX3_22 (sIts o ho).1 (by omega) rfl rfl rfl ?_
  have hf17 := hf16.putR (o := o) (k := 3) (r := o + 3) (by omega) (by omega)
  exact Z_vret (by decide +kernel) rfl rfl ⟨rfl, rfl, rfl, rfl, hf17⟩
def n5 (o : Nat) (k : Int32) (iv : zI) : zI := zu (zu (zu (zu (zu (zu (zu (zu (zu (iv) (o) 0 (1000000)) (o) 1 (0)) (o) 2 (1000000)) (o) 8 (0)) (o) 9 (0)) (o) 10 (0)) (o) 11 (0)) (o) 12 (-1)) (o) 4 (k)
def r5 (o : Nat) (rv : zR) : zR := zu (zu (zu (zu (rv) (o) 3 (some (o + 1))) (o) 5 (some (o + 2))) (o) 6 (some (o + 3))) (o) 7 (some (o + 4))
theorem w5 {d o : Nat} {k : Int32} {iv : zI} {rv : zR} {lv : zJ} (ho : o ∈ zPts) (hf : zFresh (o + 1) iv rv lv) : Mw mX5_init (d + 1) (o + 5) [.ref o, .int k] (o + 1) iv rv lv (fun r a b c => r = none ∧ a = n5 o k iv ∧ b = r5 o rv ∧ c = lv ∧ zFresh (o + 5) a b c) := by
  refine Mw.of (loc := [some (.ref o), some (.int k)]) (by decide +kernel) (by simp [Value.category]) (Nat.le_of_ble_eq_true rfl) rfl (by omega) (by have := (sPts o ho).2.2.2.2.2; omega) ?_
  refine Z_aload_n (a := 0) (q := 1) (by decide +kernel) rfl rfl ?_
  refine Z_objInit (idx := 3) (q := 4) (by decide +kernel) lX5_3 (Nat.le_of_ble_eq_true rfl) (Nat.succ_le_succ (Nat.zero_le _)) rfl ?_
  refine Z_aload_n (a := 0) (q := 5) (by decide +kernel) rfl rfl ?_
  refine Z_ldc (a := 11) (v := 1000000) (q := 7) (by decide +kernel) cX5_11 rfl ?_
  refine p5_0 (idx := 12) (q := 10) (by decide +kernel) fX5_12 (sPts o ho).1 (by omega) rfl ?_
  have hf18 := hf.putI (o := o) (k := 0) (x := 1000000) (by omega)
  refine Z_aload_n (a := 0) (q := 11) (by decide +kernel) rfl rfl ?_
  refine Z_iconst (a := 0) (v := 0) (q := 12) (by decide +kernel) (by decide +kernel) rfl ?_
  refine p5_1 (idx := 16) (q := 15) (by decide +kernel) fX5_16 (sPts o ho).1 (by omega) rfl ?_
  have hf19 := hf18.putI (o := o) (k := 1) (x := 0) (by omega)
  refine Z_aload_n (a := 0) (q := 16) (by decide +kernel) rfl rfl ?_
  refine Z_ldc (a := 11) (v := 1000000) (q := 18) (by decide +kernel) cX5_11 rfl ?_
  refine p5_2 (idx := 19) (q := 21) (by decide +kernel) fX5_19 (sPts o ho).1 (by omega) rfl ?_
  have hf20 := hf19.putI (o := o) (k := 2) (x := 1000000) (by omega)
  refine Z_aload_n (a := 0) (q := 22) (by decide +kernel) rfl rfl ?_
  refine Z_bipush (a := 10) (v := 10) (q := 24) (by decide +kernel) (by decide +kernel) rfl ?_
  refine Z_newaI (N := 10) (n := o + 1) (q := 26) (by decide +kernel) (by decide) (by decide) (by decide) (sPts o ho).2.1 (by have := (sPts o ho).2.2.2.2.2; omega) hf20 (show o + 2 ≤ o + 5 by omega) (by simp [zok]) (by simp [zok]) rfl ?_
  have hf21 := hf20.up (m := o + 2) (Nat.le_succ _)
  refine pf5_3 (idx := 22) (q := 29) (by decide +kernel) fX5_22 (sPts o ho).1 (by omega) rfl rfl rfl ?_
  have hf22 := hf21.putR (o := o) (k := 3) (r := o + 1) (by omega) (by omega)
  refine Z_aload_n (a := 0) (q := 30) (by decide +kernel) rfl rfl ?_
  refine Z_bipush (a := 10) (v := 10) (q := 32) (by decide +kernel) (by decide +kernel) rfl ?_
  refine Z_newaI (N := 10) (n := o + 2) (q := 34) (by decide +kernel) (by decide) (by decide) (by decide) (sPts o ho).2.2.1 (by have := (sPts o ho).2.2.2.2.2; omega) hf22 (show o + 3 ≤ o + 5 by omega) (by simp [zok]) (by simp [zok]) rfl ?_
  have hf23 := hf22.up (m := o + 3) (Nat.le_succ _)
  refine pf5_5 (idx := 26) (q := 37) (by decide +kernel) fX5_26 (sPts o ho).1 (by omega) rfl rfl rfl ?_
  have hf24 := hf23.putR (o := o) (k := 5) (r := o + 2) (by omega) (by omega)
  refine Z_aload_n (a := 0) (q := 38) (by decide +kernel) rfl rfl ?_
  refine Z_iconst (a := 4) (v := 4) (q := 39) (by decide +kernel) (by decide +kernel) rfl ?_
  refine Z_newaI (N := 4) (n := o + 3) (q := 41) (by decide +kernel) (by decide) (by decide) (by decide) (sPts o ho).2.2.2.1 (by have := (sPts o ho).2.2.2.2.2; omega) hf24 (show o + 4 ≤ o + 5 by omega) (by simp [zok]) (by simp [zok]) rfl ?_
  have hf25 := hf24.up (m := o + 4) (Nat.le_succ _)
  refine pf5_6 (idx := 29) (q := 44) (by decide +kernel) fX5_29 (sPts o ho).1 (by omega) rfl rfl rfl ?_
  have hf26 := hf25.putR (o := o) (k := 6) (r := o + 3) (by omega) (by omega)
  refine Z_aload_n (a := 0) (q := 45) (by decide +kernel) rfl rfl ?_
  refine Z_iconst (a := 4) (v := 4) (q := 46) (by decide +kernel) (by decide +kernel) rfl ?_
  refine Z_newaI (N := 4) (n := o + 4) (q := 48) (by decide +kernel) (by decide) (by decide) (by decide) (sPts o ho).2.2.2.2.1 (by have := (sPts o ho).2.2.2.2.2; omega) hf26 (show o + 5 ≤ o + 5 by omega) (by simp [zok]) (by simp [zok]) rfl ?_
  have hf27 := hf26.up (m := o + 5) (Nat.le_succ _)
  refine pf5_7 (idx := 32) (q := 51) (by decide +kernel) fX5_32 (sPts o ho).1 (by omega) rfl rfl rfl ?_
  have hf28 := hf27.putR (o := o) (k := 7) (r := o + 4) (by omega) (by omega)
  refine Z_aload_n (a := 0) (q := 52) (by decide +kernel) rfl rfl ?_
  refine Z_iconst (a := 0) (v := 0) (q := 53) (by decide +kernel) (by decide +kernel) rfl ?_
  refine p5_8 (idx := 35) (q := 56) (by decide +kernel) fX5_35 (sPts o ho).1 (by omega) rfl ?_
  have hf29 := hf28.putI (o := o) (k := 8) (x := 0) (by omega)
  refine Z_aload_n (a := 0) (q := 57) (by decide +kernel) rfl rfl ?_
  refine Z_iconst (a := 0) (v := 0) (q := 58) (by decide +kernel) (by decide +kernel) rfl ?_
  refine p5_9 (idx := 38) (q := 61) (by decide +kernel) fX5_38 (sPts o ho).1 (by omega) rfl ?_
  have hf30 := hf29.putI (o := o) (k := 9) (x := 0) (by omega)
  refine Z_aload_n (a := 0) (q := 62) (by decide +kernel) rfl rfl ?_
  refine Z_iconst (a := 0) (v := 0) (q := 63) (by decide +kernel) (by decide +kernel) rfl ?_
  refine p5_10 (idx := 41) (q := 66) (by decide +kernel) fX5_41 (sPts o ho).1 (by omega) (by decide) rfl ?_
  have hf31 := hf30.putI (o := o) (k := 10) (x := 0) (by omega)
  refine Z_aload_n (a := 0) (q := 67) (by decide +kernel) rfl rfl ?_
  refine Z_iconst (a := 0) (v := 0) (q := 68) (by decide +kernel) (by decide +kernel) rfl ?_
  refine p5_11 (idx := 45) (q := 71) (by decide +kernel) fX5_45 (sPts o ho).1 (by omega) rfl ?_
  have hf32 := hf31.putI (o := o) (k := 11) (x := 0) (by omega)
  refine Z_aload_n (a := 0) (q := 72) (by decide +kernel) rfl rfl ?_
  refine Z_iconst (a := (-1)) (v := (-1)) (q := 73) (by decide +kernel) (by decide +kernel) rfl ?_
  refine p5_12 (idx := 48) (q := 76) (by decide +kernel) fX5_48 (sPts o ho).1 (by omega) rfl ?_
  have hf33 := hf32.putI (o := o) (k := 12) (x := (-1)) (by omega)
  refine Z_aload_n (a := 0) (q := 77) (by decide +kernel) rfl rfl ?_
  refine Z_iload_n (a := 1) (q := 78) (by decide +kernel) rfl rfl ?_
  refine pf5_4 (idx := 51) (q := 81) (by decide +kernel) fX5_51 (sPts o ho).1 (by omega) rfl rfl rfl ?_
  have hf34 := hf33.putI (o := o) (k := 4) (x := k) (by omega)
  exact Z_vret (by decide +kernel) rfl rfl ⟨rfl, rfl, rfl, rfl, hf34⟩
def n6 (iv : zI) : zI := zu (zu (zu (zu (zu (zu (zu (n9 (2) (zu (iv) (1) 0 (0))) (1) 2 (0)) (1) 3 (0)) (1) 5 (0)) (1) 6 (0)) (1) 7 (0)) (1) 8 (0)) (1) 9 (0)
def r6 (rv : zR) : zR := zu (zu (r9 (2) (rv)) (1) 1 (some (2))) (1) 4 (some (7))
theorem w6 {d : Nat} {iv : zI} {rv : zR} {lv : zJ} (hf : zFresh 2 iv rv lv) : Mw mX6_init (d + 2) 8 [.ref 1] 2 iv rv lv (fun r a b c => r = none ∧ a = n6 iv ∧ b = r6 rv ∧ c = lv ∧ zFresh (8) a b c) := by
  refine Mw.of (loc := [some (.ref 1)]) (by decide +kernel) (by simp [Value.category]) (Nat.le_of_ble_eq_true rfl) rfl (by decide) (by decide) ?_
  refine Z_aload_n (a := 0) (q := 1) (by decide +kernel) rfl rfl ?_
  refine Z_objInit (idx := 3) (q := 4) (by decide +kernel) lX6_3 (Nat.le_of_ble_eq_true rfl) (Nat.succ_le_succ (Nat.zero_le _)) rfl ?_
  refine Z_aload_n (a := 0) (q := 5) (by decide +kernel) rfl rfl ?_
  refine Z_iconst (a := 0) (v := 0) (q := 6) (by decide +kernel) (by decide +kernel) rfl ?_
  refine p6_0 (idx := 9) (q := 9) (by decide +kernel) fX6_9 rfl (by decide) rfl ?_
  have hf35 := hf.putI (o := 1) (k := 0) (x := 0) (by decide)
  refine Z_aload_n (a := 0) (q := 10) (by decide +kernel) rfl rfl ?_
  refine Z_new (ci := 9) (N := 6) (C := RX9) (T := TX9) (n := 2) (idx := 15) (q := 13) (by decide +kernel) rfl inW9 cX6_15 iX9 kX9_init.2.1 zty9_ok hdf9 rfl (by decide) hf35 (show 3 ≤ 8 by decide) rfl rfl rfl ?_
  have hf36 := hf35.up (m := 3) (Nat.le_succ _)
  refine Z_dup (q := 14) (by decide +kernel) rfl rfl ?_
  refine Z_callIN (M2 := mX9_init) (idx := 17) (d2 := d + 1) (o := 2) (n2 := 7) (As := []) (q := 17) (by decide +kernel) kX9_init nX6_17 rfl rfl (by decide +kernel) (Nat.le_of_ble_eq_true rfl) (Nat.le_refl _) (by decide) (show 7 ≤ 8 by decide) rfl rfl rfl (w9 (d := d + 0) (o := 2) (by decide +kernel) hf36) rfl (fun r a b c hq => ?_)
  obtain ⟨e1, e2, e3, e4, hf37⟩ := hq
  subst e1 e2 e3 e4
  refine pf6_1 (idx := 18) (q := 20) (by decide +kernel) fX6_18 rfl (by decide) rfl rfl rfl ?_
  have hf38 := hf37.putR (o := 1) (k := 1) (r := 2) (by decide) (by decide)
  refine Z_aload_n (a := 0) (q := 21) (by decide +kernel) rfl rfl ?_
  refine Z_iconst (a := 0) (v := 0) (q := 22) (by decide +kernel) (by decide +kernel) rfl ?_
  refine p6_2 (idx := 22) (q := 25) (by decide +kernel) fX6_22 rfl (by decide) rfl ?_
  have hf39 := hf38.putI (o := 1) (k := 2) (x := 0) (by decide)
  refine Z_aload_n (a := 0) (q := 26) (by decide +kernel) rfl rfl ?_
  refine Z_iconst (a := 0) (v := 0) (q := 27) (by decide +kernel) (by decide +kernel) rfl ?_
  refine p6_3 (idx := 25) (q := 30) (by decide +kernel) fX6_25 rfl (by decide) rfl ?_
  have hf40 := hf39.putI (o := 1) (k := 3) (x := 0) (by decide)
  refine Z_aload_n (a := 0) (q := 31) (by decide +kernel) rfl rfl ?_
  refine Z_sipush (a := 300) (v := 300) (q := 34) (by decide +kernel) (by decide +kernel) rfl ?_
  refine Z_newaB (N := 300) (n := 7) (q := 36) (by decide +kernel) (by decide) (by decide) (by decide) rfl (by decide) hf40 (show 8 ≤ 8 by decide) rfl rfl rfl ?_
  have hf41 := hf40.up (m := 8) (Nat.le_succ _)
  refine pf6_4 (idx := 28) (q := 39) (by decide +kernel) fX6_28 rfl (by decide) rfl rfl rfl ?_
  have hf42 := hf41.putR (o := 1) (k := 4) (r := 7) (by decide) (by decide)
  refine Z_aload_n (a := 0) (q := 40) (by decide +kernel) rfl rfl ?_
  refine Z_iconst (a := 0) (v := 0) (q := 41) (by decide +kernel) (by decide +kernel) rfl ?_
  refine p6_5 (idx := 32) (q := 44) (by decide +kernel) fX6_32 rfl (by decide) rfl ?_
  have hf43 := hf42.putI (o := 1) (k := 5) (x := 0) (by decide)
  refine Z_aload_n (a := 0) (q := 45) (by decide +kernel) rfl rfl ?_
  refine Z_iconst (a := 0) (v := 0) (q := 46) (by decide +kernel) (by decide +kernel) rfl ?_
  refine p6_6 (idx := 35) (q := 49) (by decide +kernel) fX6_35 rfl (by decide) rfl ?_
  have hf44 := hf43.putI (o := 1) (k := 6) (x := 0) (by decide)
  refine Z_aload_n (a := 0) (q := 50) (by decide +kernel) rfl rfl ?_
  refine Z_iconst (a := 0) (v := 0) (q := 51) (by decide +kernel) (by decide +kernel) rfl ?_
  refine p6_7 (idx := 38) (q := 54) (by decide +kernel) fX6_38 rfl (by decide) rfl ?_
  have hf45 := hf44.putI (o := 1) (k := 7) (x := 0) (by decide)
  refine Z_aload_n (a := 0) (q := 55) (by decide +kernel) rfl rfl ?_
  refine Z_iconst (a := 0) (v := 0) (q := 56) (by decide +kernel) (by decide +kernel) rfl ?_
  refine p6_8 (idx := 41) (q := 59) (by decide +kernel) fX6_41 rfl (by decide) rfl ?_
  have hf46 := hf45.putI (o := 1) (k := 8) (x := 0) (by decide)
  refine Z_aload_n (a := 0) (q := 60) (by decide +kernel) rfl rfl ?_
  refine Z_iconst (a := 0) (v := 0) (q := 61) (by decide +kernel) (by decide +kernel) rfl ?_
  refine p6_9 (idx := 44) (q := 64) (by decide +kernel) fX6_44 rfl (by decide) (by decide) rfl ?_
  have hf47 := hf46.putI (o := 1) (k := 9) (x := 0) (by decide)
  exact Z_vret (by decide +kernel) rfl rfl ⟨rfl, rfl, rfl, rfl, hf47⟩
def n1 (iv : zI) : zI := zu (zu (zu (zu (zu (zu (iv) (76) 1 (0)) (76) 3 (2)) (76) 4 (0)) (76) 5 (0)) (76) 6 (0)) (76) 7 (-1)
def r1 (rv : zR) : zR := zu (zu (rv) (76) 0 (some (77))) (76) 2 (some (78))
theorem w1 {d : Nat} {iv : zI} {rv : zR} {lv : zJ} (hf : zFresh 77 iv rv lv) : Mw mX1_init (d + 1) 79 [.ref 76] 77 iv rv lv (fun r a b c => r = none ∧ a = n1 iv ∧ b = r1 rv ∧ c = lv ∧ zFresh (79) a b c) := by
  refine Mw.of (loc := [some (.ref 76)]) (by decide +kernel) (by simp [Value.category]) (Nat.le_of_ble_eq_true rfl) rfl (by decide) (by decide) ?_
  refine Z_aload_n (a := 0) (q := 1) (by decide +kernel) rfl rfl ?_
  refine Z_objInit (idx := 3) (q := 4) (by decide +kernel) lX1_3 (Nat.le_of_ble_eq_true rfl) (Nat.succ_le_succ (Nat.zero_le _)) rfl ?_
  refine Z_aload_n (a := 0) (q := 5) (by decide +kernel) rfl rfl ?_
  refine Z_bipush (a := 10) (v := 10) (q := 7) (by decide +kernel) (by decide +kernel) rfl ?_
  refine Z_newaI (N := 10) (n := 77) (q := 9) (by decide +kernel) (by decide) (by decide) (by decide) rfl (by decide) hf (show 78 ≤ 79 by decide) rfl rfl rfl ?_
  have hf48 := hf.up (m := 78) (Nat.le_succ _)
  refine pf1_0 (idx := 9) (q := 12) (by decide +kernel) fX1_9 rfl (by decide) rfl rfl rfl ?_
  have hf49 := hf48.putR (o := 76) (k := 0) (r := 77) (by decide) (by decide)
  refine Z_aload_n (a := 0) (q := 13) (by decide +kernel) rfl rfl ?_
  refine Z_iconst (a := 0) (v := 0) (q := 14) (by decide +kernel) (by decide +kernel) rfl ?_
  refine p1_1 (idx := 15) (q := 17) (by decide +kernel) fX1_15 rfl (by decide) rfl ?_
  have hf50 := hf49.putI (o := 76) (k := 1) (x := 0) (by decide)
  refine Z_aload_n (a := 0) (q := 18) (by decide +kernel) rfl rfl ?_
  refine Z_iconst (a := 4) (v := 4) (q := 19) (by decide +kernel) (by decide +kernel) rfl ?_
  refine Z_newaI (N := 4) (n := 78) (q := 21) (by decide +kernel) (by decide) (by decide) (by decide) rfl (by decide) hf50 (show 79 ≤ 79 by decide) rfl rfl rfl ?_
  have hf51 := hf50.up (m := 79) (Nat.le_succ _)
  refine pf1_2 (idx := 19) (q := 24) (by decide +kernel) fX1_19 rfl (by decide) rfl rfl rfl ?_
  have hf52 := hf51.putR (o := 76) (k := 2) (r := 78) (by decide) (by decide)
  refine Z_aload_n (a := 0) (q := 25) (by decide +kernel) rfl rfl ?_
  refine Z_iconst (a := 2) (v := 2) (q := 26) (by decide +kernel) (by decide +kernel) rfl ?_
  refine p1_3 (idx := 22) (q := 29) (by decide +kernel) fX1_22 rfl (by decide) rfl ?_
  have hf53 := hf52.putI (o := 76) (k := 3) (x := 2) (by decide)
  refine Z_aload_n (a := 0) (q := 30) (by decide +kernel) rfl rfl ?_
  refine Z_iconst (a := 0) (v := 0) (q := 31) (by decide +kernel) (by decide +kernel) rfl ?_
  refine p1_4 (idx := 25) (q := 34) (by decide +kernel) fX1_25 rfl (by decide) rfl ?_
  have hf54 := hf53.putI (o := 76) (k := 4) (x := 0) (by decide)
  refine Z_aload_n (a := 0) (q := 35) (by decide +kernel) rfl rfl ?_
  refine Z_iconst (a := 0) (v := 0) (q := 36) (by decide +kernel) (by decide +kernel) rfl ?_
  refine p1_5 (idx := 28) (q := 39) (by decide +kernel) fX1_28 rfl (by decide) rfl ?_
  have hf55 := hf54.putI (o := 76) (k := 5) (x := 0) (by decide)
  refine Z_aload_n (a := 0) (q := 40) (by decide +kernel) rfl rfl ?_
  refine Z_iconst (a := 0) (v := 0) (q := 41) (by decide +kernel) (by decide +kernel) rfl ?_
  refine p1_6 (idx := 31) (q := 44) (by decide +kernel) fX1_31 rfl (by decide) rfl ?_
  have hf56 := hf55.putI (o := 76) (k := 6) (x := 0) (by decide)
  refine Z_aload_n (a := 0) (q := 45) (by decide +kernel) rfl rfl ?_
  refine Z_iconst (a := (-1)) (v := (-1)) (q := 46) (by decide +kernel) (by decide +kernel) rfl ?_
  refine p1_7 (idx := 34) (q := 49) (by decide +kernel) fX1_34 rfl (by decide) rfl ?_
  have hf57 := hf56.putI (o := 76) (k := 7) (x := (-1)) (by decide)
  exact Z_vret (by decide +kernel) rfl rfl ⟨rfl, rfl, rfl, rfl, hf57⟩
def n0 (iv : zI) : zI := n3 (80) (iv)
def r0 (rv : zR) : zR := zu (zu (zu (r3 (80) (rv)) (79) 0 (some (80))) (79) 1 (some (84))) (79) 2 (some (85))
theorem w0 {d : Nat} {iv : zI} {rv : zR} {lv : zJ} (hf : zFresh 80 iv rv lv) : Mw mX0_init (d + 2) 86 [.ref 79] 80 iv rv lv (fun r a b c => r = none ∧ a = n0 iv ∧ b = r0 rv ∧ c = lv ∧ zFresh (86) a b c) := by
  refine Mw.of (loc := [some (.ref 79)]) (by decide +kernel) (by simp [Value.category]) (Nat.le_of_ble_eq_true rfl) rfl (by decide) (by decide) ?_
  refine Z_aload_n (a := 0) (q := 1) (by decide +kernel) rfl rfl ?_
  refine Z_objInit (idx := 3) (q := 4) (by decide +kernel) lX0_3 (Nat.le_of_ble_eq_true rfl) (Nat.succ_le_succ (Nat.zero_le _)) rfl ?_
  refine Z_aload_n (a := 0) (q := 5) (by decide +kernel) rfl rfl ?_
  refine Z_new (ci := 3) (N := 4) (C := RX3) (T := TX3) (n := 80) (idx := 9) (q := 8) (by decide +kernel) rfl inW3 cX0_9 iX3 kX3_init.2.1 zty3_ok hdf3 rfl (by decide) hf (show 81 ≤ 86 by decide) rfl rfl rfl ?_
  have hf58 := hf.up (m := 81) (Nat.le_succ _)
  refine Z_dup (q := 9) (by decide +kernel) rfl rfl ?_
  refine Z_callIN (M2 := mX3_init) (idx := 11) (d2 := d + 1) (o := 80) (n2 := 84) (As := []) (q := 12) (by decide +kernel) kX3_init nX0_11 rfl rfl (by decide +kernel) (Nat.le_of_ble_eq_true rfl) (Nat.le_refl _) (by decide) (show 84 ≤ 86 by decide) rfl rfl rfl (w3 (d := d + 0) (o := 80) (by decide +kernel) hf58) rfl (fun r a b c hq => ?_)
  obtain ⟨e1, e2, e3, e4, hf59⟩ := hq
  subst e1 e2 e3 e4
  refine pf0_0 (idx := 12) (q := 15) (by decide +kernel) fX0_12 rfl (by decide) rfl rfl rfl ?_
  have hf60 := hf59.putR (o := 79) (k := 0) (r := 80) (by decide) (by decide)
  refine Z_aload_n (a := 0) (q := 16) (by decide +kernel) rfl rfl ?_
  refine Z_bipush (a := 10) (v := 10) (q := 18) (by decide +kernel) (by decide +kernel) rfl ?_
  refine Z_newaI (N := 10) (n := 84) (q := 20) (by decide +kernel) (by decide) (by decide) (by decide) rfl (by decide) hf60 (show 85 ≤ 86 by decide) rfl rfl rfl ?_
  have hf61 := hf60.up (m := 85) (Nat.le_succ _)
  refine pf0_1 (idx := 18) (q := 23) (by decide +kernel) fX0_18 rfl (by decide) rfl rfl rfl ?_
  have hf62 := hf61.putR (o := 79) (k := 1) (r := 84) (by decide) (by decide)
  refine Z_aload_n (a := 0) (q := 24) (by decide +kernel) rfl rfl ?_
  refine Z_bipush (a := 10) (v := 10) (q := 26) (by decide +kernel) (by decide +kernel) rfl ?_
  refine Z_newaI (N := 10) (n := 85) (q := 28) (by decide +kernel) (by decide) (by decide) (by decide) rfl (by decide) hf62 (show 86 ≤ 86 by decide) rfl rfl rfl ?_
  have hf63 := hf62.up (m := 86) (Nat.le_succ _)
  refine pf0_2 (idx := 22) (q := 31) (by decide +kernel) fX0_22 rfl (by decide) rfl rfl rfl ?_
  have hf64 := hf63.putR (o := 79) (k := 2) (r := 85) (by decide) (by decide)
  exact Z_vret (by decide +kernel) rfl rfl ⟨rfl, rfl, rfl, rfl, hf64⟩
def n4 (iv : zI) : zI := zu (zu (zu (iv) (130) 3 (0)) (130) 4 (2)) (130) 5 (0)
def r4 (rv : zR) : zR := zu (zu (rmna 142 (zu (rmna 131 (rv)) (130) 0 (some (131)))) (130) 1 (some (142))) (130) 2 (some (153))
theorem w4 {d : Nat} {iv : zI} {rv : zR} {lv : zJ} (hf : zFresh 131 iv rv lv) : Mw mX4_init (d + 1) 154 [.ref 130] 131 iv rv lv (fun r a b c => r = none ∧ a = n4 iv ∧ b = r4 rv ∧ c = lv ∧ zFresh (154) a b c) := by
  refine Mw.of (loc := [some (.ref 130)]) (by decide +kernel) (by simp [Value.category]) (Nat.le_of_ble_eq_true rfl) rfl (by decide) (by decide) ?_
  refine Z_aload_n (a := 0) (q := 1) (by decide +kernel) rfl rfl ?_
  refine Z_objInit (idx := 3) (q := 4) (by decide +kernel) lX4_3 (Nat.le_of_ble_eq_true rfl) (Nat.succ_le_succ (Nat.zero_le _)) rfl ?_
  refine Z_aload_n (a := 0) (q := 5) (by decide +kernel) rfl rfl ?_
  refine Z_bipush (a := 10) (v := 10) (q := 7) (by decide +kernel) (by decide +kernel) rfl ?_
  refine Z_iconst (a := 4) (v := 4) (q := 8) (by decide +kernel) (by decide +kernel) rfl ?_
  refine Z_mna (n := 131) (idx := 9) (q := 12) (by decide +kernel) cX4_9 a_arrayClass_int rfl (by decide +kernel) (by decide +kernel) hf (show 142 ≤ 154 by decide) rfl rfl rfl ?_
  have hf65 := hf.mna
  refine pf4_0 (idx := 11) (q := 15) (by decide +kernel) fX4_11 rfl (by decide) rfl rfl rfl ?_
  have hf66 := hf65.putR (o := 130) (k := 0) (r := 131) (by decide) (by decide)
  refine Z_aload_n (a := 0) (q := 16) (by decide +kernel) rfl rfl ?_
  refine Z_bipush (a := 10) (v := 10) (q := 18) (by decide +kernel) (by decide +kernel) rfl ?_
  refine Z_iconst (a := 4) (v := 4) (q := 19) (by decide +kernel) (by decide +kernel) rfl ?_
  refine Z_mna (n := 142) (idx := 9) (q := 23) (by decide +kernel) cX4_9 a_arrayClass_int rfl (by decide +kernel) (by decide +kernel) hf66 (show 153 ≤ 154 by decide) rfl rfl rfl ?_
  have hf67 := hf66.mna
  refine pf4_1 (idx := 16) (q := 26) (by decide +kernel) fX4_16 rfl (by decide) rfl rfl rfl ?_
  have hf68 := hf67.putR (o := 130) (k := 1) (r := 142) (by decide) (by decide)
  refine Z_aload_n (a := 0) (q := 27) (by decide +kernel) rfl rfl ?_
  refine Z_bipush (a := 10) (v := 10) (q := 29) (by decide +kernel) (by decide +kernel) rfl ?_
  refine Z_newaZ (N := 10) (n := 153) (q := 31) (by decide +kernel) (by decide) (by decide) (by decide) rfl (by decide) hf68 (show 154 ≤ 154 by decide) rfl rfl rfl ?_
  have hf69 := hf68.up (m := 154) (Nat.le_succ _)
  refine pf4_2 (idx := 19) (q := 34) (by decide +kernel) fX4_19 rfl (by decide) rfl rfl rfl ?_
  have hf70 := hf69.putR (o := 130) (k := 2) (r := 153) (by decide) (by decide)
  refine Z_aload_n (a := 0) (q := 35) (by decide +kernel) rfl rfl ?_
  refine Z_iconst (a := 0) (v := 0) (q := 36) (by decide +kernel) (by decide +kernel) rfl ?_
  refine p4_3 (idx := 23) (q := 39) (by decide +kernel) fX4_23 rfl (by decide) rfl ?_
  have hf71 := hf70.putI (o := 130) (k := 3) (x := 0) (by decide)
  refine Z_aload_n (a := 0) (q := 40) (by decide +kernel) rfl rfl ?_
  refine Z_iconst (a := 2) (v := 2) (q := 41) (by decide +kernel) (by decide +kernel) rfl ?_
  refine p4_4 (idx := 27) (q := 44) (by decide +kernel) fX4_27 rfl (by decide) rfl ?_
  have hf72 := hf71.putI (o := 130) (k := 4) (x := 2) (by decide)
  refine Z_aload_n (a := 0) (q := 45) (by decide +kernel) rfl rfl ?_
  refine Z_iconst (a := 0) (v := 0) (q := 46) (by decide +kernel) (by decide +kernel) rfl ?_
  refine p4_5 (idx := 30) (q := 49) (by decide +kernel) fX4_30 rfl (by decide) rfl ?_
  have hf73 := hf72.putI (o := 130) (k := 5) (x := 0) (by decide)
  exact Z_vret (by decide +kernel) rfl rfl ⟨rfl, rfl, rfl, rfl, hf73⟩
def n8 (iv : zI) : zI := zu (zu (iv) (155) 2 (0)) (155) 3 (-1)
def r8 (rv : zR) : zR := zu (zu (rv) (155) 0 (some (156))) (155) 1 (some (157))
theorem w8 {d : Nat} {iv : zI} {rv : zR} {lv : zJ} (hf : zFresh 156 iv rv lv) : Mw mX8_init (d + 1) 158 [.ref 155] 156 iv rv lv (fun r a b c => r = none ∧ a = n8 iv ∧ b = r8 rv ∧ c = lv ∧ zFresh (158) a b c) := by
  refine Mw.of (loc := [some (.ref 155)]) (by decide +kernel) (by simp [Value.category]) (Nat.le_of_ble_eq_true rfl) rfl (by decide) (by decide) ?_
  refine Z_aload_n (a := 0) (q := 1) (by decide +kernel) rfl rfl ?_
  refine Z_objInit (idx := 3) (q := 4) (by decide +kernel) lX8_3 (Nat.le_of_ble_eq_true rfl) (Nat.succ_le_succ (Nat.zero_le _)) rfl ?_
  refine Z_aload_n (a := 0) (q := 5) (by decide +kernel) rfl rfl ?_
  refine Z_sipush (a := 1024) (v := 1024) (q := 8) (by decide +kernel) (by decide +kernel) rfl ?_
  refine Z_newaI (N := 1024) (n := 156) (q := 10) (by decide +kernel) (by decide) (by decide) (by decide) rfl (by decide) hf (show 157 ≤ 158 by decide) rfl rfl rfl ?_
  have hf74 := hf.up (m := 157) (Nat.le_succ _)
  refine p8_0 (idx := 11) (q := 13) (by decide +kernel) fX8_11 rfl (by decide) rfl ?_
  have hf75 := hf74.putR (o := 155) (k := 0) (r := 156) (by decide) (by decide)
  refine Z_aload_n (a := 0) (q := 14) (by decide +kernel) rfl rfl ?_
  refine Z_sipush (a := 1024) (v := 1024) (q := 17) (by decide +kernel) (by decide +kernel) rfl ?_
  refine Z_newaI (N := 1024) (n := 157) (q := 19) (by decide +kernel) (by decide) (by decide) (by decide) rfl (by decide) hf75 (show 158 ≤ 158 by decide) rfl rfl rfl ?_
  have hf76 := hf75.up (m := 158) (Nat.le_succ _)
  refine p8_1 (idx := 15) (q := 22) (by decide +kernel) fX8_15 rfl (by decide) rfl ?_
  have hf77 := hf76.putR (o := 155) (k := 1) (r := 157) (by decide) (by decide)
  refine Z_aload_n (a := 0) (q := 23) (by decide +kernel) rfl rfl ?_
  refine Z_iconst (a := 0) (v := 0) (q := 24) (by decide +kernel) (by decide +kernel) rfl ?_
  refine p8_2 (idx := 18) (q := 27) (by decide +kernel) fX8_18 rfl (by decide) rfl ?_
  have hf78 := hf77.putI (o := 155) (k := 2) (x := 0) (by decide)
  refine Z_aload_n (a := 0) (q := 28) (by decide +kernel) rfl rfl ?_
  refine Z_iconst (a := (-1)) (v := (-1)) (q := 29) (by decide +kernel) (by decide +kernel) rfl ?_
  refine p8_3 (idx := 22) (q := 32) (by decide +kernel) fX8_22 rfl (by decide) rfl ?_
  have hf79 := hf78.putI (o := 155) (k := 3) (x := (-1)) (by decide)
  exact Z_vret (by decide +kernel) rfl rfl ⟨rfl, rfl, rfl, rfl, hf79⟩
def n11 (iv : zI) : zI := zu (iv) (174) 2 (-1)
def r11 (rv : zR) : zR := zu (zu (zu (zu (zu (zu (zu (zu (zu (zu (zu (zu (zu (zu (zu (zu (zu (zu (zu (zu (zu (zu (zu (zu (rv) (174) 3 (some (175))) (174) 14 (some (176))) (174) 15 (some (177))) (174) 16 (some (178))) (174) 17 (some (179))) (174) 18 (some (180))) (174) 22 (some (181))) (174) 23 (some (182))) (174) 24 (some (183))) (174) 25 (some (184))) (174) 26 (some (185))) (174) 27 (some (186))) (174) 28 (some (187))) (174) 29 (some (188))) (174) 30 (some (189))) (174) 31 (some (190))) (174) 32 (some (191))) (174) 39 (some (192))) (174) 40 (some (193))) (174) 41 (some (194))) (174) 42 (some (195))) (174) 48 (some (196))) (174) 49 (some (197))) (174) 50 (some (198))
theorem w11 {d : Nat} {iv : zI} {rv : zR} {lv : zJ} (hf : zFresh 175 iv rv lv) : Mw mX11_init (d + 1) 199 [.ref 174] 175 iv rv lv (fun r a b c => r = none ∧ a = n11 iv ∧ b = r11 rv ∧ c = lv ∧ zFresh (199) a b c) := by
  refine Mw.of (loc := [some (.ref 174)]) (by decide +kernel) (by simp [Value.category]) (Nat.le_of_ble_eq_true rfl) rfl (by decide) (by decide) ?_
  refine Z_aload_n (a := 0) (q := 1) (by decide +kernel) rfl rfl ?_
  refine Z_objInit (idx := 1) (q := 4) (by decide +kernel) lX11_1 (Nat.le_of_ble_eq_true rfl) (Nat.succ_le_succ (Nat.zero_le _)) rfl ?_
  refine Z_aload_n (a := 0) (q := 5) (by decide +kernel) rfl rfl ?_
  refine Z_iconst (a := (-1)) (v := (-1)) (q := 6) (by decide +kernel) (by decide +kernel) rfl ?_
  refine p11_2 (idx := 9) (q := 9) (by decide +kernel) fX11_9 rfl (by decide) rfl ?_
  have hf80 := hf.putI (o := 174) (k := 2) (x := (-1)) (by decide)
  refine Z_aload_n (a := 0) (q := 10) (by decide +kernel) rfl rfl ?_
  refine Z_sipush (a := 300) (v := 300) (q := 13) (by decide +kernel) (by decide +kernel) rfl ?_
  refine Z_newaI (N := 300) (n := 175) (q := 15) (by decide +kernel) (by decide) (by decide) (by decide) rfl (by decide) hf80 (show 176 ≤ 199 by decide) rfl rfl rfl ?_
  have hf81 := hf80.up (m := 176) (Nat.le_succ _)
  refine pf11_3 (idx := 13) (q := 18) (by decide +kernel) fX11_13 rfl (by decide) rfl rfl rfl ?_
  have hf82 := hf81.putR (o := 174) (k := 3) (r := 175) (by decide) (by decide)
  refine Z_aload_n (a := 0) (q := 19) (by decide +kernel) rfl rfl ?_
  refine Z_bipush (a := 35) (v := 35) (q := 21) (by decide +kernel) (by decide +kernel) rfl ?_
  refine Z_newaI (N := 35) (n := 176) (q := 23) (by decide +kernel) (by decide) (by decide) (by decide) rfl (by decide) hf82 (show 177 ≤ 199 by decide) rfl rfl rfl ?_
  have hf83 := hf82.up (m := 177) (Nat.le_succ _)
  refine pf11_14 (idx := 17) (q := 26) (by decide +kernel) fX11_17 rfl (by decide) rfl rfl rfl ?_
  have hf84 := hf83.putR (o := 174) (k := 14) (r := 176) (by decide) (by decide)
  refine Z_aload_n (a := 0) (q := 27) (by decide +kernel) rfl rfl ?_
  refine Z_bipush (a := 35) (v := 35) (q := 29) (by decide +kernel) (by decide +kernel) rfl ?_
  refine Z_newaI (N := 35) (n := 177) (q := 31) (by decide +kernel) (by decide) (by decide) (by decide) rfl (by decide) hf84 (show 178 ≤ 199 by decide) rfl rfl rfl ?_
  have hf85 := hf84.up (m := 178) (Nat.le_succ _)
  refine pf11_15 (idx := 20) (q := 34) (by decide +kernel) fX11_20 rfl (by decide) rfl rfl rfl ?_
  have hf86 := hf85.putR (o := 174) (k := 15) (r := 177) (by decide) (by decide)
  refine Z_aload_n (a := 0) (q := 35) (by decide +kernel) rfl rfl ?_
  refine Z_sipush (a := 350) (v := 350) (q := 38) (by decide +kernel) (by decide +kernel) rfl ?_
  refine Z_newaI (N := 350) (n := 178) (q := 40) (by decide +kernel) (by decide) (by decide) (by decide) rfl (by decide) hf86 (show 179 ≤ 199 by decide) rfl rfl rfl ?_
  have hf87 := hf86.up (m := 179) (Nat.le_succ _)
  refine pf11_16 (idx := 23) (q := 43) (by decide +kernel) fX11_23 rfl (by decide) rfl rfl rfl ?_
  have hf88 := hf87.putR (o := 174) (k := 16) (r := 178) (by decide) (by decide)
  refine Z_aload_n (a := 0) (q := 44) (by decide +kernel) rfl rfl ?_
  refine Z_bipush (a := 70) (v := 70) (q := 46) (by decide +kernel) (by decide +kernel) rfl ?_
  refine Z_newaI (N := 70) (n := 179) (q := 48) (by decide +kernel) (by decide) (by decide) (by decide) rfl (by decide) hf88 (show 180 ≤ 199 by decide) rfl rfl rfl ?_
  have hf89 := hf88.up (m := 180) (Nat.le_succ _)
  refine pf11_17 (idx := 26) (q := 51) (by decide +kernel) fX11_26 rfl (by decide) rfl rfl rfl ?_
  have hf90 := hf89.putR (o := 174) (k := 17) (r := 179) (by decide) (by decide)
  refine Z_aload_n (a := 0) (q := 52) (by decide +kernel) rfl rfl ?_
  refine Z_iconst (a := 2) (v := 2) (q := 53) (by decide +kernel) (by decide +kernel) rfl ?_
  refine Z_newaZ (N := 2) (n := 180) (q := 55) (by decide +kernel) (by decide) (by decide) (by decide) rfl (by decide) hf90 (show 181 ≤ 199 by decide) rfl rfl rfl ?_
  have hf91 := hf90.up (m := 181) (Nat.le_succ _)
  refine pf11_18 (idx := 29) (q := 58) (by decide +kernel) fX11_29 rfl (by decide) rfl rfl rfl ?_
  have hf92 := hf91.putR (o := 174) (k := 18) (r := 180) (by decide) (by decide)
  refine Z_aload_n (a := 0) (q := 59) (by decide +kernel) rfl rfl ?_
  refine Z_bipush (a := 10) (v := 10) (q := 61) (by decide +kernel) (by decide +kernel) rfl ?_
  refine Z_newaI (N := 10) (n := 181) (q := 63) (by decide +kernel) (by decide) (by decide) (by decide) rfl (by decide) hf92 (show 182 ≤ 199 by decide) rfl rfl rfl ?_
  have hf93 := hf92.up (m := 182) (Nat.le_succ _)
  refine pf11_22 (idx := 33) (q := 66) (by decide +kernel) fX11_33 rfl (by decide) rfl rfl rfl ?_
  have hf94 := hf93.putR (o := 174) (k := 22) (r := 181) (by decide) (by decide)
  refine Z_aload_n (a := 0) (q := 67) (by decide +kernel) rfl rfl ?_
  refine Z_iconst (a := 4) (v := 4) (q := 68) (by decide +kernel) (by decide +kernel) rfl ?_
  refine Z_newaI (N := 4) (n := 182) (q := 70) (by decide +kernel) (by decide) (by decide) (by decide) rfl (by decide) hf94 (show 183 ≤ 199 by decide) rfl rfl rfl ?_
  have hf95 := hf94.up (m := 183) (Nat.le_succ _)
  refine pf11_23 (idx := 36) (q := 73) (by decide +kernel) fX11_36 rfl (by decide) rfl rfl rfl ?_
  have hf96 := hf95.putR (o := 174) (k := 23) (r := 182) (by decide) (by decide)
  refine Z_aload_n (a := 0) (q := 74) (by decide +kernel) rfl rfl ?_
  refine Z_bipush (a := 10) (v := 10) (q := 76) (by decide +kernel) (by decide +kernel) rfl ?_
  refine Z_newaI (N := 10) (n := 183) (q := 78) (by decide +kernel) (by decide) (by decide) (by decide) rfl (by decide) hf96 (show 184 ≤ 199 by decide) rfl rfl rfl ?_
  have hf97 := hf96.up (m := 184) (Nat.le_succ _)
  refine pf11_24 (idx := 39) (q := 81) (by decide +kernel) fX11_39 rfl (by decide) rfl rfl rfl ?_
  have hf98 := hf97.putR (o := 174) (k := 24) (r := 183) (by decide) (by decide)
  refine Z_aload_n (a := 0) (q := 82) (by decide +kernel) rfl rfl ?_
  refine Z_bipush (a := 12) (v := 12) (q := 84) (by decide +kernel) (by decide +kernel) rfl ?_
  refine Z_newaI (N := 12) (n := 184) (q := 86) (by decide +kernel) (by decide) (by decide) (by decide) rfl (by decide) hf98 (show 185 ≤ 199 by decide) rfl rfl rfl ?_
  have hf99 := hf98.up (m := 185) (Nat.le_succ _)
  refine pf11_25 (idx := 42) (q := 89) (by decide +kernel) fX11_42 rfl (by decide) rfl rfl rfl ?_
  have hf100 := hf99.putR (o := 174) (k := 25) (r := 184) (by decide) (by decide)
  refine Z_aload_n (a := 0) (q := 90) (by decide +kernel) rfl rfl ?_
  refine Z_bipush (a := 120) (v := 120) (q := 92) (by decide +kernel) (by decide +kernel) rfl ?_
  refine Z_newaI (N := 120) (n := 185) (q := 94) (by decide +kernel) (by decide) (by decide) (by decide) rfl (by decide) hf100 (show 186 ≤ 199 by decide) rfl rfl rfl ?_
  have hf101 := hf100.up (m := 186) (Nat.le_succ _)
  refine pf11_26 (idx := 45) (q := 97) (by decide +kernel) fX11_45 rfl (by decide) rfl rfl rfl ?_
  have hf102 := hf101.putR (o := 174) (k := 26) (r := 185) (by decide) (by decide)
  refine Z_aload_n (a := 0) (q := 98) (by decide +kernel) rfl rfl ?_
  refine Z_bipush (a := 120) (v := 120) (q := 100) (by decide +kernel) (by decide +kernel) rfl ?_
  refine Z_newaI (N := 120) (n := 186) (q := 102) (by decide +kernel) (by decide) (by decide) (by decide) rfl (by decide) hf102 (show 187 ≤ 199 by decide) rfl rfl rfl ?_
  have hf103 := hf102.up (m := 187) (Nat.le_succ _)
  refine pf11_27 (idx := 48) (q := 105) (by decide +kernel) fX11_48 rfl (by decide) rfl rfl rfl ?_
  have hf104 := hf103.putR (o := 174) (k := 27) (r := 186) (by decide) (by decide)
  refine Z_aload_n (a := 0) (q := 106) (by decide +kernel) rfl rfl ?_
  refine Z_bipush (a := 120) (v := 120) (q := 108) (by decide +kernel) (by decide +kernel) rfl ?_
  refine Z_newaI (N := 120) (n := 187) (q := 110) (by decide +kernel) (by decide) (by decide) (by decide) rfl (by decide) hf104 (show 188 ≤ 199 by decide) rfl rfl rfl ?_
  have hf105 := hf104.up (m := 188) (Nat.le_succ _)
  refine pf11_28 (idx := 51) (q := 113) (by decide +kernel) fX11_51 rfl (by decide) rfl rfl rfl ?_
  have hf106 := hf105.putR (o := 174) (k := 28) (r := 187) (by decide) (by decide)
  refine Z_aload_n (a := 0) (q := 114) (by decide +kernel) rfl rfl ?_
  refine Z_bipush (a := 10) (v := 10) (q := 116) (by decide +kernel) (by decide +kernel) rfl ?_
  refine Z_newaI (N := 10) (n := 188) (q := 118) (by decide +kernel) (by decide) (by decide) (by decide) rfl (by decide) hf106 (show 189 ≤ 199 by decide) rfl rfl rfl ?_
  have hf107 := hf106.up (m := 189) (Nat.le_succ _)
  refine pf11_29 (idx := 54) (q := 121) (by decide +kernel) fX11_54 rfl (by decide) rfl rfl rfl ?_
  have hf108 := hf107.putR (o := 174) (k := 29) (r := 188) (by decide) (by decide)
  refine Z_aload_n (a := 0) (q := 122) (by decide +kernel) rfl rfl ?_
  refine Z_bipush (a := 10) (v := 10) (q := 124) (by decide +kernel) (by decide +kernel) rfl ?_
  refine Z_newaI (N := 10) (n := 189) (q := 126) (by decide +kernel) (by decide) (by decide) (by decide) rfl (by decide) hf108 (show 190 ≤ 199 by decide) rfl rfl rfl ?_
  have hf109 := hf108.up (m := 190) (Nat.le_succ _)
  refine pf11_30 (idx := 57) (q := 129) (by decide +kernel) fX11_57 rfl (by decide) rfl rfl rfl ?_
  have hf110 := hf109.putR (o := 174) (k := 30) (r := 189) (by decide) (by decide)
  refine Z_aload_n (a := 0) (q := 130) (by decide +kernel) rfl rfl ?_
  refine Z_sipush (a := 600) (v := 600) (q := 133) (by decide +kernel) (by decide +kernel) rfl ?_
  refine Z_newaI (N := 600) (n := 190) (q := 135) (by decide +kernel) (by decide) (by decide) (by decide) rfl (by decide) hf110 (show 191 ≤ 199 by decide) rfl rfl rfl ?_
  have hf111 := hf110.up (m := 191) (Nat.le_succ _)
  refine pf11_31 (idx := 60) (q := 138) (by decide +kernel) fX11_60 rfl (by decide) rfl rfl rfl ?_
  have hf112 := hf111.putR (o := 174) (k := 31) (r := 190) (by decide) (by decide)
  refine Z_aload_n (a := 0) (q := 139) (by decide +kernel) rfl rfl ?_
  refine Z_sipush (a := 600) (v := 600) (q := 142) (by decide +kernel) (by decide +kernel) rfl ?_
  refine Z_newaI (N := 600) (n := 191) (q := 144) (by decide +kernel) (by decide) (by decide) (by decide) rfl (by decide) hf112 (show 192 ≤ 199 by decide) rfl rfl rfl ?_
  have hf113 := hf112.up (m := 192) (Nat.le_succ _)
  refine pf11_32 (idx := 63) (q := 147) (by decide +kernel) fX11_63 rfl (by decide) rfl rfl rfl ?_
  have hf114 := hf113.putR (o := 174) (k := 32) (r := 191) (by decide) (by decide)
  refine Z_aload_n (a := 0) (q := 148) (by decide +kernel) rfl rfl ?_
  refine Z_bipush (a := 40) (v := 40) (q := 150) (by decide +kernel) (by decide +kernel) rfl ?_
  refine Z_newaI (N := 40) (n := 192) (q := 152) (by decide +kernel) (by decide) (by decide) (by decide) rfl (by decide) hf114 (show 193 ≤ 199 by decide) rfl rfl rfl ?_
  have hf115 := hf114.up (m := 193) (Nat.le_succ _)
  refine pf11_39 (idx := 66) (q := 155) (by decide +kernel) fX11_66 rfl (by decide) rfl rfl rfl ?_
  have hf116 := hf115.putR (o := 174) (k := 39) (r := 192) (by decide) (by decide)
  refine Z_aload_n (a := 0) (q := 156) (by decide +kernel) rfl rfl ?_
  refine Z_bipush (a := 40) (v := 40) (q := 158) (by decide +kernel) (by decide +kernel) rfl ?_
  refine Z_newaI (N := 40) (n := 193) (q := 160) (by decide +kernel) (by decide) (by decide) (by decide) rfl (by decide) hf116 (show 194 ≤ 199 by decide) rfl rfl rfl ?_
  have hf117 := hf116.up (m := 194) (Nat.le_succ _)
  refine pf11_40 (idx := 69) (q := 163) (by decide +kernel) fX11_69 rfl (by decide) rfl rfl rfl ?_
  have hf118 := hf117.putR (o := 174) (k := 40) (r := 193) (by decide) (by decide)
  refine Z_aload_n (a := 0) (q := 164) (by decide +kernel) rfl rfl ?_
  refine Z_iconst (a := 4) (v := 4) (q := 165) (by decide +kernel) (by decide +kernel) rfl ?_
  refine Z_newaI (N := 4) (n := 194) (q := 167) (by decide +kernel) (by decide) (by decide) (by decide) rfl (by decide) hf118 (show 195 ≤ 199 by decide) rfl rfl rfl ?_
  have hf119 := hf118.up (m := 195) (Nat.le_succ _)
  refine pf11_41 (idx := 72) (q := 170) (by decide +kernel) fX11_72 rfl (by decide) rfl rfl rfl ?_
  have hf120 := hf119.putR (o := 174) (k := 41) (r := 194) (by decide) (by decide)
  refine Z_aload_n (a := 0) (q := 171) (by decide +kernel) rfl rfl ?_
  refine Z_iconst (a := 4) (v := 4) (q := 172) (by decide +kernel) (by decide +kernel) rfl ?_
  refine Z_newaI (N := 4) (n := 195) (q := 174) (by decide +kernel) (by decide) (by decide) (by decide) rfl (by decide) hf120 (show 196 ≤ 199 by decide) rfl rfl rfl ?_
  have hf121 := hf120.up (m := 196) (Nat.le_succ _)
  refine pf11_42 (idx := 75) (q := 177) (by decide +kernel) fX11_75 rfl (by decide) rfl rfl rfl ?_
  have hf122 := hf121.putR (o := 174) (k := 42) (r := 195) (by decide) (by decide)
  refine Z_aload_n (a := 0) (q := 178) (by decide +kernel) rfl rfl ?_
  refine Z_sipush (a := 1024) (v := 1024) (q := 181) (by decide +kernel) (by decide +kernel) rfl ?_
  refine Z_newaI (N := 1024) (n := 196) (q := 183) (by decide +kernel) (by decide) (by decide) (by decide) rfl (by decide) hf122 (show 197 ≤ 199 by decide) rfl rfl rfl ?_
  have hf123 := hf122.up (m := 197) (Nat.le_succ _)
  refine pf11_48 (idx := 78) (q := 186) (by decide +kernel) fX11_78 rfl (by decide) rfl rfl rfl ?_
  have hf124 := hf123.putR (o := 174) (k := 48) (r := 196) (by decide) (by decide)
  refine Z_aload_n (a := 0) (q := 187) (by decide +kernel) rfl rfl ?_
  refine Z_bipush (a := 35) (v := 35) (q := 189) (by decide +kernel) (by decide +kernel) rfl ?_
  refine Z_newaI (N := 35) (n := 197) (q := 191) (by decide +kernel) (by decide) (by decide) (by decide) rfl (by decide) hf124 (show 198 ≤ 199 by decide) rfl rfl rfl ?_
  have hf125 := hf124.up (m := 198) (Nat.le_succ _)
  refine pf11_49 (idx := 81) (q := 194) (by decide +kernel) fX11_81 rfl (by decide) rfl rfl rfl ?_
  have hf126 := hf125.putR (o := 174) (k := 49) (r := 197) (by decide) (by decide)
  refine Z_aload_n (a := 0) (q := 195) (by decide +kernel) rfl rfl ?_
  refine Z_bipush (a := 80) (v := 80) (q := 197) (by decide +kernel) (by decide +kernel) rfl ?_
  refine Z_newaI (N := 80) (n := 198) (q := 199) (by decide +kernel) (by decide) (by decide) (by decide) rfl (by decide) hf126 (show 199 ≤ 199 by decide) rfl rfl rfl ?_
  have hf127 := hf126.up (m := 199) (Nat.le_succ _)
  refine pf11_50 (idx := 84) (q := 202) (by decide +kernel) fX11_84 rfl (by decide) rfl rfl rfl ?_
  have hf128 := hf127.putR (o := 174) (k := 50) (r := 198) (by decide) (by decide)
  exact Z_vret (by decide +kernel) rfl rfl ⟨rfl, rfl, rfl, rfl, hf128⟩
def hnA (iv : zI) : Nat → zI
  | 0 => iv
  | j + 1 => n9 (16 + 5 * j) (hnA iv j)
def hrA (rv : zR) : Nat → zR
  | 0 => rv
  | j + 1 => zu (r9 (16 + 5 * j) (hrA rv j)) 14 j (some (16 + 5 * j))
theorem hrA_o (rv : zR) {a : Nat} (ha : a < 16) (ha2 : a ≠ 14) : ∀ j, hrA rv j a = rv a
  | 0 => rfl
  | j + 1 => by
    show zu (r9 (16 + 5 * j) (hrA rv j)) 14 j (some (16 + 5 * j)) a = rv a
    rw [zu_row ha2]
    unfold r9
    simp only [zu_row (show a ≠ 16 + 5 * j by omega)]
    exact hrA_o rv ha ha2 j
def hnB (iv : zI) : Nat → zI
  | 0 => iv
  | j + 1 => n9 (66 + 5 * j) (hnB iv j)
def hrB (rv : zR) : Nat → zR
  | 0 => rv
  | j + 1 => zu (r9 (66 + 5 * j) (hrB rv j)) 15 j (some (66 + 5 * j))
theorem hrB_o (rv : zR) {a : Nat} (ha : a < 66) (ha2 : a ≠ 15) : ∀ j, hrB rv j a = rv a
  | 0 => rfl
  | j + 1 => by
    show zu (r9 (66 + 5 * j) (hrB rv j)) 15 j (some (66 + 5 * j)) a = rv a
    rw [zu_row ha2]
    unfold r9
    simp only [zu_row (show a ≠ 66 + 5 * j by omega)]
    exact hrB_o rv ha ha2 j
def hnC (iv : zI) : Nat → zI
  | 0 => iv
  | j + 1 => n3 (90 + 4 * j) (hnC iv j)
def hrC (rv : zR) : Nat → zR
  | 0 => rv
  | j + 1 => zu (r3 (90 + 4 * j) (hrC rv j)) 89 j (some (90 + 4 * j))
theorem hrC_o (rv : zR) {a : Nat} (ha : a < 90) (ha2 : a ≠ 89) : ∀ j, hrC rv j a = rv a
  | 0 => rfl
  | j + 1 => by
    show zu (r3 (90 + 4 * j) (hrC rv j)) 89 j (some (90 + 4 * j)) a = rv a
    rw [zu_row ha2]
    unfold r3
    simp only [zu_row (show a ≠ 90 + 4 * j by omega)]
    exact hrC_o rv ha ha2 j
def hnD (iv : zI) : Nat → zI
  | 0 => iv
  | j + 1 => n5 (159 + 5 * j) (nI (j + 2)) (hnD iv j)
def hrD (rv : zR) : Nat → zR
  | 0 => rv
  | j + 1 => zu (r5 (159 + 5 * j) (hrD rv j)) 154 j (some (159 + 5 * j))
theorem hrD_o (rv : zR) {a : Nat} (ha : a < 159) (ha2 : a ≠ 154) : ∀ j, hrD rv j a = rv a
  | 0 => rfl
  | j + 1 => by
    show zu (r5 (159 + 5 * j) (hrD rv j)) 154 j (some (159 + 5 * j)) a = rv a
    rw [zu_row ha2]
    unfold r5
    simp only [zu_row (show a ≠ 159 + 5 * j by omega)]
    exact hrD_o rv ha ha2 j
theorem mS1 : ∀ j, j < 10 → 16 + 5 * j ∈ zSts := by decide +kernel
theorem mS2 : ∀ j, j < 2 → 66 + 5 * j ∈ zSts := by decide +kernel
theorem mI1 : ∀ j, j < 10 → 90 + 4 * j ∈ zIts := by decide +kernel
theorem mP1 : ∀ j, j < 3 → 159 + 5 * j ∈ zPts := by decide +kernel
def n2a (iv : zI) : zI := zu (zu (iv) (13) 1 (0)) (13) 2 (0)
def r2a (rv : zR) : zR := zu (zu (rv) (13) 0 (some (14))) (13) 3 (some (15))
def n2 (iv : zI) : zI := hnB (hnA (n2a iv) 10) 2
def r2 (rv : zR) : zR := hrB (hrA (r2a rv) 10) 2
theorem w2 {d : Nat} {iv : zI} {rv : zR} {lv : zJ} (hf : zFresh 14 iv rv lv) : Mw mX2_init (d + 2) 76 [.ref 13] 14 iv rv lv (fun r a b c => r = none ∧ a = n2 iv ∧ b = r2 rv ∧ c = lv ∧ zFresh (76) a b c) := by
  refine Mw.of (loc := [some (.ref 13), none]) (by decide +kernel) (by simp [Value.category]) (Nat.le_of_ble_eq_true rfl) rfl (by decide) (by decide) ?_
  generalize hQ : (fun (r : Option Value) (a : zI) (b : zR) (c : zJ) => r = none ∧ a = n2 iv ∧ b = r2 rv ∧ c = lv ∧ zFresh 76 a b c) = QQ
  have lpB : ∀ j, j ≤ 2 → (zFresh (66 + 5 * j) (hnB (hnA (n2a iv) 10) j) (hrB (hrA (r2a rv) 10) j) lv → Z mX2_init (d + 2, 14, 76, 0, zK0) 60 [some (.ref 13), some (.int (nI j))] [] (66 + 5 * j) (hnB (hnA (n2a iv) 10) j) (hrB (hrA (r2a rv) 10) j) lv QQ) := by
    refine zfor (fun hf => ?_) (fun j hj ih hf => ?_)
    · refine Z_iload_n (a := 1) (q := 61) (by decide +kernel) rfl rfl ?_
      refine Z_iconst (a := 2) (v := 2) (q := 62) (by decide +kernel) (by decide +kernel) rfl ?_
      refine Z_icmp_ge (t := 84) (off := 22) (q := 65) (by decide +kernel) (by decide) rfl (fun _ => ?_) (fun z => absurd (by decide +kernel) z)
      subst hQ
      exact Z_vret (by decide +kernel) rfl rfl ⟨rfl, rfl, rfl, rfl, hf⟩
    · have hm := mS2 j hj
      have hm2 := (sSts _ hm).2.2.2.2.2
      refine Z_iload_n (a := 1) (q := 61) (by decide +kernel) rfl rfl ?_
      refine Z_iconst (a := 2) (v := 2) (q := 62) (by decide +kernel) (by decide +kernel) rfl ?_
      refine Z_icmp_ge (t := 84) (off := 22) (q := 65) (by decide +kernel) (by decide) rfl (fun z => absurd z (nI_ge (a := j) (b := 2) hj (by decide))) (fun _ => ?_)
      refine Z_aload_n (a := 0) (q := 66) (by decide +kernel) rfl rfl ?_
      refine g2_3 (idx := 24) (r := 15) (q := 69) (by decide +kernel) fX2_24 rfl (by omega) ((congrFun (hrB_o _ (by decide) (by decide) j) _).trans ((congrFun (hrA_o _ (by decide) (by decide) 10) _).trans rfl)) rfl ?_
      refine Z_iload_n (a := 1) (q := 70) (by decide +kernel) rfl rfl ?_
      refine Z_new (ci := 9) (N := 6) (C := RX9) (T := TX9) (n := 66 + 5 * j) (idx := 9) (q := 73) (by decide +kernel) rfl inW9 cX2_9 iX9 kX9_init.2.1 zty9_ok hdf9 (sSts _ hm).1 (by omega) hf (show 66 + 5 * j + 1 ≤ 76 by omega) (by simp [zok] <;> first | omega | exact (show @LT.lt Nat instLTNat _ _ by omega) | exact Or.inl (show @LT.lt Nat instLTNat _ _ by omega) | exact ⟨Or.inl (show @LT.lt Nat instLTNat _ _ by omega), Or.inl (show @LT.lt Nat instLTNat _ _ by omega)⟩) (by simp [zok] <;> first | omega | exact (show @LT.lt Nat instLTNat _ _ by omega) | exact Or.inl (show @LT.lt Nat instLTNat _ _ by omega) | exact ⟨Or.inl (show @LT.lt Nat instLTNat _ _ by omega), Or.inl (show @LT.lt Nat instLTNat _ _ by omega)⟩) rfl ?_
      have hf1 := hf.up (m := 66 + 5 * j + 1) (Nat.le_succ _)
      refine Z_dup (q := 74) (by decide +kernel) rfl rfl ?_
      refine Z_callIN (M2 := mX9_init) (idx := 27) (d2 := d + 1) (o := 66 + 5 * j) (n2 := 66 + 5 * j + 5) (As := []) (q := 77) (by decide +kernel) kX9_init nX2_27 rfl rfl (by decide +kernel) (Nat.le_of_ble_eq_true rfl) (Nat.le_refl _) (by omega) (show 66 + 5 * j + 5 ≤ 76 by omega) (by simp [zok] <;> first | omega | exact (show @LT.lt Nat instLTNat _ _ by omega) | exact Or.inl (show @LT.lt Nat instLTNat _ _ by omega) | exact ⟨Or.inl (show @LT.lt Nat instLTNat _ _ by omega), Or.inl (show @LT.lt Nat instLTNat _ _ by omega)⟩) (by simp [zok] <;> first | omega | exact (show @LT.lt Nat instLTNat _ _ by omega) | exact Or.inl (show @LT.lt Nat instLTNat _ _ by omega) | exact ⟨Or.inl (show @LT.lt Nat instLTNat _ _ by omega), Or.inl (show @LT.lt Nat instLTNat _ _ by omega)⟩) rfl (w9 (d := d + 0) hm hf1) rfl (fun r a b c hq => ?_)
      obtain ⟨e1, e2, e3, e4, hf2⟩ := hq
      subst e1 e2 e3 e4
      refine Z_aastS (q := 78) (by decide +kernel) rfl (by omega) rfl (sSts _ hm).1 (by omega) (vp_in_nI (by omega) (by omega)) rfl ?_
      rw [nI_clamp (by omega)]
      have hf3 := hf2.putR (o := 15) (k := j) (r := 66 + 5 * j) (by omega) (by omega)
      refine Z_iinc (a := 1) (b := 1) (v := nI (j + 1)) (loc2 := [some (.ref 13), some (.int (nI (j + 1)))]) (q := 81) (by decide +kernel) rfl (by rw [show Int32.ofInt 1 = 1 from rfl, ← nI_succ]) (by decide +kernel) rfl rfl rfl ?_
      refine Z_goto (q := 60) (off := -21) (by decide +kernel) (by decide) ?_
      exact ih hf3
  have lpA : ∀ j, j ≤ 10 → (zFresh (16 + 5 * j) (hnA (n2a iv) j) (hrA (r2a rv) j) lv → Z mX2_init (d + 2, 14, 76, 0, zK0) 33 [some (.ref 13), some (.int (nI j))] [] (16 + 5 * j) (hnA (n2a iv) j) (hrA (r2a rv) j) lv QQ) := by
    refine zfor (fun hf => ?_) (fun j hj ih hf => ?_)
    · refine Z_iload_n (a := 1) (q := 34) (by decide +kernel) rfl rfl ?_
      refine Z_bipush (a := 10) (v := 10) (q := 36) (by decide +kernel) (by decide +kernel) rfl ?_
      refine Z_icmp_ge (t := 58) (off := 22) (q := 39) (by decide +kernel) (by decide) rfl (fun _ => ?_) (fun z => absurd (by decide +kernel) z)
      refine Z_iconst (a := 0) (v := 0) (q := 59) (by decide +kernel) (by decide +kernel) rfl ?_
      refine Z_istore_n (a := 1) (loc2 := [some (.ref 13), some (.int (nI 0))]) (q := 60) (by decide +kernel) (by decide +kernel) rfl rfl rfl ?_
      exact lpB 0 (Nat.zero_le _) hf
    · have hm := mS1 j hj
      have hm2 := (sSts _ hm).2.2.2.2.2
      refine Z_iload_n (a := 1) (q := 34) (by decide +kernel) rfl rfl ?_
      refine Z_bipush (a := 10) (v := 10) (q := 36) (by decide +kernel) (by decide +kernel) rfl ?_
      refine Z_icmp_ge (t := 58) (off := 22) (q := 39) (by decide +kernel) (by decide) rfl (fun z => absurd z (nI_ge (a := j) (b := 10) hj (by decide))) (fun _ => ?_)
      refine Z_aload_n (a := 0) (q := 40) (by decide +kernel) rfl rfl ?_
      refine g2_0 (idx := 11) (r := 14) (q := 43) (by decide +kernel) fX2_11 rfl (by omega) ((congrFun (hrA_o _ (by decide) (by decide) j) _).trans rfl) rfl ?_
      refine Z_iload_n (a := 1) (q := 44) (by decide +kernel) rfl rfl ?_
      refine Z_new (ci := 9) (N := 6) (C := RX9) (T := TX9) (n := 16 + 5 * j) (idx := 9) (q := 47) (by decide +kernel) rfl inW9 cX2_9 iX9 kX9_init.2.1 zty9_ok hdf9 (sSts _ hm).1 (by omega) hf (show 16 + 5 * j + 1 ≤ 76 by omega) (by simp [zok] <;> first | omega | exact (show @LT.lt Nat instLTNat _ _ by omega) | exact Or.inl (show @LT.lt Nat instLTNat _ _ by omega) | exact ⟨Or.inl (show @LT.lt Nat instLTNat _ _ by omega), Or.inl (show @LT.lt Nat instLTNat _ _ by omega)⟩) (by simp [zok] <;> first | omega | exact (show @LT.lt Nat instLTNat _ _ by omega) | exact Or.inl (show @LT.lt Nat instLTNat _ _ by omega) | exact ⟨Or.inl (show @LT.lt Nat instLTNat _ _ by omega), Or.inl (show @LT.lt Nat instLTNat _ _ by omega)⟩) rfl ?_
      have hf1 := hf.up (m := 16 + 5 * j + 1) (Nat.le_succ _)
      refine Z_dup (q := 48) (by decide +kernel) rfl rfl ?_
      refine Z_callIN (M2 := mX9_init) (idx := 27) (d2 := d + 1) (o := 16 + 5 * j) (n2 := 16 + 5 * j + 5) (As := []) (q := 51) (by decide +kernel) kX9_init nX2_27 rfl rfl (by decide +kernel) (Nat.le_of_ble_eq_true rfl) (Nat.le_refl _) (by omega) (show 16 + 5 * j + 5 ≤ 76 by omega) (by simp [zok] <;> first | omega | exact (show @LT.lt Nat instLTNat _ _ by omega) | exact Or.inl (show @LT.lt Nat instLTNat _ _ by omega) | exact ⟨Or.inl (show @LT.lt Nat instLTNat _ _ by omega), Or.inl (show @LT.lt Nat instLTNat _ _ by omega)⟩) (by simp [zok] <;> first | omega | exact (show @LT.lt Nat instLTNat _ _ by omega) | exact Or.inl (show @LT.lt Nat instLTNat _ _ by omega) | exact ⟨Or.inl (show @LT.lt Nat instLTNat _ _ by omega), Or.inl (show @LT.lt Nat instLTNat _ _ by omega)⟩) rfl (w9 (d := d + 0) hm hf1) rfl (fun r a b c hq => ?_)
      obtain ⟨e1, e2, e3, e4, hf2⟩ := hq
      subst e1 e2 e3 e4
      refine Z_aastS (q := 52) (by decide +kernel) rfl (by omega) rfl (sSts _ hm).1 (by omega) (vp_in_nI (by omega) (by omega)) rfl ?_
      rw [nI_clamp (by omega)]
      have hf3 := hf2.putR (o := 14) (k := j) (r := 16 + 5 * j) (by omega) (by omega)
      refine Z_iinc (a := 1) (b := 1) (v := nI (j + 1)) (loc2 := [some (.ref 13), some (.int (nI (j + 1)))]) (q := 55) (by decide +kernel) rfl (by rw [show Int32.ofInt 1 = 1 from rfl, ← nI_succ]) (by decide +kernel) rfl rfl rfl ?_
      refine Z_goto (q := 33) (off := -22) (by decide +kernel) (by decide) ?_
      exact ih hf3
  refine Z_aload_n (a := 0) (q := 1) (by decide +kernel) rfl rfl ?_
  refine Z_objInit (idx := 3) (q := 4) (by decide +kernel) lX2_3 (Nat.le_of_ble_eq_true rfl) (Nat.succ_le_succ (Nat.zero_le _)) rfl ?_
  refine Z_aload_n (a := 0) (q := 5) (by decide +kernel) rfl rfl ?_
  refine Z_bipush (a := 10) (v := 10) (q := 7) (by decide +kernel) (by decide +kernel) rfl ?_
  refine Z_newqS (N := 10) (n := 14) (idx := 9) (q := 10) (by decide +kernel) cX2_9 (by decide) (by decide) (by decide) rfl (by decide) hf (show 15 ≤ 76 by decide) rfl rfl rfl ?_
  have hf129 := hf.up (m := 15) (Nat.le_succ _)
  refine pf2_0 (idx := 11) (q := 13) (by decide +kernel) fX2_11 rfl (by decide) rfl rfl rfl ?_
  have hf130 := hf129.putR (o := 13) (k := 0) (r := 14) (by decide) (by decide)
  refine Z_aload_n (a := 0) (q := 14) (by decide +kernel) rfl rfl ?_
  refine Z_iconst (a := 0) (v := 0) (q := 15) (by decide +kernel) (by decide +kernel) rfl ?_
  refine p2_1 (idx := 17) (q := 18) (by decide +kernel) fX2_17 rfl (by decide) rfl ?_
  have hf131 := hf130.putI (o := 13) (k := 1) (x := 0) (by decide)
  refine Z_aload_n (a := 0) (q := 19) (by decide +kernel) rfl rfl ?_
  refine Z_iconst (a := 0) (v := 0) (q := 20) (by decide +kernel) (by decide +kernel) rfl ?_
  refine p2_2 (idx := 21) (q := 23) (by decide +kernel) fX2_21 rfl (by decide) rfl ?_
  have hf132 := hf131.putI (o := 13) (k := 2) (x := 0) (by decide)
  refine Z_aload_n (a := 0) (q := 24) (by decide +kernel) rfl rfl ?_
  refine Z_iconst (a := 2) (v := 2) (q := 25) (by decide +kernel) (by decide +kernel) rfl ?_
  refine Z_newqS (N := 2) (n := 15) (idx := 9) (q := 28) (by decide +kernel) cX2_9 (by decide) (by decide) (by decide) rfl (by decide) hf132 (show 16 ≤ 76 by decide) rfl rfl rfl ?_
  have hf133 := hf132.up (m := 16) (Nat.le_succ _)
  refine pf2_3 (idx := 24) (q := 31) (by decide +kernel) fX2_24 rfl (by decide) rfl rfl rfl ?_
  have hf134 := hf133.putR (o := 13) (k := 3) (r := 15) (by decide) (by decide)
  refine Z_iconst (a := 0) (v := 0) (q := 32) (by decide +kernel) (by decide +kernel) rfl ?_
  refine Z_istore_n (a := 1) (loc2 := [some (.ref 13), some (.int (nI 0))]) (q := 33) (by decide +kernel) (by decide +kernel) rfl rfl rfl ?_
  exact lpA 0 (Nat.zero_le _) hf134
def n7a (iv : zI) : zI := zu (zu (zu (zu (zu (zu (zu (zu (iv) (86) 0 (0)) (86) 1 (0)) (86) 2 (0)) (86) 3 (0)) (86) 4 (0)) (86) 5 (0)) (86) 9 (0)) (86) 10 (-1)
def r7a (rv : zR) : zR := zu (zu (zu (rv) (86) 6 (some (87))) (86) 7 (some (88))) (86) 8 (some (89))
def n7 (iv : zI) : zI := hnC (n7a iv) 10
def r7 (rv : zR) : zR := hrC (r7a rv) 10
theorem w7 {d : Nat} {iv : zI} {rv : zR} {lv : zJ} (hf : zFresh 87 iv rv lv) : Mw mX7_init (d + 2) 130 [.ref 86] 87 iv rv lv (fun r a b c => r = none ∧ a = n7 iv ∧ b = r7 rv ∧ c = lv ∧ zFresh (130) a b c) := by
  refine Mw.of (loc := [some (.ref 86), none]) (by decide +kernel) (by simp [Value.category]) (Nat.le_of_ble_eq_true rfl) rfl (by decide) (by decide) ?_
  generalize hQ : (fun (r : Option Value) (a : zI) (b : zR) (c : zJ) => r = none ∧ a = n7 iv ∧ b = r7 rv ∧ c = lv ∧ zFresh 130 a b c) = QQ
  have lpC : ∀ j, j ≤ 10 → (zFresh (90 + 4 * j) (hnC (n7a iv) j) (hrC (r7a rv) j) lv → Z mX7_init (d + 2, 87, 130, 0, zK0) 73 [some (.ref 86), some (.int (nI j))] [] (90 + 4 * j) (hnC (n7a iv) j) (hrC (r7a rv) j) lv QQ) := by
    refine zfor (fun hf => ?_) (fun j hj ih hf => ?_)
    · refine Z_iload_n (a := 1) (q := 74) (by decide +kernel) rfl rfl ?_
      refine Z_bipush (a := 10) (v := 10) (q := 76) (by decide +kernel) (by decide +kernel) rfl ?_
      refine Z_icmp_ge (t := 98) (off := 22) (q := 79) (by decide +kernel) (by decide) rfl (fun _ => ?_) (fun z => absurd (by decide +kernel) z)
      subst hQ
      exact Z_vret (by decide +kernel) rfl rfl ⟨rfl, rfl, rfl, rfl, hf⟩
    · have hm := mI1 j hj
      have hm2 := (sIts _ hm).2.2.2.2
      refine Z_iload_n (a := 1) (q := 74) (by decide +kernel) rfl rfl ?_
      refine Z_bipush (a := 10) (v := 10) (q := 76) (by decide +kernel) (by decide +kernel) rfl ?_
      refine Z_icmp_ge (t := 98) (off := 22) (q := 79) (by decide +kernel) (by decide) rfl (fun z => absurd z (nI_ge (a := j) (b := 10) hj (by decide))) (fun _ => ?_)
      refine Z_aload_n (a := 0) (q := 80) (by decide +kernel) rfl rfl ?_
      refine g7_8 (idx := 40) (r := 89) (q := 83) (by decide +kernel) fX7_40 rfl (by omega) ((congrFun (hrC_o _ (by decide) (by decide) j) _).trans rfl) rfl ?_
      refine Z_iload_n (a := 1) (q := 84) (by decide +kernel) rfl rfl ?_
      refine Z_new (ci := 3) (N := 4) (C := RX3) (T := TX3) (n := 90 + 4 * j) (idx := 38) (q := 87) (by decide +kernel) rfl inW3 cX7_38 iX3 kX3_init.2.1 zty3_ok hdf3 (sIts _ hm).1 (by omega) hf (show 90 + 4 * j + 1 ≤ 130 by omega) (by simp [zok] <;> first | omega | exact (show @LT.lt Nat instLTNat _ _ by omega) | exact Or.inl (show @LT.lt Nat instLTNat _ _ by omega) | exact ⟨Or.inl (show @LT.lt Nat instLTNat _ _ by omega), Or.inl (show @LT.lt Nat instLTNat _ _ by omega)⟩) (by simp [zok] <;> first | omega | exact (show @LT.lt Nat instLTNat _ _ by omega) | exact Or.inl (show @LT.lt Nat instLTNat _ _ by omega) | exact ⟨Or.inl (show @LT.lt Nat instLTNat _ _ by omega), Or.inl (show @LT.lt Nat instLTNat _ _ by omega)⟩) rfl ?_
      have hf1 := hf.up (m := 90 + 4 * j + 1) (Nat.le_succ _)
      refine Z_dup (q := 88) (by decide +kernel) rfl rfl ?_
      refine Z_callIN (M2 := mX3_init) (idx := 50) (d2 := d + 1) (o := 90 + 4 * j) (n2 := 90 + 4 * j + 4) (As := []) (q := 91) (by decide +kernel) kX3_init nX7_50 rfl rfl (by decide +kernel) (Nat.le_of_ble_eq_true rfl) (Nat.le_refl _) (by omega) (show 90 + 4 * j + 4 ≤ 130 by omega) (by simp [zok] <;> first | omega | exact (show @LT.lt Nat instLTNat _ _ by omega) | exact Or.inl (show @LT.lt Nat instLTNat _ _ by omega) | exact ⟨Or.inl (show @LT.lt Nat instLTNat _ _ by omega), Or.inl (show @LT.lt Nat instLTNat _ _ by omega)⟩) (by simp [zok] <;> first | omega | exact (show @LT.lt Nat instLTNat _ _ by omega) | exact Or.inl (show @LT.lt Nat instLTNat _ _ by omega) | exact ⟨Or.inl (show @LT.lt Nat instLTNat _ _ by omega), Or.inl (show @LT.lt Nat instLTNat _ _ by omega)⟩) rfl (w3 (d := d + 0) hm hf1) rfl (fun r a b c hq => ?_)
      obtain ⟨e1, e2, e3, e4, hf2⟩ := hq
      subst e1 e2 e3 e4
      refine Z_aastR (q := 92) (by decide +kernel) rfl (by omega) rfl (sIts _ hm).1 (by omega) (vp_in_nI (by omega) (by omega)) rfl ?_
      rw [nI_clamp (by omega)]
      have hf3 := hf2.putR (o := 89) (k := j) (r := 90 + 4 * j) (by omega) (by omega)
      refine Z_iinc (a := 1) (b := 1) (v := nI (j + 1)) (loc2 := [some (.ref 86), some (.int (nI (j + 1)))]) (q := 95) (by decide +kernel) rfl (by rw [show Int32.ofInt 1 = 1 from rfl, ← nI_succ]) (by decide +kernel) rfl rfl rfl ?_
      refine Z_goto (q := 73) (off := -22) (by decide +kernel) (by decide) ?_
      exact ih hf3
  refine Z_aload_n (a := 0) (q := 1) (by decide +kernel) rfl rfl ?_
  refine Z_objInit (idx := 3) (q := 4) (by decide +kernel) lX7_3 (Nat.le_of_ble_eq_true rfl) (Nat.succ_le_succ (Nat.zero_le _)) rfl ?_
  refine Z_aload_n (a := 0) (q := 5) (by decide +kernel) rfl rfl ?_
  refine Z_iconst (a := 0) (v := 0) (q := 6) (by decide +kernel) (by decide +kernel) rfl ?_
  refine p7_0 (idx := 9) (q := 9) (by decide +kernel) fX7_9 rfl (by decide) rfl ?_
  have hf135 := hf.putI (o := 86) (k := 0) (x := 0) (by decide)
  refine Z_aload_n (a := 0) (q := 10) (by decide +kernel) rfl rfl ?_
  refine Z_iconst (a := 0) (v := 0) (q := 11) (by decide +kernel) (by decide +kernel) rfl ?_
  refine p7_1 (idx := 15) (q := 14) (by decide +kernel) fX7_15 rfl (by decide) rfl ?_
  have hf136 := hf135.putI (o := 86) (k := 1) (x := 0) (by decide)
  refine Z_aload_n (a := 0) (q := 15) (by decide +kernel) rfl rfl ?_
  refine Z_iconst (a := 0) (v := 0) (q := 16) (by decide +kernel) (by decide +kernel) rfl ?_
  refine p7_2 (idx := 18) (q := 19) (by decide +kernel) fX7_18 rfl (by decide) rfl ?_
  have hf137 := hf136.putI (o := 86) (k := 2) (x := 0) (by decide)
  refine Z_aload_n (a := 0) (q := 20) (by decide +kernel) rfl rfl ?_
  refine Z_iconst (a := 0) (v := 0) (q := 21) (by decide +kernel) (by decide +kernel) rfl ?_
  refine p7_3 (idx := 21) (q := 24) (by decide +kernel) fX7_21 rfl (by decide) rfl ?_
  have hf138 := hf137.putI (o := 86) (k := 3) (x := 0) (by decide)
  refine Z_aload_n (a := 0) (q := 25) (by decide +kernel) rfl rfl ?_
  refine Z_iconst (a := 0) (v := 0) (q := 26) (by decide +kernel) (by decide +kernel) rfl ?_
  refine p7_4 (idx := 24) (q := 29) (by decide +kernel) fX7_24 rfl (by decide) (by decide) rfl ?_
  have hf139 := hf138.putI (o := 86) (k := 4) (x := 0) (by decide)
  refine Z_aload_n (a := 0) (q := 30) (by decide +kernel) rfl rfl ?_
  refine Z_iconst (a := 0) (v := 0) (q := 31) (by decide +kernel) (by decide +kernel) rfl ?_
  refine p7_5 (idx := 28) (q := 34) (by decide +kernel) fX7_28 rfl (by decide) rfl ?_
  have hf140 := hf139.putI (o := 86) (k := 5) (x := 0) (by decide)
  refine Z_aload_n (a := 0) (q := 35) (by decide +kernel) rfl rfl ?_
  refine Z_sipush (a := 512) (v := 512) (q := 38) (by decide +kernel) (by decide +kernel) rfl ?_
  refine Z_newaI (N := 512) (n := 87) (q := 40) (by decide +kernel) (by decide) (by decide) (by decide) rfl (by decide) hf140 (show 88 ≤ 130 by decide) rfl rfl rfl ?_
  have hf141 := hf140.up (m := 88) (Nat.le_succ _)
  refine pf7_6 (idx := 31) (q := 43) (by decide +kernel) fX7_31 rfl (by decide) rfl rfl rfl ?_
  have hf142 := hf141.putR (o := 86) (k := 6) (r := 87) (by decide) (by decide)
  refine Z_aload_n (a := 0) (q := 44) (by decide +kernel) rfl rfl ?_
  refine Z_sipush (a := 512) (v := 512) (q := 47) (by decide +kernel) (by decide +kernel) rfl ?_
  refine Z_newaI (N := 512) (n := 88) (q := 49) (by decide +kernel) (by decide) (by decide) (by decide) rfl (by decide) hf142 (show 89 ≤ 130 by decide) rfl rfl rfl ?_
  have hf143 := hf142.up (m := 89) (Nat.le_succ _)
  refine pf7_7 (idx := 35) (q := 52) (by decide +kernel) fX7_35 rfl (by decide) rfl rfl rfl ?_
  have hf144 := hf143.putR (o := 86) (k := 7) (r := 88) (by decide) (by decide)
  refine Z_aload_n (a := 0) (q := 53) (by decide +kernel) rfl rfl ?_
  refine Z_bipush (a := 10) (v := 10) (q := 55) (by decide +kernel) (by decide +kernel) rfl ?_
  refine Z_newqR (N := 10) (n := 89) (idx := 38) (q := 58) (by decide +kernel) cX7_38 (by decide) (by decide) (by decide) rfl (by decide) hf144 (show 90 ≤ 130 by decide) rfl rfl rfl ?_
  have hf145 := hf144.up (m := 90) (Nat.le_succ _)
  refine pf7_8 (idx := 40) (q := 61) (by decide +kernel) fX7_40 rfl (by decide) rfl rfl rfl ?_
  have hf146 := hf145.putR (o := 86) (k := 8) (r := 89) (by decide) (by decide)
  refine Z_aload_n (a := 0) (q := 62) (by decide +kernel) rfl rfl ?_
  refine Z_iconst (a := 0) (v := 0) (q := 63) (by decide +kernel) (by decide +kernel) rfl ?_
  refine p7_9 (idx := 44) (q := 66) (by decide +kernel) fX7_44 rfl (by decide) rfl ?_
  have hf147 := hf146.putI (o := 86) (k := 9) (x := 0) (by decide)
  refine Z_aload_n (a := 0) (q := 67) (by decide +kernel) rfl rfl ?_
  refine Z_iconst (a := (-1)) (v := (-1)) (q := 68) (by decide +kernel) (by decide +kernel) rfl ?_
  refine p7_10 (idx := 47) (q := 71) (by decide +kernel) fX7_47 rfl (by decide) rfl ?_
  have hf148 := hf147.putI (o := 86) (k := 10) (x := (-1)) (by decide)
  refine Z_iconst (a := 0) (v := 0) (q := 72) (by decide +kernel) (by decide +kernel) rfl ?_
  refine Z_istore_n (a := 1) (loc2 := [some (.ref 86), some (.int (nI 0))]) (q := 73) (by decide +kernel) (by decide +kernel) rfl rfl rfl ?_
  exact lpC 0 (Nat.zero_le _) hf148
def n10a (iv : zI) : zI := zu (zu (zu (zu (n8 (n4 (n7 (n0 (n1 (zu (n2 (n9 (8) (n6 (iv)))) (0) 3 (0))))))) (0) 11 (0)) (0) 12 (0)) (0) 13 (0)) (0) 14 (-1)
def r10a (rv : zR) : zR := zu (zu (r8 (zu (zu (r4 (zu (r7 (zu (r0 (zu (r1 (zu (r2 (zu (r9 (8) (zu (r6 (rv)) (0) 0 (some (1)))) (0) 1 (some (8)))) (0) 2 (some (13)))) (0) 4 (some (76)))) (0) 5 (some (79)))) (0) 6 (some (86)))) (0) 7 (some (130))) (0) 8 (some (154)))) (0) 9 (some (155))) (0) 10 (some (158))
def nw10 (iv : zI) : zI := hnD (n10a iv) 3
def r10 (rv : zR) : zR := hrD (r10a rv) 3
theorem w10 {d : Nat} {iv : zI} {rv : zR} {lv : zJ} (hf : zFresh 1 iv rv lv) : Mw mX10_init (d + 3) 174 [.ref 0] 1 iv rv lv (fun r a b c => r = none ∧ a = nw10 iv ∧ b = r10 rv ∧ c = lv ∧ zFresh (174) a b c) := by
  refine Mw.of (loc := [some (.ref 0), none]) (by decide +kernel) (by simp [Value.category]) (Nat.le_of_ble_eq_true rfl) rfl (by decide) (by decide) ?_
  generalize hQ : (fun (r : Option Value) (a : zI) (b : zR) (c : zJ) => r = none ∧ a = nw10 iv ∧ b = r10 rv ∧ c = lv ∧ zFresh 174 a b c) = QQ
  have lpD : ∀ j, j ≤ 3 → (zFresh (159 + 5 * j) (hnD (n10a iv) j) (hrD (r10a rv) j) lv → Z mX10_init (d + 3, 1, 174, 0, zK0) 135 [some (.ref 0), some (.int (nI (j + 2)))] [] (159 + 5 * j) (hnD (n10a iv) j) (hrD (r10a rv) j) lv QQ) := by
    refine zfor (fun hf => ?_) (fun j hj ih hf => ?_)
    · refine Z_iload_n (a := 1) (q := 136) (by decide +kernel) rfl rfl ?_
      refine Z_iconst (a := 4) (v := 4) (q := 137) (by decide +kernel) (by decide +kernel) rfl ?_
      refine Z_icmp_gt (t := 162) (off := 25) (q := 140) (by decide +kernel) (by decide) rfl (fun _ => ?_) (fun z => absurd (by decide +kernel) z)
      subst hQ
      exact Z_vret (by decide +kernel) rfl rfl ⟨rfl, rfl, rfl, rfl, hf⟩
    · have hm := mP1 j hj
      have hm2 := (sPts _ hm).2.2.2.2.2
      refine Z_iload_n (a := 1) (q := 136) (by decide +kernel) rfl rfl ?_
      refine Z_iconst (a := 4) (v := 4) (q := 137) (by decide +kernel) (by decide +kernel) rfl ?_
      refine Z_icmp_gt (t := 162) (off := 25) (q := 140) (by decide +kernel) (by decide) rfl (fun z => absurd z (nI_nlt (a := 4) (b := j + 2) (by omega) (by decide))) (fun _ => ?_)
      refine Z_aload_n (a := 0) (q := 141) (by decide +kernel) rfl rfl ?_
      refine g10_8 (idx := 64) (r := 154) (q := 144) (by decide +kernel) fX10_64 rfl (by omega) ((congrFun (hrD_o _ (by decide) (by decide) j) _).trans rfl) rfl ?_
      refine Z_iload_n (a := 1) (q := 145) (by decide +kernel) rfl rfl ?_
      refine Z_iconst (a := 2) (v := 2) (q := 146) (by decide +kernel) (by decide +kernel) rfl ?_
      refine Z_isub (q := 147) (by decide +kernel) rfl ?_
      rw [show nI (j + 2) - 2 = nI j from by rw [show (2 : Int32) = nI 2 from rfl, pk_sub (by omega), Nat.add_sub_cancel]]
      refine Z_new (ci := 5) (N := 13) (C := RX5) (T := TX5) (n := 159 + 5 * j) (idx := 62) (q := 150) (by decide +kernel) rfl inW5 cX10_62 iX5 kX5_init.2.1 zty5_ok hdf5 (sPts _ hm).1 (by omega) hf (show 159 + 5 * j + 1 ≤ 174 by omega) (by simp [zok] <;> first | omega | exact (show @LT.lt Nat instLTNat _ _ by omega) | exact Or.inl (show @LT.lt Nat instLTNat _ _ by omega) | exact ⟨Or.inl (show @LT.lt Nat instLTNat _ _ by omega), Or.inl (show @LT.lt Nat instLTNat _ _ by omega)⟩) (by simp [zok] <;> first | omega | exact (show @LT.lt Nat instLTNat _ _ by omega) | exact Or.inl (show @LT.lt Nat instLTNat _ _ by omega) | exact ⟨Or.inl (show @LT.lt Nat instLTNat _ _ by omega), Or.inl (show @LT.lt Nat instLTNat _ _ by omega)⟩) rfl ?_
      have hf1 := hf.up (m := 159 + 5 * j + 1) (Nat.le_succ _)
      refine Z_dup (q := 151) (by decide +kernel) rfl rfl ?_
      refine Z_iload_n (a := 1) (q := 152) (by decide +kernel) rfl rfl ?_
      refine Z_callI (M2 := mX5_init) (idx := 91) (d2 := d + 2) (o := 159 + 5 * j) (n2 := 159 + 5 * j + 5) (As := [.int _]) (q := 155) (by decide +kernel) kX5_init lX10_91 rfl rfl (by decide +kernel) (Nat.le_of_ble_eq_true rfl) (Nat.le_refl _) (by omega) (show 159 + 5 * j + 5 ≤ 174 by omega) (by simp [zok] <;> first | omega | exact (show @LT.lt Nat instLTNat _ _ by omega) | exact Or.inl (show @LT.lt Nat instLTNat _ _ by omega) | exact ⟨Or.inl (show @LT.lt Nat instLTNat _ _ by omega), Or.inl (show @LT.lt Nat instLTNat _ _ by omega)⟩) (by simp [zok] <;> first | omega | exact (show @LT.lt Nat instLTNat _ _ by omega) | exact Or.inl (show @LT.lt Nat instLTNat _ _ by omega) | exact ⟨Or.inl (show @LT.lt Nat instLTNat _ _ by omega), Or.inl (show @LT.lt Nat instLTNat _ _ by omega)⟩) rfl (w5 (d := d + 1) hm hf1) rfl (fun r a b c hq => ?_)
      obtain ⟨e1, e2, e3, e4, hf2⟩ := hq
      subst e1 e2 e3 e4
      refine Z_aastP (q := 156) (by decide +kernel) rfl (by omega) rfl (sPts _ hm).1 (by omega) (vp_in_nI (by omega) (by omega)) rfl ?_
      rw [nI_clamp (by omega)]
      have hf3 := hf2.putR (o := 154) (k := j) (r := 159 + 5 * j) (by omega) (by omega)
      refine Z_iinc (a := 1) (b := 1) (v := nI (j + 1 + 2)) (loc2 := [some (.ref 0), some (.int (nI (j + 1 + 2)))]) (q := 159) (by decide +kernel) rfl (by rw [show Int32.ofInt 1 = 1 from rfl, ← nI_succ]) (by decide +kernel) rfl rfl rfl ?_
      refine Z_goto (q := 135) (off := -24) (by decide +kernel) (by decide) ?_
      exact ih hf3
  refine Z_aload_n (a := 0) (q := 1) (by decide +kernel) rfl rfl ?_
  refine Z_objInit (idx := 1) (q := 4) (by decide +kernel) lX10_1 (Nat.le_of_ble_eq_true rfl) (Nat.succ_le_succ (Nat.zero_le _)) rfl ?_
  refine Z_aload_n (a := 0) (q := 5) (by decide +kernel) rfl rfl ?_
  refine Z_new (ci := 6) (N := 10) (C := RX6) (T := TX6) (n := 1) (idx := 7) (q := 8) (by decide +kernel) rfl inW6 cX10_7 iX6 kX6_init.2.1 zty6_ok hdf6 rfl (by decide) hf (show 2 ≤ 174 by decide) rfl rfl rfl ?_
  have hf149 := hf.up (m := 2) (Nat.le_succ _)
  refine Z_dup (q := 9) (by decide +kernel) rfl rfl ?_
  refine Z_callIN (M2 := mX6_init) (idx := 9) (d2 := d + 2) (o := 1) (n2 := 8) (As := []) (q := 12) (by decide +kernel) kX6_init nX10_9 rfl rfl (by decide +kernel) (Nat.le_of_ble_eq_true rfl) (Nat.le_refl _) (by decide) (show 8 ≤ 174 by decide) rfl rfl rfl (w6 (d := d + 0) hf149) rfl (fun r a b c hq => ?_)
  obtain ⟨e1, e2, e3, e4, hf150⟩ := hq
  subst e1 e2 e3 e4
  refine pf10_0 (idx := 10) (q := 15) (by decide +kernel) fX10_10 rfl (by decide) rfl rfl rfl ?_
  have hf151 := hf150.putR (o := 0) (k := 0) (r := 1) (by decide) (by decide)
  refine Z_aload_n (a := 0) (q := 16) (by decide +kernel) rfl rfl ?_
  refine Z_new (ci := 9) (N := 6) (C := RX9) (T := TX9) (n := 8) (idx := 16) (q := 19) (by decide +kernel) rfl inW9 cX10_16 iX9 kX9_init.2.1 zty9_ok hdf9 rfl (by decide) hf151 (show 9 ≤ 174 by decide) rfl rfl rfl ?_
  have hf152 := hf151.up (m := 9) (Nat.le_succ _)
  refine Z_dup (q := 20) (by decide +kernel) rfl rfl ?_
  refine Z_callIN (M2 := mX9_init) (idx := 18) (d2 := d + 2) (o := 8) (n2 := 13) (As := []) (q := 23) (by decide +kernel) kX9_init nX10_18 rfl rfl (by decide +kernel) (Nat.le_of_ble_eq_true rfl) (Nat.le_refl _) (by decide) (show 13 ≤ 174 by decide) rfl rfl rfl (w9 (d := d + 1) (o := 8) (by decide +kernel) hf152) rfl (fun r a b c hq => ?_)
  obtain ⟨e1, e2, e3, e4, hf153⟩ := hq
  subst e1 e2 e3 e4
  refine pf10_1 (idx := 19) (q := 26) (by decide +kernel) fX10_19 rfl (by decide) rfl rfl rfl ?_
  have hf154 := hf153.putR (o := 0) (k := 1) (r := 8) (by decide) (by decide)
  refine Z_aload_n (a := 0) (q := 27) (by decide +kernel) rfl rfl ?_
  refine Z_new (ci := 2) (N := 4) (C := RX2) (T := TX2) (n := 13) (idx := 23) (q := 30) (by decide +kernel) rfl inW2 cX10_23 iX2 kX2_init.2.1 zty2_ok hdf2 rfl (by decide) hf154 (show 14 ≤ 174 by decide) rfl rfl rfl ?_
  have hf155 := hf154.up (m := 14) (Nat.le_succ _)
  refine Z_dup (q := 31) (by decide +kernel) rfl rfl ?_
  refine Z_callI (M2 := mX2_init) (idx := 25) (d2 := d + 2) (o := 13) (n2 := 76) (As := []) (q := 34) (by decide +kernel) kX2_init lX10_25 rfl rfl (by decide +kernel) (Nat.le_of_ble_eq_true rfl) (Nat.le_refl _) (by decide) (show 76 ≤ 174 by decide) rfl rfl rfl (w2 (d := d + 0) hf155) rfl (fun r a b c hq => ?_)
  obtain ⟨e1, e2, e3, e4, hf156⟩ := hq
  subst e1 e2 e3 e4
  refine pf10_2 (idx := 26) (q := 37) (by decide +kernel) fX10_26 rfl (by decide) rfl rfl rfl ?_
  have hf157 := hf156.putR (o := 0) (k := 2) (r := 13) (by decide) (by decide)
  refine Z_aload_n (a := 0) (q := 38) (by decide +kernel) rfl rfl ?_
  refine Z_iconst (a := 0) (v := 0) (q := 39) (by decide +kernel) (by decide +kernel) rfl ?_
  refine p10_3 (idx := 30) (q := 42) (by decide +kernel) fX10_30 rfl (by decide) rfl ?_
  have hf158 := hf157.putI (o := 0) (k := 3) (x := 0) (by decide)
  refine Z_aload_n (a := 0) (q := 43) (by decide +kernel) rfl rfl ?_
  refine Z_new (ci := 1) (N := 8) (C := RX1) (T := TX1) (n := 76) (idx := 34) (q := 46) (by decide +kernel) rfl inW1 cX10_34 iX1 kX1_init.2.1 zty1_ok hdf1 rfl (by decide) hf158 (show 77 ≤ 174 by decide) rfl rfl rfl ?_
  have hf159 := hf158.up (m := 77) (Nat.le_succ _)
  refine Z_dup (q := 47) (by decide +kernel) rfl rfl ?_
  refine Z_callIN (M2 := mX1_init) (idx := 36) (d2 := d + 2) (o := 76) (n2 := 79) (As := []) (q := 50) (by decide +kernel) kX1_init nX10_36 rfl rfl (by decide +kernel) (Nat.le_of_ble_eq_true rfl) (Nat.le_refl _) (by decide) (show 79 ≤ 174 by decide) rfl rfl rfl (w1 (d := d + 1) hf159) rfl (fun r a b c hq => ?_)
  obtain ⟨e1, e2, e3, e4, hf160⟩ := hq
  subst e1 e2 e3 e4
  refine pf10_4 (idx := 37) (q := 53) (by decide +kernel) fX10_37 rfl (by decide) rfl rfl rfl ?_
  have hf161 := hf160.putR (o := 0) (k := 4) (r := 76) (by decide) (by decide)
  refine Z_aload_n (a := 0) (q := 54) (by decide +kernel) rfl rfl ?_
  refine Z_new (ci := 0) (N := 3) (C := RX0) (T := TX0) (n := 79) (idx := 41) (q := 57) (by decide +kernel) rfl inW0 cX10_41 iX0 kX0_init.2.1 zty0_ok hdf0 rfl (by decide) hf161 (show 80 ≤ 174 by decide) rfl rfl rfl ?_
  have hf162 := hf161.up (m := 80) (Nat.le_succ _)
  refine Z_dup (q := 58) (by decide +kernel) rfl rfl ?_
  refine Z_callIN (M2 := mX0_init) (idx := 43) (d2 := d + 2) (o := 79) (n2 := 86) (As := []) (q := 61) (by decide +kernel) kX0_init nX10_43 rfl rfl (by decide +kernel) (Nat.le_of_ble_eq_true rfl) (Nat.le_refl _) (by decide) (show 86 ≤ 174 by decide) rfl rfl rfl (w0 (d := d + 0) hf162) rfl (fun r a b c hq => ?_)
  obtain ⟨e1, e2, e3, e4, hf163⟩ := hq
  subst e1 e2 e3 e4
  refine pf10_5 (idx := 44) (q := 64) (by decide +kernel) fX10_44 rfl (by decide) rfl rfl rfl ?_
  have hf164 := hf163.putR (o := 0) (k := 5) (r := 79) (by decide) (by decide)
  refine Z_aload_n (a := 0) (q := 65) (by decide +kernel) rfl rfl ?_
  refine Z_new (ci := 7) (N := 11) (C := RX7) (T := TX7) (n := 86) (idx := 48) (q := 68) (by decide +kernel) rfl inW7 cX10_48 iX7 kX7_init.2.1 zty7_ok hdf7 rfl (by decide) hf164 (show 87 ≤ 174 by decide) rfl rfl rfl ?_
  have hf165 := hf164.up (m := 87) (Nat.le_succ _)
  refine Z_dup (q := 69) (by decide +kernel) rfl rfl ?_
  refine Z_callI (M2 := mX7_init) (idx := 50) (d2 := d + 2) (o := 86) (n2 := 130) (As := []) (q := 72) (by decide +kernel) kX7_init lX10_50 rfl rfl (by decide +kernel) (Nat.le_of_ble_eq_true rfl) (Nat.le_refl _) (by decide) (show 130 ≤ 174 by decide) rfl rfl rfl (w7 (d := d + 0) hf165) rfl (fun r a b c hq => ?_)
  obtain ⟨e1, e2, e3, e4, hf166⟩ := hq
  subst e1 e2 e3 e4
  refine pf10_6 (idx := 51) (q := 75) (by decide +kernel) fX10_51 rfl (by decide) rfl rfl rfl ?_
  have hf167 := hf166.putR (o := 0) (k := 6) (r := 86) (by decide) (by decide)
  refine Z_aload_n (a := 0) (q := 76) (by decide +kernel) rfl rfl ?_
  refine Z_new (ci := 4) (N := 6) (C := RX4) (T := TX4) (n := 130) (idx := 55) (q := 79) (by decide +kernel) rfl inW4 cX10_55 iX4 kX4_init.2.1 zty4_ok hdf4 rfl (by decide) hf167 (show 131 ≤ 174 by decide) rfl rfl rfl ?_
  have hf168 := hf167.up (m := 131) (Nat.le_succ _)
  refine Z_dup (q := 80) (by decide +kernel) rfl rfl ?_
  refine Z_callIN (M2 := mX4_init) (idx := 57) (d2 := d + 2) (o := 130) (n2 := 154) (As := []) (q := 83) (by decide +kernel) kX4_init nX10_57 rfl rfl (by decide +kernel) (Nat.le_of_ble_eq_true rfl) (Nat.le_refl _) (by decide) (show 154 ≤ 174 by decide) rfl rfl rfl (w4 (d := d + 1) hf168) rfl (fun r a b c hq => ?_)
  obtain ⟨e1, e2, e3, e4, hf169⟩ := hq
  subst e1 e2 e3 e4
  refine pf10_7 (idx := 58) (q := 86) (by decide +kernel) fX10_58 rfl (by decide) rfl rfl rfl ?_
  have hf170 := hf169.putR (o := 0) (k := 7) (r := 130) (by decide) (by decide)
  refine Z_aload_n (a := 0) (q := 87) (by decide +kernel) rfl rfl ?_
  refine Z_iconst (a := 3) (v := 3) (q := 88) (by decide +kernel) (by decide +kernel) rfl ?_
  refine Z_newqP (N := 3) (n := 154) (idx := 62) (q := 91) (by decide +kernel) cX10_62 (by decide) (by decide) (by decide) rfl (by decide) hf170 (show 155 ≤ 174 by decide) rfl rfl rfl ?_
  have hf171 := hf170.up (m := 155) (Nat.le_succ _)
  refine pf10_8 (idx := 64) (q := 94) (by decide +kernel) fX10_64 rfl (by decide) rfl rfl rfl ?_
  have hf172 := hf171.putR (o := 0) (k := 8) (r := 154) (by decide) (by decide)
  refine Z_aload_n (a := 0) (q := 95) (by decide +kernel) rfl rfl ?_
  refine Z_new (ci := 8) (N := 4) (C := RX8) (T := TX8) (n := 155) (idx := 68) (q := 98) (by decide +kernel) rfl inW8 cX10_68 iX8 kX8_init.2.1 zty8_ok hdf8 rfl (by decide) hf172 (show 156 ≤ 174 by decide) rfl rfl rfl ?_
  have hf173 := hf172.up (m := 156) (Nat.le_succ _)
  refine Z_dup (q := 99) (by decide +kernel) rfl rfl ?_
  refine Z_callIN (M2 := mX8_init) (idx := 70) (d2 := d + 2) (o := 155) (n2 := 158) (As := []) (q := 102) (by decide +kernel) kX8_init nX10_70 rfl rfl (by decide +kernel) (Nat.le_of_ble_eq_true rfl) (Nat.le_refl _) (by decide) (show 158 ≤ 174 by decide) rfl rfl rfl (w8 (d := d + 1) hf173) rfl (fun r a b c hq => ?_)
  obtain ⟨e1, e2, e3, e4, hf174⟩ := hq
  subst e1 e2 e3 e4
  refine pf10_9 (idx := 71) (q := 105) (by decide +kernel) fX10_71 rfl (by decide) rfl rfl rfl ?_
  have hf175 := hf174.putR (o := 0) (k := 9) (r := 155) (by decide) (by decide)
  refine Z_aload_n (a := 0) (q := 106) (by decide +kernel) rfl rfl ?_
  refine Z_bipush (a := 64) (v := 64) (q := 108) (by decide +kernel) (by decide +kernel) rfl ?_
  refine Z_newaB (N := 64) (n := 158) (q := 110) (by decide +kernel) (by decide) (by decide) (by decide) rfl (by decide) hf175 (show 159 ≤ 174 by decide) rfl rfl rfl ?_
  have hf176 := hf175.up (m := 159) (Nat.le_succ _)
  refine pf10_10 (idx := 75) (q := 113) (by decide +kernel) fX10_75 rfl (by decide) rfl rfl rfl ?_
  have hf177 := hf176.putR (o := 0) (k := 10) (r := 158) (by decide) (by decide)
  refine Z_aload_n (a := 0) (q := 114) (by decide +kernel) rfl rfl ?_
  refine Z_iconst (a := 0) (v := 0) (q := 115) (by decide +kernel) (by decide +kernel) rfl ?_
  refine p10_11 (idx := 79) (q := 118) (by decide +kernel) fX10_79 rfl (by decide) rfl ?_
  have hf178 := hf177.putI (o := 0) (k := 11) (x := 0) (by decide)
  refine Z_aload_n (a := 0) (q := 119) (by decide +kernel) rfl rfl ?_
  refine Z_iconst (a := 0) (v := 0) (q := 120) (by decide +kernel) (by decide +kernel) rfl ?_
  refine p10_12 (idx := 82) (q := 123) (by decide +kernel) fX10_82 rfl (by decide) rfl ?_
  have hf179 := hf178.putI (o := 0) (k := 12) (x := 0) (by decide)
  refine Z_aload_n (a := 0) (q := 124) (by decide +kernel) rfl rfl ?_
  refine Z_iconst (a := 0) (v := 0) (q := 125) (by decide +kernel) (by decide +kernel) rfl ?_
  refine p10_13 (idx := 85) (q := 128) (by decide +kernel) fX10_85 rfl (by decide) rfl ?_
  have hf180 := hf179.putI (o := 0) (k := 13) (x := 0) (by decide)
  refine Z_aload_n (a := 0) (q := 129) (by decide +kernel) rfl rfl ?_
  refine Z_iconst (a := (-1)) (v := (-1)) (q := 130) (by decide +kernel) (by decide +kernel) rfl ?_
  refine p10_14 (idx := 88) (q := 133) (by decide +kernel) fX10_88 rfl (by decide) rfl ?_
  have hf181 := hf180.putI (o := 0) (k := 14) (x := (-1)) (by decide)
  refine Z_iconst (a := 2) (v := 2) (q := 134) (by decide +kernel) (by decide +kernel) rfl ?_
  refine Z_istore_n (a := 1) (loc2 := [some (.ref 0), some (.int (nI 2))]) (q := 135) (by decide +kernel) (by decide +kernel) rfl rfl rfl ?_
  exact lpD 0 (Nat.zero_le _) hf181
