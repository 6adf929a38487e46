section
-- printed texts of the kit: the tables' words, names
-- ===== PART A: goes FIRST, ahead of the names: the tables' words, and 'selects' of the private methods out of them =====
/-- a private method of a class that the tables say can be made, by its rows of tables_1 -/
def lw_okq (q : MethodName × Nat) : Prop := (q.1.cls ≠ "java/lang/invoke/MethodHandle" ∧ q.1.cls ≠ "java/lang/invoke/VarHandle") ∧ Cond.instantiable q.1.cls q.2 ∈ tables_1 ∧ Cond.privateMethod q.1 ∈ tables_1 ∧ Cond.instanceMethod q.1 ∈ tables_1
theorem lw_p0 : lw_okq (⟨"NumberHeaps", "refuse", "(I)I"⟩, 15) := ⟨⟨by decide +kernel, by decide +kernel⟩, List.mem_of_getElem? (i := 25) (by decide +kernel), List.mem_of_getElem? (i := 433) (by decide +kernel), List.mem_of_getElem? (i := 434) (by decide +kernel)⟩
theorem lw_p1 : lw_okq (⟨"NumberHeaps$Reader", "nextToken", "()V"⟩, 10) := ⟨⟨by decide +kernel, by decide +kernel⟩, List.mem_of_getElem? (i := 33) (by decide +kernel), List.mem_of_getElem? (i := 448) (by decide +kernel), List.mem_of_getElem? (i := 449) (by decide +kernel)⟩
theorem lw_p2 : lw_okq (⟨"NumberHeaps$Reader", "takeWord", "()V"⟩, 10) := ⟨⟨by decide +kernel, by decide +kernel⟩, List.mem_of_getElem? (i := 33) (by decide +kernel), List.mem_of_getElem? (i := 455) (by decide +kernel), List.mem_of_getElem? (i := 456) (by decide +kernel)⟩
theorem lw_p3 : lw_okq (⟨"NumberHeaps$Reader", "takeWhole", "()V"⟩, 10) := ⟨⟨by decide +kernel, by decide +kernel⟩, List.mem_of_getElem? (i := 33) (by decide +kernel), List.mem_of_getElem? (i := 462) (by decide +kernel), List.mem_of_getElem? (i := 463) (by decide +kernel)⟩
theorem lw_p4 : lw_okq (⟨"NumberHeaps$Reader", "takeSign", "()V"⟩, 10) := ⟨⟨by decide +kernel, by decide +kernel⟩, List.mem_of_getElem? (i := 33) (by decide +kernel), List.mem_of_getElem? (i := 466) (by decide +kernel), List.mem_of_getElem? (i := 467) (by decide +kernel)⟩
theorem lw_p5 : lw_okq (⟨"NumberHeaps$Reader", "readLines", "()Z"⟩, 10) := ⟨⟨by decide +kernel, by decide +kernel⟩, List.mem_of_getElem? (i := 33) (by decide +kernel), List.mem_of_getElem? (i := 470) (by decide +kernel), List.mem_of_getElem? (i := 471) (by decide +kernel)⟩
theorem lw_p6 : lw_okq (⟨"NumberHeaps$Reader", "readLine", "()Z"⟩, 10) := ⟨⟨by decide +kernel, by decide +kernel⟩, List.mem_of_getElem? (i := 33) (by decide +kernel), List.mem_of_getElem? (i := 474) (by decide +kernel), List.mem_of_getElem? (i := 475) (by decide +kernel)⟩
theorem lw_p7 : lw_okq (⟨"NumberHeaps$Reader", "isWord", "(Ljava/lang/String;)Z"⟩, 10) := ⟨⟨by decide +kernel, by decide +kernel⟩, List.mem_of_getElem? (i := 33) (by decide +kernel), List.mem_of_getElem? (i := 479) (by decide +kernel), List.mem_of_getElem? (i := 480) (by decide +kernel)⟩
theorem lw_p8 : lw_okq (⟨"NumberHeaps$Reader", "readNumbers", "()Z"⟩, 10) := ⟨⟨by decide +kernel, by decide +kernel⟩, List.mem_of_getElem? (i := 33) (by decide +kernel), List.mem_of_getElem? (i := 531) (by decide +kernel), List.mem_of_getElem? (i := 532) (by decide +kernel)⟩
theorem lw_p9 : lw_okq (⟨"NumberHeaps$Reader", "wholeWithin", "(II)Z"⟩, 10) := ⟨⟨by decide +kernel, by decide +kernel⟩, List.mem_of_getElem? (i := 33) (by decide +kernel), List.mem_of_getElem? (i := 535) (by decide +kernel), List.mem_of_getElem? (i := 536) (by decide +kernel)⟩
theorem lw_p10 : lw_okq (⟨"NumberHeaps$Reader", "stop", "(I)Z"⟩, 10) := ⟨⟨by decide +kernel, by decide +kernel⟩, List.mem_of_getElem? (i := 33) (by decide +kernel), List.mem_of_getElem? (i := 539) (by decide +kernel), List.mem_of_getElem? (i := 540) (by decide +kernel)⟩
theorem lw_p11 : lw_okq (⟨"NumberHeaps$Reader", "readHeaps", "()Z"⟩, 10) := ⟨⟨by decide +kernel, by decide +kernel⟩, List.mem_of_getElem? (i := 33) (by decide +kernel), List.mem_of_getElem? (i := 548) (by decide +kernel), List.mem_of_getElem? (i := 549) (by decide +kernel)⟩
theorem lw_p12 : lw_okq (⟨"NumberHeaps$Reader", "readKeep", "()Z"⟩, 10) := ⟨⟨by decide +kernel, by decide +kernel⟩, List.mem_of_getElem? (i := 33) (by decide +kernel), List.mem_of_getElem? (i := 553) (by decide +kernel), List.mem_of_getElem? (i := 554) (by decide +kernel)⟩
theorem lw_p13 : lw_okq (⟨"NumberHeaps$Reader", "readApart", "()Z"⟩, 10) := ⟨⟨by decide +kernel, by decide +kernel⟩, List.mem_of_getElem? (i := 33) (by decide +kernel), List.mem_of_getElem? (i := 559) (by decide +kernel), List.mem_of_getElem? (i := 560) (by decide +kernel)⟩
theorem lw_p14 : lw_okq (⟨"NumberHeaps", "changed", "()V"⟩, 15) := ⟨⟨by decide +kernel, by decide +kernel⟩, List.mem_of_getElem? (i := 25) (by decide +kernel), List.mem_of_getElem? (i := 597) (by decide +kernel), List.mem_of_getElem? (i := 598) (by decide +kernel)⟩
theorem lw_p15 : lw_okq (⟨"NumberHeaps", "answer", "(I)I"⟩, 15) := ⟨⟨by decide +kernel, by decide +kernel⟩, List.mem_of_getElem? (i := 25) (by decide +kernel), List.mem_of_getElem? (i := 605) (by decide +kernel), List.mem_of_getElem? (i := 606) (by decide +kernel)⟩
def lw_privs_1 : List (MethodName × Nat) := [(⟨"NumberHeaps", "refuse", "(I)I"⟩, 15), (⟨"NumberHeaps$Reader", "nextToken", "()V"⟩, 10), (⟨"NumberHeaps$Reader", "takeWord", "()V"⟩, 10), (⟨"NumberHeaps$Reader", "takeWhole", "()V"⟩, 10), (⟨"NumberHeaps$Reader", "takeSign", "()V"⟩, 10), (⟨"NumberHeaps$Reader", "readLines", "()Z"⟩, 10), (⟨"NumberHeaps$Reader", "readLine", "()Z"⟩, 10), (⟨"NumberHeaps$Reader", "isWord", "(Ljava/lang/String;)Z"⟩, 10), (⟨"NumberHeaps$Reader", "readNumbers", "()Z"⟩, 10), (⟨"NumberHeaps$Reader", "wholeWithin", "(II)Z"⟩, 10), (⟨"NumberHeaps$Reader", "stop", "(I)Z"⟩, 10), (⟨"NumberHeaps$Reader", "readHeaps", "()Z"⟩, 10), (⟨"NumberHeaps$Reader", "readKeep", "()Z"⟩, 10), (⟨"NumberHeaps$Reader", "readApart", "()Z"⟩, 10), (⟨"NumberHeaps", "changed", "()V"⟩, 15), (⟨"NumberHeaps", "answer", "(I)I"⟩, 15)]
theorem lw_r1 : ∀ q ∈ lw_privs_1, lw_okq q := List.forall_mem_cons.mpr ⟨lw_p0, List.forall_mem_cons.mpr ⟨lw_p1, List.forall_mem_cons.mpr ⟨lw_p2, List.forall_mem_cons.mpr ⟨lw_p3, List.forall_mem_cons.mpr ⟨lw_p4, List.forall_mem_cons.mpr ⟨lw_p5, List.forall_mem_cons.mpr ⟨lw_p6, List.forall_mem_cons.mpr ⟨lw_p7, List.forall_mem_cons.mpr ⟨lw_p8, List.forall_mem_cons.mpr ⟨lw_p9, List.forall_mem_cons.mpr ⟨lw_p10, List.forall_mem_cons.mpr ⟨lw_p11, List.forall_mem_cons.mpr ⟨lw_p12, List.forall_mem_cons.mpr ⟨lw_p13, List.forall_mem_cons.mpr ⟨lw_p14, List.forall_mem_cons.mpr ⟨lw_p15, fun _ h => absurd h List.not_mem_nil⟩⟩⟩⟩⟩⟩⟩⟩⟩⟩⟩⟩⟩⟩⟩⟩
theorem lw_p16 : lw_okq (⟨"NumberHeaps", "noText", "()Z"⟩, 15) := ⟨⟨by decide +kernel, by decide +kernel⟩, List.mem_of_getElem? (i := 25) (by decide +kernel), List.mem_of_getElem? (i := 621) (by decide +kernel), List.mem_of_getElem? (i := 622) (by decide +kernel)⟩
theorem lw_p17 : lw_okq (⟨"NumberHeaps", "noNumber", "(I)Z"⟩, 15) := ⟨⟨by decide +kernel, by decide +kernel⟩, List.mem_of_getElem? (i := 25) (by decide +kernel), List.mem_of_getElem? (i := 638) (by decide +kernel), List.mem_of_getElem? (i := 639) (by decide +kernel)⟩
theorem lw_p18 : lw_okq (⟨"NumberHeaps", "refused", "(ZZ)Z"⟩, 15) := ⟨⟨by decide +kernel, by decide +kernel⟩, List.mem_of_getElem? (i := 25) (by decide +kernel), List.mem_of_getElem? (i := 660) (by decide +kernel), List.mem_of_getElem? (i := 661) (by decide +kernel)⟩
theorem lw_p19 : lw_okq (⟨"NumberHeaps$Filling", "leastHeap", "()I"⟩, 8) := ⟨⟨by decide +kernel, by decide +kernel⟩, List.mem_of_getElem? (i := 150) (by decide +kernel), List.mem_of_getElem? (i := 668) (by decide +kernel), List.mem_of_getElem? (i := 669) (by decide +kernel)⟩
theorem lw_p20 : lw_okq (⟨"NumberHeaps$ItemRow", "insert", "(III)V"⟩, 4) := ⟨⟨by decide +kernel, by decide +kernel⟩, List.mem_of_getElem? (i := 189) (by decide +kernel), List.mem_of_getElem? (i := 706) (by decide +kernel), List.mem_of_getElem? (i := 707) (by decide +kernel)⟩
theorem lw_p21 : lw_okq (⟨"NumberHeaps$ItemRow", "goesAhead", "(III)Z"⟩, 4) := ⟨⟨by decide +kernel, by decide +kernel⟩, List.mem_of_getElem? (i := 189) (by decide +kernel), List.mem_of_getElem? (i := 713) (by decide +kernel), List.mem_of_getElem? (i := 714) (by decide +kernel)⟩
theorem lw_p22 : lw_okq (⟨"NumberHeaps$ItemRow", "mergeFirstTwo", "(III)V"⟩, 4) := ⟨⟨by decide +kernel, by decide +kernel⟩, List.mem_of_getElem? (i := 189) (by decide +kernel), List.mem_of_getElem? (i := 721) (by decide +kernel), List.mem_of_getElem? (i := 722) (by decide +kernel)⟩
theorem lw_p23 : lw_okq (⟨"NumberHeaps$Multi", "firstItemBut", "(I)I"⟩, 6) := ⟨⟨by decide +kernel, by decide +kernel⟩, List.mem_of_getElem? (i := 276) (by decide +kernel), List.mem_of_getElem? (i := 745) (by decide +kernel), List.mem_of_getElem? (i := 746) (by decide +kernel)⟩
theorem lw_p24 : lw_okq (⟨"NumberHeaps$Multi", "itemGoesAhead", "(II)Z"⟩, 6) := ⟨⟨by decide +kernel, by decide +kernel⟩, List.mem_of_getElem? (i := 276) (by decide +kernel), List.mem_of_getElem? (i := 749) (by decide +kernel), List.mem_of_getElem? (i := 750) (by decide +kernel)⟩
theorem lw_p25 : lw_okq (⟨"NumberHeaps$Multi", "width", "(I)I"⟩, 6) := ⟨⟨by decide +kernel, by decide +kernel⟩, List.mem_of_getElem? (i := 276) (by decide +kernel), List.mem_of_getElem? (i := 753) (by decide +kernel), List.mem_of_getElem? (i := 754) (by decide +kernel)⟩
theorem lw_p26 : lw_okq (⟨"NumberHeaps$Multi", "allMembers", "(I)I"⟩, 6) := ⟨⟨by decide +kernel, by decide +kernel⟩, List.mem_of_getElem? (i := 276) (by decide +kernel), List.mem_of_getElem? (i := 757) (by decide +kernel), List.mem_of_getElem? (i := 758) (by decide +kernel)⟩
theorem lw_p27 : lw_okq (⟨"NumberHeaps$Multi", "join", "(II)V"⟩, 6) := ⟨⟨by decide +kernel, by decide +kernel⟩, List.mem_of_getElem? (i := 276) (by decide +kernel), List.mem_of_getElem? (i := 762) (by decide +kernel), List.mem_of_getElem? (i := 763) (by decide +kernel)⟩
theorem lw_p28 : lw_okq (⟨"NumberHeaps$Multi", "orderParts", "([I[I)V"⟩, 6) := ⟨⟨by decide +kernel, by decide +kernel⟩, List.mem_of_getElem? (i := 276) (by decide +kernel), List.mem_of_getElem? (i := 766) (by decide +kernel), List.mem_of_getElem? (i := 767) (by decide +kernel)⟩
theorem lw_p29 : lw_okq (⟨"NumberHeaps$Search", "visit", "(I)V"⟩, 11) := ⟨⟨by decide +kernel, by decide +kernel⟩, List.mem_of_getElem? (i := 225) (by decide +kernel), List.mem_of_getElem? (i := 792) (by decide +kernel), List.mem_of_getElem? (i := 793) (by decide +kernel)⟩
theorem lw_p30 : lw_okq (⟨"NumberHeaps$Search", "takeLeaf", "(LNumberHeaps$ItemRow;I)V"⟩, 11) := ⟨⟨by decide +kernel, by decide +kernel⟩, List.mem_of_getElem? (i := 225) (by decide +kernel), List.mem_of_getElem? (i := 800) (by decide +kernel), List.mem_of_getElem? (i := 801) (by decide +kernel)⟩
theorem lw_p31 : lw_okq (⟨"NumberHeaps$Search", "visitBelow", "(IZ)V"⟩, 11) := ⟨⟨by decide +kernel, by decide +kernel⟩, List.mem_of_getElem? (i := 225) (by decide +kernel), List.mem_of_getElem? (i := 808) (by decide +kernel), List.mem_of_getElem? (i := 809) (by decide +kernel)⟩
def lw_privs_2 : List (MethodName × Nat) := [(⟨"NumberHeaps", "noText", "()Z"⟩, 15), (⟨"NumberHeaps", "noNumber", "(I)Z"⟩, 15), (⟨"NumberHeaps", "refused", "(ZZ)Z"⟩, 15), (⟨"NumberHeaps$Filling", "leastHeap", "()I"⟩, 8), (⟨"NumberHeaps$ItemRow", "insert", "(III)V"⟩, 4), (⟨"NumberHeaps$ItemRow", "goesAhead", "(III)Z"⟩, 4), (⟨"NumberHeaps$ItemRow", "mergeFirstTwo", "(III)V"⟩, 4), (⟨"NumberHeaps$Multi", "firstItemBut", "(I)I"⟩, 6), (⟨"NumberHeaps$Multi", "itemGoesAhead", "(II)Z"⟩, 6), (⟨"NumberHeaps$Multi", "width", "(I)I"⟩, 6), (⟨"NumberHeaps$Multi", "allMembers", "(I)I"⟩, 6), (⟨"NumberHeaps$Multi", "join", "(II)V"⟩, 6), (⟨"NumberHeaps$Multi", "orderParts", "([I[I)V"⟩, 6), (⟨"NumberHeaps$Search", "visit", "(I)V"⟩, 11), (⟨"NumberHeaps$Search", "takeLeaf", "(LNumberHeaps$ItemRow;I)V"⟩, 11), (⟨"NumberHeaps$Search", "visitBelow", "(IZ)V"⟩, 11)]
theorem lw_r2 : ∀ q ∈ lw_privs_2, lw_okq q := List.forall_mem_cons.mpr ⟨lw_p16, List.forall_mem_cons.mpr ⟨lw_p17, List.forall_mem_cons.mpr ⟨lw_p18, List.forall_mem_cons.mpr ⟨lw_p19, List.forall_mem_cons.mpr ⟨lw_p20, List.forall_mem_cons.mpr ⟨lw_p21, List.forall_mem_cons.mpr ⟨lw_p22, List.forall_mem_cons.mpr ⟨lw_p23, List.forall_mem_cons.mpr ⟨lw_p24, List.forall_mem_cons.mpr ⟨lw_p25, List.forall_mem_cons.mpr ⟨lw_p26, List.forall_mem_cons.mpr ⟨lw_p27, List.forall_mem_cons.mpr ⟨lw_p28, List.forall_mem_cons.mpr ⟨lw_p29, List.forall_mem_cons.mpr ⟨lw_p30, List.forall_mem_cons.mpr ⟨lw_p31, fun _ h => absurd h List.not_mem_nil⟩⟩⟩⟩⟩⟩⟩⟩⟩⟩⟩⟩⟩⟩⟩⟩
theorem lw_p32 : lw_okq (⟨"NumberHeaps", "allRows", "(I)LNumberHeaps$Partings;"⟩, 15) := ⟨⟨by decide +kernel, by decide +kernel⟩, List.mem_of_getElem? (i := 25) (by decide +kernel), List.mem_of_getElem? (i := 837) (by decide +kernel), List.mem_of_getElem? (i := 838) (by decide +kernel)⟩
theorem lw_p33 : lw_okq (⟨"NumberHeaps$Partings", "begin", "(LNumberHeaps$State;Z)V"⟩, 13) := ⟨⟨by decide +kernel, by decide +kernel⟩, List.mem_of_getElem? (i := 324) (by decide +kernel), List.mem_of_getElem? (i := 845) (by decide +kernel), List.mem_of_getElem? (i := 846) (by decide +kernel)⟩
theorem lw_p34 : lw_okq (⟨"NumberHeaps$Partings", "place", "(LNumberHeaps$State;III)V"⟩, 13) := ⟨⟨by decide +kernel, by decide +kernel⟩, List.mem_of_getElem? (i := 324) (by decide +kernel), List.mem_of_getElem? (i := 850) (by decide +kernel), List.mem_of_getElem? (i := 851) (by decide +kernel)⟩
theorem lw_p35 : lw_okq (⟨"NumberHeaps$Partings", "takeRow", "(I)V"⟩, 13) := ⟨⟨by decide +kernel, by decide +kernel⟩, List.mem_of_getElem? (i := 324) (by decide +kernel), List.mem_of_getElem? (i := 854) (by decide +kernel), List.mem_of_getElem? (i := 855) (by decide +kernel)⟩
theorem lw_p36 : lw_okq (⟨"NumberHeaps$Partings", "placeAnywhere", "(LNumberHeaps$State;III)V"⟩, 13) := ⟨⟨by decide +kernel, by decide +kernel⟩, List.mem_of_getElem? (i := 324) (by decide +kernel), List.mem_of_getElem? (i := 862) (by decide +kernel), List.mem_of_getElem? (i := 863) (by decide +kernel)⟩
theorem lw_p37 : lw_okq (⟨"NumberHeaps$Partings", "hopeful", "(I)Z"⟩, 13) := ⟨⟨by decide +kernel, by decide +kernel⟩, List.mem_of_getElem? (i := 324) (by decide +kernel), List.mem_of_getElem? (i := 866) (by decide +kernel), List.mem_of_getElem? (i := 867) (by decide +kernel)⟩
theorem lw_p38 : lw_okq (⟨"NumberHeaps$Partings", "placeInEach", "(LNumberHeaps$State;III)V"⟩, 13) := ⟨⟨by decide +kernel, by decide +kernel⟩, List.mem_of_getElem? (i := 324) (by decide +kernel), List.mem_of_getElem? (i := 871) (by decide +kernel), List.mem_of_getElem? (i := 872) (by decide +kernel)⟩
theorem lw_p39 : lw_okq (⟨"NumberHeaps$Partings", "isNameless", "(I)Z"⟩, 13) := ⟨⟨by decide +kernel, by decide +kernel⟩, List.mem_of_getElem? (i := 324) (by decide +kernel), List.mem_of_getElem? (i := 875) (by decide +kernel), List.mem_of_getElem? (i := 876) (by decide +kernel)⟩
theorem lw_p40 : lw_okq (⟨"NumberHeaps$Partings", "mayLie", "(LNumberHeaps$State;II)Z"⟩, 13) := ⟨⟨by decide +kernel, by decide +kernel⟩, List.mem_of_getElem? (i := 324) (by decide +kernel), List.mem_of_getElem? (i := 879) (by decide +kernel), List.mem_of_getElem? (i := 880) (by decide +kernel)⟩
theorem lw_p41 : lw_okq (⟨"NumberHeaps$Partings", "namelessHeaps", "()I"⟩, 13) := ⟨⟨by decide +kernel, by decide +kernel⟩, List.mem_of_getElem? (i := 324) (by decide +kernel), List.mem_of_getElem? (i := 883) (by decide +kernel), List.mem_of_getElem? (i := 884) (by decide +kernel)⟩
theorem lw_p42 : lw_okq (⟨"NumberHeaps$Filling", "tryMoves", "(LNumberHeaps$State;)V"⟩, 8) := ⟨⟨by decide +kernel, by decide +kernel⟩, List.mem_of_getElem? (i := 150) (by decide +kernel), List.mem_of_getElem? (i := 914) (by decide +kernel), List.mem_of_getElem? (i := 915) (by decide +kernel)⟩
theorem lw_p43 : lw_okq (⟨"NumberHeaps$Filling", "consider", "(IIII)V"⟩, 8) := ⟨⟨by decide +kernel, by decide +kernel⟩, List.mem_of_getElem? (i := 150) (by decide +kernel), List.mem_of_getElem? (i := 918) (by decide +kernel), List.mem_of_getElem? (i := 919) (by decide +kernel)⟩
theorem lw_p44 : lw_okq (⟨"NumberHeaps$Filling", "shift", "(III)V"⟩, 8) := ⟨⟨by decide +kernel, by decide +kernel⟩, List.mem_of_getElem? (i := 150) (by decide +kernel), List.mem_of_getElem? (i := 922) (by decide +kernel), List.mem_of_getElem? (i := 923) (by decide +kernel)⟩
theorem lw_p45 : lw_okq (⟨"NumberHeaps$Filling", "tryExchanges", "(LNumberHeaps$State;)V"⟩, 8) := ⟨⟨by decide +kernel, by decide +kernel⟩, List.mem_of_getElem? (i := 150) (by decide +kernel), List.mem_of_getElem? (i := 926) (by decide +kernel), List.mem_of_getElem? (i := 927) (by decide +kernel)⟩
theorem lw_p46 : lw_okq (⟨"NumberHeaps$Filling", "makeBest", "(LNumberHeaps$State;)V"⟩, 8) := ⟨⟨by decide +kernel, by decide +kernel⟩, List.mem_of_getElem? (i := 150) (by decide +kernel), List.mem_of_getElem? (i := 930) (by decide +kernel), List.mem_of_getElem? (i := 931) (by decide +kernel)⟩
theorem lw_p47 : lw_okq (⟨"NumberHeaps$SetSums", "mergeWith", "(I)V"⟩, 4) := ⟨⟨by decide +kernel, by decide +kernel⟩, List.mem_of_getElem? (i := 306) (by decide +kernel), List.mem_of_getElem? (i := 950) (by decide +kernel), List.mem_of_getElem? (i := 951) (by decide +kernel)⟩
def lw_privs_3 : List (MethodName × Nat) := [(⟨"NumberHeaps", "allRows", "(I)LNumberHeaps$Partings;"⟩, 15), (⟨"NumberHeaps$Partings", "begin", "(LNumberHeaps$State;Z)V"⟩, 13), (⟨"NumberHeaps$Partings", "place", "(LNumberHeaps$State;III)V"⟩, 13), (⟨"NumberHeaps$Partings", "takeRow", "(I)V"⟩, 13), (⟨"NumberHeaps$Partings", "placeAnywhere", "(LNumberHeaps$State;III)V"⟩, 13), (⟨"NumberHeaps$Partings", "hopeful", "(I)Z"⟩, 13), (⟨"NumberHeaps$Partings", "placeInEach", "(LNumberHeaps$State;III)V"⟩, 13), (⟨"NumberHeaps$Partings", "isNameless", "(I)Z"⟩, 13), (⟨"NumberHeaps$Partings", "mayLie", "(LNumberHeaps$State;II)Z"⟩, 13), (⟨"NumberHeaps$Partings", "namelessHeaps", "()I"⟩, 13), (⟨"NumberHeaps$Filling", "tryMoves", "(LNumberHeaps$State;)V"⟩, 8), (⟨"NumberHeaps$Filling", "consider", "(IIII)V"⟩, 8), (⟨"NumberHeaps$Filling", "shift", "(III)V"⟩, 8), (⟨"NumberHeaps$Filling", "tryExchanges", "(LNumberHeaps$State;)V"⟩, 8), (⟨"NumberHeaps$Filling", "makeBest", "(LNumberHeaps$State;)V"⟩, 8), (⟨"NumberHeaps$SetSums", "mergeWith", "(I)V"⟩, 4)]
theorem lw_r3 : ∀ q ∈ lw_privs_3, lw_okq q := List.forall_mem_cons.mpr ⟨lw_p32, List.forall_mem_cons.mpr ⟨lw_p33, List.forall_mem_cons.mpr ⟨lw_p34, List.forall_mem_cons.mpr ⟨lw_p35, List.forall_mem_cons.mpr ⟨lw_p36, List.forall_mem_cons.mpr ⟨lw_p37, List.forall_mem_cons.mpr ⟨lw_p38, List.forall_mem_cons.mpr ⟨lw_p39, List.forall_mem_cons.mpr ⟨lw_p40, List.forall_mem_cons.mpr ⟨lw_p41, List.forall_mem_cons.mpr ⟨lw_p42, List.forall_mem_cons.mpr ⟨lw_p43, List.forall_mem_cons.mpr ⟨lw_p44, List.forall_mem_cons.mpr ⟨lw_p45, List.forall_mem_cons.mpr ⟨lw_p46, List.forall_mem_cons.mpr ⟨lw_p47, fun _ h => absurd h List.not_mem_nil⟩⟩⟩⟩⟩⟩⟩⟩⟩⟩⟩⟩⟩⟩⟩⟩
theorem lw_p48 : lw_okq (⟨"NumberHeaps$SetSums", "firstFrom", "(I)I"⟩, 4) := ⟨⟨by decide +kernel, by decide +kernel⟩, List.mem_of_getElem? (i := 306) (by decide +kernel), List.mem_of_getElem? (i := 958) (by decide +kernel), List.mem_of_getElem? (i := 959) (by decide +kernel)⟩
theorem lw_p49 : lw_okq (⟨"NumberHeaps$SetSums", "sumAt", "(I)I"⟩, 4) := ⟨⟨by decide +kernel, by decide +kernel⟩, List.mem_of_getElem? (i := 306) (by decide +kernel), List.mem_of_getElem? (i := 962) (by decide +kernel), List.mem_of_getElem? (i := 963) (by decide +kernel)⟩
theorem lw_p50 : lw_okq (⟨"NumberHeaps", "putByte", "(I)V"⟩, 15) := ⟨⟨by decide +kernel, by decide +kernel⟩, List.mem_of_getElem? (i := 25) (by decide +kernel), List.mem_of_getElem? (i := 1062) (by decide +kernel), List.mem_of_getElem? (i := 1063) (by decide +kernel)⟩
theorem lw_p51 : lw_okq (⟨"NumberHeaps", "putHeap", "(I[I)V"⟩, 15) := ⟨⟨by decide +kernel, by decide +kernel⟩, List.mem_of_getElem? (i := 25) (by decide +kernel), List.mem_of_getElem? (i := 1066) (by decide +kernel), List.mem_of_getElem? (i := 1067) (by decide +kernel)⟩
theorem lw_p52 : lw_okq (⟨"NumberHeaps", "putNumber", "(I)V"⟩, 15) := ⟨⟨by decide +kernel, by decide +kernel⟩, List.mem_of_getElem? (i := 25) (by decide +kernel), List.mem_of_getElem? (i := 1070) (by decide +kernel), List.mem_of_getElem? (i := 1071) (by decide +kernel)⟩
theorem lw_p53 : lw_okq (⟨"java/lang/Throwable", "fillInStackTrace", "(I)Ljava/lang/Throwable;"⟩, 6) := ⟨⟨by decide +kernel, by decide +kernel⟩, List.mem_of_getElem? (i := 1126) (by decide +kernel), List.mem_of_getElem? (i := 1124) (by decide +kernel), List.mem_of_getElem? (i := 1125) (by decide +kernel)⟩
theorem lw_p54 : lw_okq (⟨"NumberHeapsModel", "refused", "(I)I"⟩, 52) := ⟨⟨by decide +kernel, by decide +kernel⟩, List.mem_of_getElem? (i := 1151) (by decide +kernel), List.mem_of_getElem? (i := 1337) (by decide +kernel), List.mem_of_getElem? (i := 1338) (by decide +kernel)⟩
theorem lw_p55 : lw_okq (⟨"NumberHeapsModel", "goOn", "()V"⟩, 52) := ⟨⟨by decide +kernel, by decide +kernel⟩, List.mem_of_getElem? (i := 1151) (by decide +kernel), List.mem_of_getElem? (i := 1341) (by decide +kernel), List.mem_of_getElem? (i := 1342) (by decide +kernel)⟩
theorem lw_p56 : lw_okq (⟨"NumberHeapsModel", "isLetterAt", "(I)Z"⟩, 52) := ⟨⟨by decide +kernel, by decide +kernel⟩, List.mem_of_getElem? (i := 1151) (by decide +kernel), List.mem_of_getElem? (i := 1345) (by decide +kernel), List.mem_of_getElem? (i := 1346) (by decide +kernel)⟩
theorem lw_p57 : lw_okq (⟨"NumberHeapsModel", "isDigitAt", "(I)Z"⟩, 52) := ⟨⟨by decide +kernel, by decide +kernel⟩, List.mem_of_getElem? (i := 1151) (by decide +kernel), List.mem_of_getElem? (i := 1351) (by decide +kernel), List.mem_of_getElem? (i := 1352) (by decide +kernel)⟩
theorem lw_p58 : lw_okq (⟨"NumberHeapsModel", "readLine", "()V"⟩, 52) := ⟨⟨by decide +kernel, by decide +kernel⟩, List.mem_of_getElem? (i := 1151) (by decide +kernel), List.mem_of_getElem? (i := 1355) (by decide +kernel), List.mem_of_getElem? (i := 1356) (by decide +kernel)⟩
theorem lw_p59 : lw_okq (⟨"NumberHeapsModel", "isWord", "(Ljava/lang/String;)Z"⟩, 52) := ⟨⟨by decide +kernel, by decide +kernel⟩, List.mem_of_getElem? (i := 1151) (by decide +kernel), List.mem_of_getElem? (i := 1360) (by decide +kernel), List.mem_of_getElem? (i := 1361) (by decide +kernel)⟩
theorem lw_p60 : lw_okq (⟨"NumberHeapsModel", "readNumbers", "()V"⟩, 52) := ⟨⟨by decide +kernel, by decide +kernel⟩, List.mem_of_getElem? (i := 1151) (by decide +kernel), List.mem_of_getElem? (i := 1369) (by decide +kernel), List.mem_of_getElem? (i := 1370) (by decide +kernel)⟩
theorem lw_p61 : lw_okq (⟨"NumberHeapsModel", "flaw", "(I)V"⟩, 52) := ⟨⟨by decide +kernel, by decide +kernel⟩, List.mem_of_getElem? (i := 1151) (by decide +kernel), List.mem_of_getElem? (i := 1373) (by decide +kernel), List.mem_of_getElem? (i := 1374) (by decide +kernel)⟩
theorem lw_p62 : lw_okq (⟨"NumberHeapsModel", "whole", "(II)I"⟩, 52) := ⟨⟨by decide +kernel, by decide +kernel⟩, List.mem_of_getElem? (i := 1151) (by decide +kernel), List.mem_of_getElem? (i := 1377) (by decide +kernel), List.mem_of_getElem? (i := 1378) (by decide +kernel)⟩
theorem lw_p63 : lw_okq (⟨"NumberHeapsModel", "isSign", "(I)Z"⟩, 52) := ⟨⟨by decide +kernel, by decide +kernel⟩, List.mem_of_getElem? (i := 1151) (by decide +kernel), List.mem_of_getElem? (i := 1381) (by decide +kernel), List.mem_of_getElem? (i := 1382) (by decide +kernel)⟩
def lw_privs_4 : List (MethodName × Nat) := [(⟨"NumberHeaps$SetSums", "firstFrom", "(I)I"⟩, 4), (⟨"NumberHeaps$SetSums", "sumAt", "(I)I"⟩, 4), (⟨"NumberHeaps", "putByte", "(I)V"⟩, 15), (⟨"NumberHeaps", "putHeap", "(I[I)V"⟩, 15), (⟨"NumberHeaps", "putNumber", "(I)V"⟩, 15), (⟨"java/lang/Throwable", "fillInStackTrace", "(I)Ljava/lang/Throwable;"⟩, 6), (⟨"NumberHeapsModel", "refused", "(I)I"⟩, 52), (⟨"NumberHeapsModel", "goOn", "()V"⟩, 52), (⟨"NumberHeapsModel", "isLetterAt", "(I)Z"⟩, 52), (⟨"NumberHeapsModel", "isDigitAt", "(I)Z"⟩, 52), (⟨"NumberHeapsModel", "readLine", "()V"⟩, 52), (⟨"NumberHeapsModel", "isWord", "(Ljava/lang/String;)Z"⟩, 52), (⟨"NumberHeapsModel", "readNumbers", "()V"⟩, 52), (⟨"NumberHeapsModel", "flaw", "(I)V"⟩, 52), (⟨"NumberHeapsModel", "whole", "(II)I"⟩, 52), (⟨"NumberHeapsModel", "isSign", "(I)Z"⟩, 52)]
theorem lw_r4 : ∀ q ∈ lw_privs_4, lw_okq q := List.forall_mem_cons.mpr ⟨lw_p48, List.forall_mem_cons.mpr ⟨lw_p49, List.forall_mem_cons.mpr ⟨lw_p50, List.forall_mem_cons.mpr ⟨lw_p51, List.forall_mem_cons.mpr ⟨lw_p52, List.forall_mem_cons.mpr ⟨lw_p53, List.forall_mem_cons.mpr ⟨lw_p54, List.forall_mem_cons.mpr ⟨lw_p55, List.forall_mem_cons.mpr ⟨lw_p56, List.forall_mem_cons.mpr ⟨lw_p57, List.forall_mem_cons.mpr ⟨lw_p58, List.forall_mem_cons.mpr ⟨lw_p59, List.forall_mem_cons.mpr ⟨lw_p60, List.forall_mem_cons.mpr ⟨lw_p61, List.forall_mem_cons.mpr ⟨lw_p62, List.forall_mem_cons.mpr ⟨lw_p63, fun _ h => absurd h List.not_mem_nil⟩⟩⟩⟩⟩⟩⟩⟩⟩⟩⟩⟩⟩⟩⟩⟩
theorem lw_p64 : lw_okq (⟨"NumberHeapsModel", "readKeep", "()V"⟩, 52) := ⟨⟨by decide +kernel, by decide +kernel⟩, List.mem_of_getElem? (i := 1151) (by decide +kernel), List.mem_of_getElem? (i := 1387) (by decide +kernel), List.mem_of_getElem? (i := 1388) (by decide +kernel)⟩
theorem lw_p65 : lw_okq (⟨"NumberHeapsModel", "readApart", "()V"⟩, 52) := ⟨⟨by decide +kernel, by decide +kernel⟩, List.mem_of_getElem? (i := 1151) (by decide +kernel), List.mem_of_getElem? (i := 1393) (by decide +kernel), List.mem_of_getElem? (i := 1394) (by decide +kernel)⟩
theorem lw_p66 : lw_okq (⟨"NumberHeapsModel", "good", "(I)I"⟩, 52) := ⟨⟨by decide +kernel, by decide +kernel⟩, List.mem_of_getElem? (i := 1151) (by decide +kernel), List.mem_of_getElem? (i := 1400) (by decide +kernel), List.mem_of_getElem? (i := 1401) (by decide +kernel)⟩
theorem lw_p67 : lw_okq (⟨"NumberHeapsModel", "total", "()I"⟩, 52) := ⟨⟨by decide +kernel, by decide +kernel⟩, List.mem_of_getElem? (i := 1151) (by decide +kernel), List.mem_of_getElem? (i := 1408) (by decide +kernel), List.mem_of_getElem? (i := 1409) (by decide +kernel)⟩
theorem lw_p68 : lw_okq (⟨"NumberHeapsModel", "value", "(I)I"⟩, 52) := ⟨⟨by decide +kernel, by decide +kernel⟩, List.mem_of_getElem? (i := 1151) (by decide +kernel), List.mem_of_getElem? (i := 1412) (by decide +kernel), List.mem_of_getElem? (i := 1413) (by decide +kernel)⟩
theorem lw_p69 : lw_okq (⟨"NumberHeapsModel", "ranked", "(I)I"⟩, 52) := ⟨⟨by decide +kernel, by decide +kernel⟩, List.mem_of_getElem? (i := 1151) (by decide +kernel), List.mem_of_getElem? (i := 1416) (by decide +kernel), List.mem_of_getElem? (i := 1417) (by decide +kernel)⟩
theorem lw_p70 : lw_okq (⟨"NumberHeapsModel", "rank", "(I)I"⟩, 52) := ⟨⟨by decide +kernel, by decide +kernel⟩, List.mem_of_getElem? (i := 1151) (by decide +kernel), List.mem_of_getElem? (i := 1420) (by decide +kernel), List.mem_of_getElem? (i := 1421) (by decide +kernel)⟩
theorem lw_p71 : lw_okq (⟨"NumberHeapsModel", "isNumber", "(I)Z"⟩, 52) := ⟨⟨by decide +kernel, by decide +kernel⟩, List.mem_of_getElem? (i := 1151) (by decide +kernel), List.mem_of_getElem? (i := 1428) (by decide +kernel), List.mem_of_getElem? (i := 1429) (by decide +kernel)⟩
theorem lw_p72 : lw_okq (⟨"NumberHeapsModel", "apartFrom", "(I)I"⟩, 52) := ⟨⟨by decide +kernel, by decide +kernel⟩, List.mem_of_getElem? (i := 1151) (by decide +kernel), List.mem_of_getElem? (i := 1432) (by decide +kernel), List.mem_of_getElem? (i := 1433) (by decide +kernel)⟩
theorem lw_p73 : lw_okq (⟨"NumberHeapsModel", "fills", "(I)V"⟩, 52) := ⟨⟨by decide +kernel, by decide +kernel⟩, List.mem_of_getElem? (i := 1151) (by decide +kernel), List.mem_of_getElem? (i := 1447) (by decide +kernel), List.mem_of_getElem? (i := 1448) (by decide +kernel)⟩
theorem lw_p74 : lw_okq (⟨"NumberHeapsModel", "spread", "(I)I"⟩, 52) := ⟨⟨by decide +kernel, by decide +kernel⟩, List.mem_of_getElem? (i := 1151) (by decide +kernel), List.mem_of_getElem? (i := 1451) (by decide +kernel), List.mem_of_getElem? (i := 1452) (by decide +kernel)⟩
theorem lw_p75 : lw_okq (⟨"NumberHeapsModel", "top", "(I)I"⟩, 52) := ⟨⟨by decide +kernel, by decide +kernel⟩, List.mem_of_getElem? (i := 1151) (by decide +kernel), List.mem_of_getElem? (i := 1455) (by decide +kernel), List.mem_of_getElem? (i := 1456) (by decide +kernel)⟩
theorem lw_p76 : lw_okq (⟨"NumberHeapsModel", "differs", "()I"⟩, 52) := ⟨⟨by decide +kernel, by decide +kernel⟩, List.mem_of_getElem? (i := 1151) (by decide +kernel), List.mem_of_getElem? (i := 1467) (by decide +kernel), List.mem_of_getElem? (i := 1468) (by decide +kernel)⟩
theorem lw_p77 : lw_okq (⟨"NumberHeapsModel", "begins", "()V"⟩, 52) := ⟨⟨by decide +kernel, by decide +kernel⟩, List.mem_of_getElem? (i := 1151) (by decide +kernel), List.mem_of_getElem? (i := 1471) (by decide +kernel), List.mem_of_getElem? (i := 1472) (by decide +kernel)⟩
theorem lw_p78 : lw_okq (⟨"NumberHeapsModel", "comes", "(IIII)V"⟩, 52) := ⟨⟨by decide +kernel, by decide +kernel⟩, List.mem_of_getElem? (i := 1151) (by decide +kernel), List.mem_of_getElem? (i := 1475) (by decide +kernel), List.mem_of_getElem? (i := 1476) (by decide +kernel)⟩
theorem lw_p79 : lw_okq (⟨"NumberHeapsModel", "isAhead", "(III)Z"⟩, 52) := ⟨⟨by decide +kernel, by decide +kernel⟩, List.mem_of_getElem? (i := 1151) (by decide +kernel), List.mem_of_getElem? (i := 1479) (by decide +kernel), List.mem_of_getElem? (i := 1480) (by decide +kernel)⟩
def lw_privs_5 : List (MethodName × Nat) := [(⟨"NumberHeapsModel", "readKeep", "()V"⟩, 52), (⟨"NumberHeapsModel", "readApart", "()V"⟩, 52), (⟨"NumberHeapsModel", "good", "(I)I"⟩, 52), (⟨"NumberHeapsModel", "total", "()I"⟩, 52), (⟨"NumberHeapsModel", "value", "(I)I"⟩, 52), (⟨"NumberHeapsModel", "ranked", "(I)I"⟩, 52), (⟨"NumberHeapsModel", "rank", "(I)I"⟩, 52), (⟨"NumberHeapsModel", "isNumber", "(I)Z"⟩, 52), (⟨"NumberHeapsModel", "apartFrom", "(I)I"⟩, 52), (⟨"NumberHeapsModel", "fills", "(I)V"⟩, 52), (⟨"NumberHeapsModel", "spread", "(I)I"⟩, 52), (⟨"NumberHeapsModel", "top", "(I)I"⟩, 52), (⟨"NumberHeapsModel", "differs", "()I"⟩, 52), (⟨"NumberHeapsModel", "begins", "()V"⟩, 52), (⟨"NumberHeapsModel", "comes", "(IIII)V"⟩, 52), (⟨"NumberHeapsModel", "isAhead", "(III)Z"⟩, 52)]
theorem lw_r5 : ∀ q ∈ lw_privs_5, lw_okq q := List.forall_mem_cons.mpr ⟨lw_p64, List.forall_mem_cons.mpr ⟨lw_p65, List.forall_mem_cons.mpr ⟨lw_p66, List.forall_mem_cons.mpr ⟨lw_p67, List.forall_mem_cons.mpr ⟨lw_p68, List.forall_mem_cons.mpr ⟨lw_p69, List.forall_mem_cons.mpr ⟨lw_p70, List.forall_mem_cons.mpr ⟨lw_p71, List.forall_mem_cons.mpr ⟨lw_p72, List.forall_mem_cons.mpr ⟨lw_p73, List.forall_mem_cons.mpr ⟨lw_p74, List.forall_mem_cons.mpr ⟨lw_p75, List.forall_mem_cons.mpr ⟨lw_p76, List.forall_mem_cons.mpr ⟨lw_p77, List.forall_mem_cons.mpr ⟨lw_p78, List.forall_mem_cons.mpr ⟨lw_p79, fun _ h => absurd h List.not_mem_nil⟩⟩⟩⟩⟩⟩⟩⟩⟩⟩⟩⟩⟩⟩⟩⟩
theorem lw_p80 : lw_okq (⟨"NumberHeapsModel", "joins", "(IZ)V"⟩, 52) := ⟨⟨by decide +kernel, by decide +kernel⟩, List.mem_of_getElem? (i := 1151) (by decide +kernel), List.mem_of_getElem? (i := 1489) (by decide +kernel), List.mem_of_getElem? (i := 1490) (by decide +kernel)⟩
theorem lw_p81 : lw_okq (⟨"NumberHeapsModel", "searches", "()V"⟩, 52) := ⟨⟨by decide +kernel, by decide +kernel⟩, List.mem_of_getElem? (i := 1151) (by decide +kernel), List.mem_of_getElem? (i := 1508) (by decide +kernel), List.mem_of_getElem? (i := 1509) (by decide +kernel)⟩
theorem lw_p82 : lw_okq (⟨"NumberHeapsModel", "visits", "(I)V"⟩, 52) := ⟨⟨by decide +kernel, by decide +kernel⟩, List.mem_of_getElem? (i := 1151) (by decide +kernel), List.mem_of_getElem? (i := 1512) (by decide +kernel), List.mem_of_getElem? (i := 1513) (by decide +kernel)⟩
theorem lw_p83 : lw_okq (⟨"NumberHeapsModel", "leaf", "(II)V"⟩, 52) := ⟨⟨by decide +kernel, by decide +kernel⟩, List.mem_of_getElem? (i := 1151) (by decide +kernel), List.mem_of_getElem? (i := 1516) (by decide +kernel), List.mem_of_getElem? (i := 1517) (by decide +kernel)⟩
theorem lw_p84 : lw_okq (⟨"NumberHeapsModel", "multiplies", "(I)V"⟩, 52) := ⟨⟨by decide +kernel, by decide +kernel⟩, List.mem_of_getElem? (i := 1151) (by decide +kernel), List.mem_of_getElem? (i := 1532) (by decide +kernel), List.mem_of_getElem? (i := 1533) (by decide +kernel)⟩
theorem lw_p85 : lw_okq (⟨"NumberHeapsModel", "places", "(I)V"⟩, 52) := ⟨⟨by decide +kernel, by decide +kernel⟩, List.mem_of_getElem? (i := 1151) (by decide +kernel), List.mem_of_getElem? (i := 1536) (by decide +kernel), List.mem_of_getElem? (i := 1537) (by decide +kernel)⟩
theorem lw_p86 : lw_okq (⟨"NumberHeapsModel", "isBefore", "(II)Z"⟩, 52) := ⟨⟨by decide +kernel, by decide +kernel⟩, List.mem_of_getElem? (i := 1151) (by decide +kernel), List.mem_of_getElem? (i := 1540) (by decide +kernel), List.mem_of_getElem? (i := 1541) (by decide +kernel)⟩
theorem lw_p87 : lw_okq (⟨"NumberHeapsModel", "width", "(II)I"⟩, 52) := ⟨⟨by decide +kernel, by decide +kernel⟩, List.mem_of_getElem? (i := 1151) (by decide +kernel), List.mem_of_getElem? (i := 1544) (by decide +kernel), List.mem_of_getElem? (i := 1545) (by decide +kernel)⟩
theorem lw_p88 : lw_okq (⟨"NumberHeapsModel", "setOf", "(I)I"⟩, 52) := ⟨⟨by decide +kernel, by decide +kernel⟩, List.mem_of_getElem? (i := 1151) (by decide +kernel), List.mem_of_getElem? (i := 1548) (by decide +kernel), List.mem_of_getElem? (i := 1549) (by decide +kernel)⟩
theorem lw_p89 : lw_okq (⟨"NumberHeapsModel", "areRows", "(I)Z"⟩, 52) := ⟨⟨by decide +kernel, by decide +kernel⟩, List.mem_of_getElem? (i := 1151) (by decide +kernel), List.mem_of_getElem? (i := 1564) (by decide +kernel), List.mem_of_getElem? (i := 1565) (by decide +kernel)⟩
theorem lw_p90 : lw_okq (⟨"NumberHeapsModel", "goes", "(II)V"⟩, 52) := ⟨⟨by decide +kernel, by decide +kernel⟩, List.mem_of_getElem? (i := 1151) (by decide +kernel), List.mem_of_getElem? (i := 1568) (by decide +kernel), List.mem_of_getElem? (i := 1569) (by decide +kernel)⟩
theorem lw_p91 : lw_okq (⟨"NumberHeapsModel", "mayLie", "(II)Z"⟩, 52) := ⟨⟨by decide +kernel, by decide +kernel⟩, List.mem_of_getElem? (i := 1151) (by decide +kernel), List.mem_of_getElem? (i := 1572) (by decide +kernel), List.mem_of_getElem? (i := 1573) (by decide +kernel)⟩
theorem lw_p92 : lw_okq (⟨"NumberHeapsModel", "climbsAll", "(I)I"⟩, 52) := ⟨⟨by decide +kernel, by decide +kernel⟩, List.mem_of_getElem? (i := 1151) (by decide +kernel), List.mem_of_getElem? (i := 1592) (by decide +kernel), List.mem_of_getElem? (i := 1593) (by decide +kernel)⟩
theorem lw_p93 : lw_okq (⟨"NumberHeapsModel", "climbs", "(I)Z"⟩, 52) := ⟨⟨by decide +kernel, by decide +kernel⟩, List.mem_of_getElem? (i := 1151) (by decide +kernel), List.mem_of_getElem? (i := 1596) (by decide +kernel), List.mem_of_getElem? (i := 1597) (by decide +kernel)⟩
theorem lw_p94 : lw_okq (⟨"NumberHeapsModel", "spreadNow", "(I)I"⟩, 52) := ⟨⟨by decide +kernel, by decide +kernel⟩, List.mem_of_getElem? (i := 1151) (by decide +kernel), List.mem_of_getElem? (i := 1600) (by decide +kernel), List.mem_of_getElem? (i := 1601) (by decide +kernel)⟩
theorem lw_p95 : lw_okq (⟨"NumberHeapsModel", "sums0", "(I)V"⟩, 52) := ⟨⟨by decide +kernel, by decide +kernel⟩, List.mem_of_getElem? (i := 1151) (by decide +kernel), List.mem_of_getElem? (i := 1604) (by decide +kernel), List.mem_of_getElem? (i := 1605) (by decide +kernel)⟩
def lw_privs_6 : List (MethodName × Nat) := [(⟨"NumberHeapsModel", "joins", "(IZ)V"⟩, 52), (⟨"NumberHeapsModel", "searches", "()V"⟩, 52), (⟨"NumberHeapsModel", "visits", "(I)V"⟩, 52), (⟨"NumberHeapsModel", "leaf", "(II)V"⟩, 52), (⟨"NumberHeapsModel", "multiplies", "(I)V"⟩, 52), (⟨"NumberHeapsModel", "places", "(I)V"⟩, 52), (⟨"NumberHeapsModel", "isBefore", "(II)Z"⟩, 52), (⟨"NumberHeapsModel", "width", "(II)I"⟩, 52), (⟨"NumberHeapsModel", "setOf", "(I)I"⟩, 52), (⟨"NumberHeapsModel", "areRows", "(I)Z"⟩, 52), (⟨"NumberHeapsModel", "goes", "(II)V"⟩, 52), (⟨"NumberHeapsModel", "mayLie", "(II)Z"⟩, 52), (⟨"NumberHeapsModel", "climbsAll", "(I)I"⟩, 52), (⟨"NumberHeapsModel", "climbs", "(I)Z"⟩, 52), (⟨"NumberHeapsModel", "spreadNow", "(I)I"⟩, 52), (⟨"NumberHeapsModel", "sums0", "(I)V"⟩, 52)]
theorem lw_r6 : ∀ q ∈ lw_privs_6, lw_okq q := List.forall_mem_cons.mpr ⟨lw_p80, List.forall_mem_cons.mpr ⟨lw_p81, List.forall_mem_cons.mpr ⟨lw_p82, List.forall_mem_cons.mpr ⟨lw_p83, List.forall_mem_cons.mpr ⟨lw_p84, List.forall_mem_cons.mpr ⟨lw_p85, List.forall_mem_cons.mpr ⟨lw_p86, List.forall_mem_cons.mpr ⟨lw_p87, List.forall_mem_cons.mpr ⟨lw_p88, List.forall_mem_cons.mpr ⟨lw_p89, List.forall_mem_cons.mpr ⟨lw_p90, List.forall_mem_cons.mpr ⟨lw_p91, List.forall_mem_cons.mpr ⟨lw_p92, List.forall_mem_cons.mpr ⟨lw_p93, List.forall_mem_cons.mpr ⟨lw_p94, List.forall_mem_cons.mpr ⟨lw_p95, fun _ h => absurd h List.not_mem_nil⟩⟩⟩⟩⟩⟩⟩⟩⟩⟩⟩⟩⟩⟩⟩⟩
theorem lw_p96 : lw_okq (⟨"NumberHeapsModel", "exchanges", "(II)V"⟩, 52) := ⟨⟨by decide +kernel, by decide +kernel⟩, List.mem_of_getElem? (i := 1151) (by decide +kernel), List.mem_of_getElem? (i := 1608) (by decide +kernel), List.mem_of_getElem? (i := 1609) (by decide +kernel)⟩
theorem lw_p97 : lw_okq (⟨"NumberHeapsModel", "laysSums", "()I"⟩, 52) := ⟨⟨by decide +kernel, by decide +kernel⟩, List.mem_of_getElem? (i := 1151) (by decide +kernel), List.mem_of_getElem? (i := 1624) (by decide +kernel), List.mem_of_getElem? (i := 1625) (by decide +kernel)⟩
theorem lw_p98 : lw_okq (⟨"NumberHeapsModel", "isNew", "(I)Z"⟩, 52) := ⟨⟨by decide +kernel, by decide +kernel⟩, List.mem_of_getElem? (i := 1151) (by decide +kernel), List.mem_of_getElem? (i := 1639) (by decide +kernel), List.mem_of_getElem? (i := 1640) (by decide +kernel)⟩
theorem lw_p99 : lw_okq (⟨"NumberHeapsModel", "remembers", "()V"⟩, 52) := ⟨⟨by decide +kernel, by decide +kernel⟩, List.mem_of_getElem? (i := 1151) (by decide +kernel), List.mem_of_getElem? (i := 1651) (by decide +kernel), List.mem_of_getElem? (i := 1652) (by decide +kernel)⟩
theorem lw_p100 : lw_okq (⟨"NumberHeapsModel", "parts", "(I)V"⟩, 52) := ⟨⟨by decide +kernel, by decide +kernel⟩, List.mem_of_getElem? (i := 1151) (by decide +kernel), List.mem_of_getElem? (i := 1659) (by decide +kernel), List.mem_of_getElem? (i := 1660) (by decide +kernel)⟩
theorem lw_p101 : lw_okq (⟨"NumberHeapsModel", "changes", "(II)I"⟩, 52) := ⟨⟨by decide +kernel, by decide +kernel⟩, List.mem_of_getElem? (i := 1151) (by decide +kernel), List.mem_of_getElem? (i := 1667) (by decide +kernel), List.mem_of_getElem? (i := 1668) (by decide +kernel)⟩
theorem lw_p102 : lw_okq (⟨"NumberHeapsModel", "granted", "(I)Z"⟩, 52) := ⟨⟨by decide +kernel, by decide +kernel⟩, List.mem_of_getElem? (i := 1151) (by decide +kernel), List.mem_of_getElem? (i := 1695) (by decide +kernel), List.mem_of_getElem? (i := 1696) (by decide +kernel)⟩
theorem lw_p103 : lw_okq (⟨"NumberHeapsModel", "writes", "(I)V"⟩, 52) := ⟨⟨by decide +kernel, by decide +kernel⟩, List.mem_of_getElem? (i := 1151) (by decide +kernel), List.mem_of_getElem? (i := 1707) (by decide +kernel), List.mem_of_getElem? (i := 1708) (by decide +kernel)⟩
theorem lw_p104 : lw_okq (⟨"NumberHeapsModel", "writesNumber", "(I)V"⟩, 52) := ⟨⟨by decide +kernel, by decide +kernel⟩, List.mem_of_getElem? (i := 1151) (by decide +kernel), List.mem_of_getElem? (i := 1711) (by decide +kernel), List.mem_of_getElem? (i := 1712) (by decide +kernel)⟩
def lw_privs_7 : List (MethodName × Nat) := [(⟨"NumberHeapsModel", "exchanges", "(II)V"⟩, 52), (⟨"NumberHeapsModel", "laysSums", "()I"⟩, 52), (⟨"NumberHeapsModel", "isNew", "(I)Z"⟩, 52), (⟨"NumberHeapsModel", "remembers", "()V"⟩, 52), (⟨"NumberHeapsModel", "parts", "(I)V"⟩, 52), (⟨"NumberHeapsModel", "changes", "(II)I"⟩, 52), (⟨"NumberHeapsModel", "granted", "(I)Z"⟩, 52), (⟨"NumberHeapsModel", "writes", "(I)V"⟩, 52), (⟨"NumberHeapsModel", "writesNumber", "(I)V"⟩, 52)]
theorem lw_r7 : ∀ q ∈ lw_privs_7, lw_okq q := List.forall_mem_cons.mpr ⟨lw_p96, List.forall_mem_cons.mpr ⟨lw_p97, List.forall_mem_cons.mpr ⟨lw_p98, List.forall_mem_cons.mpr ⟨lw_p99, List.forall_mem_cons.mpr ⟨lw_p100, List.forall_mem_cons.mpr ⟨lw_p101, List.forall_mem_cons.mpr ⟨lw_p102, List.forall_mem_cons.mpr ⟨lw_p103, List.forall_mem_cons.mpr ⟨lw_p104, fun _ h => absurd h List.not_mem_nil⟩⟩⟩⟩⟩⟩⟩⟩⟩
def lw_privs : List (MethodName × Nat) := lw_privs_1 ++ (lw_privs_2 ++ (lw_privs_3 ++ (lw_privs_4 ++ (lw_privs_5 ++ (lw_privs_6 ++ (lw_privs_7))))))
def lw_tbl : List Cond := k2_sels lw_privs ++ tables_1
theorem lw_privs_ok : ∀ q ∈ lw_privs, lw_okq q := by
  show ∀ q ∈ lw_privs_1 ++ (lw_privs_2 ++ (lw_privs_3 ++ (lw_privs_4 ++ (lw_privs_5 ++ (lw_privs_6 ++ (lw_privs_7)))))), lw_okq q
  exact List.forall_mem_append.mpr ⟨lw_r1, List.forall_mem_append.mpr ⟨lw_r2, List.forall_mem_append.mpr ⟨lw_r3, List.forall_mem_append.mpr ⟨lw_r4, List.forall_mem_append.mpr ⟨lw_r5, List.forall_mem_append.mpr ⟨lw_r6, lw_r7⟩⟩⟩⟩⟩⟩

def RX0 : String := "NumberHeaps$Differencing"
def TX0 : u_T := fun k => match k with
  | 0 => ("NumberHeaps$Differencing", "row", "LNumberHeaps$ItemRow;", true)
  | 1 => ("NumberHeaps$Differencing", "greater", "[I", true)
  | _ => ("NumberHeaps$Differencing", "lesser", "[I", true)
def tyX0 : Nat → FieldType := fun k => match k with
  | 0 => .object "NumberHeaps$ItemRow"
  | 1 => .array .int
  | _ => .array .int
abbrev wsX00 : List Cond := u_ws RX0 TX0 3
theorem nmX0 : ∀ a, a < 3 → ∀ b, b < 3 → a ≠ b → (TX0 a).2.1 ≠ (TX0 b).2.1 := by decide +kernel
theorem tyX0_ok : ∀ k, k < 3 → parseFieldDescriptor (TX0 k).2.2.1 = some (tyX0 k) := by decide +kernel
abbrev cX0_init : ByteArray := prog_2_method_1_code
def yX0_init : MethodName := ⟨RX0, "<init>", "()V"⟩
abbrev cX0_run : ByteArray := prog_2_method_2_code
def yX0_run : MethodName := ⟨RX0, "run", "(LNumberHeaps$State;)V"⟩
def RX1 : String := "NumberHeaps$Filling"
def TX1 : u_T := fun k => match k with
  | 0 => ("NumberHeaps$Filling", "heapOf", "[I", true)
  | 1 => ("NumberHeaps$Filling", "changes", "I", false)
  | 2 => ("NumberHeaps$Filling", "heapSums", "[I", true)
  | 3 => ("NumberHeaps$Filling", "k", "I", false)
  | 4 => ("NumberHeaps$Filling", "bestSpread", "I", false)
  | 5 => ("NumberHeaps$Filling", "bestNumber", "I", false)
  | 6 => ("NumberHeaps$Filling", "bestHeap", "I", false)
  | _ => ("NumberHeaps$Filling", "bestOther", "I", false)
def tyX1 : Nat → FieldType := fun k => match k with
  | 0 => .array .int
  | 1 => .int
  | 2 => .array .int
  | 3 => .int
  | 4 => .int
  | 5 => .int
  | 6 => .int
  | _ => .int
abbrev wsX10 : List Cond := u_ws RX1 TX1 8
theorem nmX1 : ∀ a, a < 8 → ∀ b, b < 8 → a ≠ b → (TX1 a).2.1 ≠ (TX1 b).2.1 := by decide +kernel
theorem tyX1_ok : ∀ k, k < 8 → parseFieldDescriptor (TX1 k).2.2.1 = some (tyX1 k) := by decide +kernel
abbrev cX1_init : ByteArray := prog_3_method_1_code
def yX1_init : MethodName := ⟨RX1, "<init>", "()V"⟩
abbrev cX1_fillBySize : ByteArray := prog_3_method_2_code
def yX1_fillBySize : MethodName := ⟨RX1, "fillBySize", "(LNumberHeaps$State;I)V"⟩
abbrev cX1_leastHeap : ByteArray := prog_3_method_3_code
def yX1_leastHeap : MethodName := ⟨RX1, "leastHeap", "()I"⟩
abbrev cX1_greatest : ByteArray := prog_3_method_4_code
def yX1_greatest : MethodName := ⟨RX1, "greatest", "()I"⟩
abbrev cX1_spread : ByteArray := prog_3_method_5_code
def yX1_spread : MethodName := ⟨RX1, "spread", "()I"⟩
abbrev cX1_improve : ByteArray := prog_3_method_6_code
def yX1_improve : MethodName := ⟨RX1, "improve", "(LNumberHeaps$State;I)V"⟩
abbrev cX1_tryMoves : ByteArray := prog_3_method_7_code
def yX1_tryMoves : MethodName := ⟨RX1, "tryMoves", "(LNumberHeaps$State;)V"⟩
abbrev cX1_tryExchanges : ByteArray := prog_3_method_8_code
def yX1_tryExchanges : MethodName := ⟨RX1, "tryExchanges", "(LNumberHeaps$State;)V"⟩
abbrev cX1_consider : ByteArray := prog_3_method_9_code
def yX1_consider : MethodName := ⟨RX1, "consider", "(IIII)V"⟩
abbrev cX1_shift : ByteArray := prog_3_method_10_code
def yX1_shift : MethodName := ⟨RX1, "shift", "(III)V"⟩
abbrev cX1_makeBest : ByteArray := prog_3_method_11_code
def yX1_makeBest : MethodName := ⟨RX1, "makeBest", "(LNumberHeaps$State;)V"⟩
def RX2 : String := "NumberHeaps$History"
def TX2 : u_T := fun k => match k with
  | 0 => ("NumberHeaps$History", "past", "[LNumberHeaps$State;", true)
  | 1 => ("NumberHeaps$History", "next", "I", false)
  | 2 => ("NumberHeaps$History", "acts", "I", false)
  | _ => ("NumberHeaps$History", "images", "[LNumberHeaps$State;", true)
def tyX2 : Nat → FieldType := fun k => match k with
  | 0 => .array (.object "NumberHeaps$State")
  | 1 => .int
  | 2 => .int
  | _ => .array (.object "NumberHeaps$State")
abbrev wsX20 : List Cond := u_ws RX2 TX2 4
theorem nmX2 : ∀ a, a < 4 → ∀ b, b < 4 → a ≠ b → (TX2 a).2.1 ≠ (TX2 b).2.1 := by decide +kernel
theorem tyX2_ok : ∀ k, k < 4 → parseFieldDescriptor (TX2 k).2.2.1 = some (tyX2 k) := by decide +kernel
abbrev cX2_init : ByteArray := prog_4_method_1_code
def yX2_init : MethodName := ⟨RX2, "<init>", "()V"⟩
abbrev cX2_keepAct : ByteArray := prog_4_method_2_code
def yX2_keepAct : MethodName := ⟨RX2, "keepAct", "(LNumberHeaps$State;)LNumberHeaps$State;"⟩
abbrev cX2_takeBack : ByteArray := prog_4_method_3_code
def yX2_takeBack : MethodName := ⟨RX2, "takeBack", "(LNumberHeaps$State;)V"⟩
abbrev cX2_forgetActs : ByteArray := prog_4_method_4_code
def yX2_forgetActs : MethodName := ⟨RX2, "forgetActs", "()V"⟩
abbrev cX2_forgetImages : ByteArray := prog_4_method_5_code
def yX2_forgetImages : MethodName := ⟨RX2, "forgetImages", "()V"⟩
def RX3 : String := "NumberHeaps$ItemRow"
def TX3 : u_T := fun k => match k with
  | 0 => ("NumberHeaps$ItemRow", "count", "I", false)
  | 1 => ("NumberHeaps$ItemRow", "values", "[I", true)
  | 2 => ("NumberHeaps$ItemRow", "firsts", "[I", true)
  | _ => ("NumberHeaps$ItemRow", "seconds", "[I", true)
def tyX3 : Nat → FieldType := fun k => match k with
  | 0 => .int
  | 1 => .array .int
  | 2 => .array .int
  | _ => .array .int
abbrev wsX30 : List Cond := u_ws RX3 TX3 4
theorem nmX3 : ∀ a, a < 4 → ∀ b, b < 4 → a ≠ b → (TX3 a).2.1 ≠ (TX3 b).2.1 := by decide +kernel
theorem tyX3_ok : ∀ k, k < 4 → parseFieldDescriptor (TX3 k).2.2.1 = some (tyX3 k) := by decide +kernel
abbrev cX3_init : ByteArray := prog_5_method_1_code
def yX3_init : MethodName := ⟨RX3, "<init>", "()V"⟩
abbrev cX3_takeNumbers : ByteArray := prog_5_method_2_code
def yX3_takeNumbers : MethodName := ⟨RX3, "takeNumbers", "(LNumberHeaps$State;)V"⟩
abbrev cX3_copyFrom : ByteArray := prog_5_method_3_code
def yX3_copyFrom : MethodName := ⟨RX3, "copyFrom", "(LNumberHeaps$ItemRow;)V"⟩
abbrev cX3_differenceFirstTwo : ByteArray := prog_5_method_4_code
def yX3_differenceFirstTwo : MethodName := ⟨RX3, "differenceFirstTwo", "()V"⟩
abbrev cX3_addFirstTwo : ByteArray := prog_5_method_5_code
def yX3_addFirstTwo : MethodName := ⟨RX3, "addFirstTwo", "()V"⟩
abbrev cX3_mergeFirstTwo : ByteArray := prog_5_method_6_code
def yX3_mergeFirstTwo : MethodName := ⟨RX3, "mergeFirstTwo", "(III)V"⟩
abbrev cX3_insert : ByteArray := prog_5_method_7_code
def yX3_insert : MethodName := ⟨RX3, "insert", "(III)V"⟩
abbrev cX3_goesAhead : ByteArray := prog_5_method_8_code
def yX3_goesAhead : MethodName := ⟨RX3, "goesAhead", "(III)Z"⟩
abbrev cX3_firstLessOthers : ByteArray := prog_5_method_9_code
def yX3_firstLessOthers : MethodName := ⟨RX3, "firstLessOthers", "()I"⟩
abbrev cX3_leafFirstSide : ByteArray := prog_5_method_10_code
def yX3_leafFirstSide : MethodName := ⟨RX3, "leafFirstSide", "()I"⟩
def RX4 : String := "NumberHeaps$Multi"
def TX4 : u_T := fun k => match k with
  | 0 => ("NumberHeaps$Multi", "values", "[[I", true)
  | 1 => ("NumberHeaps$Multi", "members", "[[I", true)
  | 2 => ("NumberHeaps$Multi", "gone", "[Z", true)
  | 3 => ("NumberHeaps$Multi", "items", "I", false)
  | 4 => ("NumberHeaps$Multi", "k", "I", false)
  | _ => ("NumberHeaps$Multi", "last", "I", false)
def tyX4 : Nat → FieldType := fun k => match k with
  | 0 => .array (.array .int)
  | 1 => .array (.array .int)
  | 2 => .array .boolean
  | 3 => .int
  | 4 => .int
  | _ => .int
abbrev wsX40 : List Cond := u_ws RX4 TX4 6
theorem nmX4 : ∀ a, a < 6 → ∀ b, b < 6 → a ≠ b → (TX4 a).2.1 ≠ (TX4 b).2.1 := by decide +kernel
theorem tyX4_ok : ∀ k, k < 6 → parseFieldDescriptor (TX4 k).2.2.1 = some (tyX4 k) := by decide +kernel
abbrev cX4_init : ByteArray := prog_6_method_1_code
def yX4_init : MethodName := ⟨RX4, "<init>", "()V"⟩
abbrev cX4_run : ByteArray := prog_6_method_2_code
def yX4_run : MethodName := ⟨RX4, "run", "(LNumberHeaps$State;I)V"⟩
abbrev cX4_lastWidth : ByteArray := prog_6_method_3_code
def yX4_lastWidth : MethodName := ⟨RX4, "lastWidth", "()I"⟩
abbrev cX4_heapOf : ByteArray := prog_6_method_4_code
def yX4_heapOf : MethodName := ⟨RX4, "heapOf", "(I)I"⟩
abbrev cX4_firstItemBut : ByteArray := prog_6_method_5_code
def yX4_firstItemBut : MethodName := ⟨RX4, "firstItemBut", "(I)I"⟩
abbrev cX4_itemGoesAhead : ByteArray := prog_6_method_6_code
def yX4_itemGoesAhead : MethodName := ⟨RX4, "itemGoesAhead", "(II)Z"⟩
abbrev cX4_width : ByteArray := prog_6_method_7_code
def yX4_width : MethodName := ⟨RX4, "width", "(I)I"⟩
abbrev cX4_allMembers : ByteArray := prog_6_method_8_code
def yX4_allMembers : MethodName := ⟨RX4, "allMembers", "(I)I"⟩
abbrev cX4_join : ByteArray := prog_6_method_9_code
def yX4_join : MethodName := ⟨RX4, "join", "(II)V"⟩
abbrev cX4_orderParts : ByteArray := prog_6_method_10_code
def yX4_orderParts : MethodName := ⟨RX4, "orderParts", "([I[I)V"⟩
def RX5 : String := "NumberHeaps$Partings"
def TX5 : u_T := fun k => match k with
  | 0 => ("NumberHeaps$Partings", "spread", "I", false)
  | 1 => ("NumberHeaps$Partings", "times", "I", false)
  | 2 => ("NumberHeaps$Partings", "flattest", "I", false)
  | 3 => ("NumberHeaps$Partings", "theRow", "[I", true)
  | 4 => ("NumberHeaps$Partings", "k", "I", true)
  | 5 => ("NumberHeaps$Partings", "row", "[I", true)
  | 6 => ("NumberHeaps$Partings", "heapSums", "[I", true)
  | 7 => ("NumberHeaps$Partings", "members", "[I", true)
  | 8 => ("NumberHeaps$Partings", "named", "I", false)
  | 9 => ("NumberHeaps$Partings", "total", "I", false)
  | 10 => ("NumberHeaps$Partings", "counting", "Z", false)
  | 11 => ("NumberHeaps$Partings", "allowed", "I", false)
  | _ => ("NumberHeaps$Partings", "madeFor", "I", false)
def tyX5 : Nat → FieldType := fun k => match k with
  | 0 => .int
  | 1 => .int
  | 2 => .int
  | 3 => .array .int
  | 4 => .int
  | 5 => .array .int
  | 6 => .array .int
  | 7 => .array .int
  | 8 => .int
  | 9 => .int
  | 10 => .boolean
  | 11 => .int
  | _ => .int
abbrev wsX50 : List Cond := u_ws RX5 TX5 13
theorem nmX5 : ∀ a, a < 13 → ∀ b, b < 13 → a ≠ b → (TX5 a).2.1 ≠ (TX5 b).2.1 := by decide +kernel
theorem tyX5_ok : ∀ k, k < 13 → parseFieldDescriptor (TX5 k).2.2.1 = some (tyX5 k) := by decide +kernel
abbrev cX5_init : ByteArray := prog_7_method_1_code
def yX5_init : MethodName := ⟨RX5, "<init>", "(I)V"⟩
abbrev cX5_findLeast : ByteArray := prog_7_method_2_code
def yX5_findLeast : MethodName := ⟨RX5, "findLeast", "(LNumberHeaps$State;I)Z"⟩
abbrev cX5_countAllowed : ByteArray := prog_7_method_3_code
def yX5_countAllowed : MethodName := ⟨RX5, "countAllowed", "(LNumberHeaps$State;)I"⟩
abbrev cX5_begin : ByteArray := prog_7_method_4_code
def yX5_begin : MethodName := ⟨RX5, "begin", "(LNumberHeaps$State;Z)V"⟩
abbrev cX5_place : ByteArray := prog_7_method_5_code
def yX5_place : MethodName := ⟨RX5, "place", "(LNumberHeaps$State;III)V"⟩
abbrev cX5_placeAnywhere : ByteArray := prog_7_method_6_code
def yX5_placeAnywhere : MethodName := ⟨RX5, "placeAnywhere", "(LNumberHeaps$State;III)V"⟩
abbrev cX5_placeInEach : ByteArray := prog_7_method_7_code
def yX5_placeInEach : MethodName := ⟨RX5, "placeInEach", "(LNumberHeaps$State;III)V"⟩
abbrev cX5_isNameless : ByteArray := prog_7_method_8_code
def yX5_isNameless : MethodName := ⟨RX5, "isNameless", "(I)Z"⟩
abbrev cX5_namelessHeaps : ByteArray := prog_7_method_9_code
def yX5_namelessHeaps : MethodName := ⟨RX5, "namelessHeaps", "()I"⟩
abbrev cX5_mayLie : ByteArray := prog_7_method_10_code
def yX5_mayLie : MethodName := ⟨RX5, "mayLie", "(LNumberHeaps$State;II)Z"⟩
abbrev cX5_hopeful : ByteArray := prog_7_method_11_code
def yX5_hopeful : MethodName := ⟨RX5, "hopeful", "(I)Z"⟩
abbrev cX5_takeRow : ByteArray := prog_7_method_12_code
def yX5_takeRow : MethodName := ⟨RX5, "takeRow", "(I)V"⟩
def RX6 : String := "NumberHeaps$Reader"
def TX6 : u_T := fun k => match k with
  | 0 => ("NumberHeaps$Reader", "taped", "I", false)
  | 1 => ("NumberHeaps$Reader", "told", "LNumberHeaps$State;", true)
  | 2 => ("NumberHeaps$Reader", "faultFound", "I", false)
  | 3 => ("NumberHeaps$Reader", "start", "I", false)
  | 4 => ("NumberHeaps$Reader", "tape", "[B", true)
  | 5 => ("NumberHeaps$Reader", "length", "I", false)
  | 6 => ("NumberHeaps$Reader", "at", "I", false)
  | 7 => ("NumberHeaps$Reader", "kind", "I", false)
  | 8 => ("NumberHeaps$Reader", "whole", "I", false)
  | _ => ("NumberHeaps$Reader", "heapsTold", "Z", false)
def tyX6 : Nat → FieldType := fun k => match k with
  | 0 => .int
  | 1 => .object "NumberHeaps$State"
  | 2 => .int
  | 3 => .int
  | 4 => .array .byte
  | 5 => .int
  | 6 => .int
  | 7 => .int
  | 8 => .int
  | _ => .boolean
abbrev wsX60 : List Cond := u_ws RX6 TX6 10
theorem nmX6 : ∀ a, a < 10 → ∀ b, b < 10 → a ≠ b → (TX6 a).2.1 ≠ (TX6 b).2.1 := by decide +kernel
theorem tyX6_ok : ∀ k, k < 10 → parseFieldDescriptor (TX6 k).2.2.1 = some (tyX6 k) := by decide +kernel
abbrev cX6_init : ByteArray := prog_8_method_1_code
def yX6_init : MethodName := ⟨RX6, "<init>", "()V"⟩
abbrev cX6_putFour : ByteArray := prog_8_method_2_code
def yX6_putFour : MethodName := ⟨RX6, "putFour", "(I)V"⟩
abbrev cX6_readText : ByteArray := prog_8_method_3_code
def yX6_readText : MethodName := ⟨RX6, "readText", "(I)Z"⟩
abbrev cX6_readLines : ByteArray := prog_8_method_4_code
def yX6_readLines : MethodName := ⟨RX6, "readLines", "()Z"⟩
abbrev cX6_stop : ByteArray := prog_8_method_5_code
def yX6_stop : MethodName := ⟨RX6, "stop", "(I)Z"⟩
abbrev cX6_readLine : ByteArray := prog_8_method_6_code
def yX6_readLine : MethodName := ⟨RX6, "readLine", "()Z"⟩
abbrev cX6_readNumbers : ByteArray := prog_8_method_7_code
def yX6_readNumbers : MethodName := ⟨RX6, "readNumbers", "()Z"⟩
abbrev cX6_readHeaps : ByteArray := prog_8_method_8_code
def yX6_readHeaps : MethodName := ⟨RX6, "readHeaps", "()Z"⟩
abbrev cX6_readKeep : ByteArray := prog_8_method_9_code
def yX6_readKeep : MethodName := ⟨RX6, "readKeep", "()Z"⟩
abbrev cX6_readApart : ByteArray := prog_8_method_10_code
def yX6_readApart : MethodName := ⟨RX6, "readApart", "()Z"⟩
abbrev cX6_wholeWithin : ByteArray := prog_8_method_11_code
def yX6_wholeWithin : MethodName := ⟨RX6, "wholeWithin", "(II)Z"⟩
abbrev cX6_isWord : ByteArray := prog_8_method_12_code
def yX6_isWord : MethodName := ⟨RX6, "isWord", "(Ljava/lang/String;)Z"⟩
abbrev cX6_nextToken : ByteArray := prog_8_method_13_code
def yX6_nextToken : MethodName := ⟨RX6, "nextToken", "()V"⟩
abbrev cX6_takeWord : ByteArray := prog_8_method_14_code
def yX6_takeWord : MethodName := ⟨RX6, "takeWord", "()V"⟩
abbrev cX6_takeWhole : ByteArray := prog_8_method_15_code
def yX6_takeWhole : MethodName := ⟨RX6, "takeWhole", "()V"⟩
abbrev cX6_takeSign : ByteArray := prog_8_method_16_code
def yX6_takeSign : MethodName := ⟨RX6, "takeSign", "()V"⟩
abbrev cX6_isLetter : ByteArray := prog_8_method_17_code
def yX6_isLetter : MethodName := ⟨RX6, "isLetter", "(I)Z"⟩
abbrev cX6_isDigit : ByteArray := prog_8_method_18_code
def yX6_isDigit : MethodName := ⟨RX6, "isDigit", "(I)Z"⟩
def RX7 : String := "NumberHeaps$Search"
def TX7 : u_T := fun k => match k with
  | 0 => ("NumberHeaps$Search", "least", "I", false)
  | 1 => ("NumberHeaps$Search", "visited", "I", false)
  | 2 => ("NumberHeaps$Search", "leaves", "I", false)
  | 3 => ("NumberHeaps$Search", "finds", "I", false)
  | 4 => ("NumberHeaps$Search", "perfect", "Z", false)
  | 5 => ("NumberHeaps$Search", "firstSide", "I", false)
  | 6 => ("NumberHeaps$Search", "found", "[I", true)
  | 7 => ("NumberHeaps$Search", "foundAt", "[I", true)
  | 8 => ("NumberHeaps$Search", "rowAt", "[LNumberHeaps$ItemRow;", true)
  | 9 => ("NumberHeaps$Search", "totalModuloTwo", "I", false)
  | _ => ("NumberHeaps$Search", "madeFor", "I", false)
def tyX7 : Nat → FieldType := fun k => match k with
  | 0 => .int
  | 1 => .int
  | 2 => .int
  | 3 => .int
  | 4 => .boolean
  | 5 => .int
  | 6 => .array .int
  | 7 => .array .int
  | 8 => .array (.object "NumberHeaps$ItemRow")
  | 9 => .int
  | _ => .int
abbrev wsX70 : List Cond := u_ws RX7 TX7 11
theorem nmX7 : ∀ a, a < 11 → ∀ b, b < 11 → a ≠ b → (TX7 a).2.1 ≠ (TX7 b).2.1 := by decide +kernel
theorem tyX7_ok : ∀ k, k < 11 → parseFieldDescriptor (TX7 k).2.2.1 = some (tyX7 k) := by decide +kernel
abbrev cX7_init : ByteArray := prog_9_method_1_code
def yX7_init : MethodName := ⟨RX7, "<init>", "()V"⟩
abbrev cX7_prepare : ByteArray := prog_9_method_2_code
def yX7_prepare : MethodName := ⟨RX7, "prepare", "(LNumberHeaps$State;I)V"⟩
abbrev cX7_visit : ByteArray := prog_9_method_3_code
def yX7_visit : MethodName := ⟨RX7, "visit", "(I)V"⟩
abbrev cX7_visitBelow : ByteArray := prog_9_method_4_code
def yX7_visitBelow : MethodName := ⟨RX7, "visitBelow", "(IZ)V"⟩
abbrev cX7_takeLeaf : ByteArray := prog_9_method_5_code
def yX7_takeLeaf : MethodName := ⟨RX7, "takeLeaf", "(LNumberHeaps$ItemRow;I)V"⟩
def RX8 : String := "NumberHeaps$SetSums"
def TX8 : u_T := fun k => match k with
  | 0 => ("NumberHeaps$SetSums", "keys", "[I", false)
  | 1 => ("NumberHeaps$SetSums", "spare", "[I", false)
  | 2 => ("NumberHeaps$SetSums", "sets", "I", false)
  | _ => ("NumberHeaps$SetSums", "madeFor", "I", false)
def tyX8 : Nat → FieldType := fun k => match k with
  | 0 => .array .int
  | 1 => .array .int
  | 2 => .int
  | _ => .int
abbrev wsX80 : List Cond := u_ws RX8 TX8 4
theorem nmX8 : ∀ a, a < 4 → ∀ b, b < 4 → a ≠ b → (TX8 a).2.1 ≠ (TX8 b).2.1 := by decide +kernel
theorem tyX8_ok : ∀ k, k < 4 → parseFieldDescriptor (TX8 k).2.2.1 = some (tyX8 k) := by decide +kernel
abbrev cX8_init : ByteArray := prog_10_method_1_code
def yX8_init : MethodName := ⟨RX8, "<init>", "()V"⟩
abbrev cX8_prepare : ByteArray := prog_10_method_2_code
def yX8_prepare : MethodName := ⟨RX8, "prepare", "(LNumberHeaps$State;I)V"⟩
abbrev cX8_mergeWith : ByteArray := prog_10_method_3_code
def yX8_mergeWith : MethodName := ⟨RX8, "mergeWith", "(I)V"⟩
abbrev cX8_sumAt : ByteArray := prog_10_method_4_code
def yX8_sumAt : MethodName := ⟨RX8, "sumAt", "(I)I"⟩
abbrev cX8_firstFrom : ByteArray := prog_10_method_5_code
def yX8_firstFrom : MethodName := ⟨RX8, "firstFrom", "(I)I"⟩
abbrev cX8_setsWith : ByteArray := prog_10_method_6_code
def yX8_setsWith : MethodName := ⟨RX8, "setsWith", "(I)I"⟩
abbrev cX8_leastSetWith : ByteArray := prog_10_method_7_code
def yX8_leastSetWith : MethodName := ⟨RX8, "leastSetWith", "(I)I"⟩
abbrev cX8_unlikeSums : ByteArray := prog_10_method_8_code
def yX8_unlikeSums : MethodName := ⟨RX8, "unlikeSums", "()I"⟩
abbrev cX8_sumNextTo : ByteArray := prog_10_method_9_code
def yX8_sumNextTo : MethodName := ⟨RX8, "sumNextTo", "(I)I"⟩
def RX9 : String := "NumberHeaps$State"
def TX9 : u_T := fun k => match k with
  | 0 => ("NumberHeaps$State", "count", "I", false)
  | 1 => ("NumberHeaps$State", "heapCount", "I", false)
  | 2 => ("NumberHeaps$State", "values", "[I", true)
  | 3 => ("NumberHeaps$State", "keeper", "[I", true)
  | 4 => ("NumberHeaps$State", "foes", "[I", true)
  | _ => ("NumberHeaps$State", "bySize", "[I", true)
def tyX9 : Nat → FieldType := fun k => match k with
  | 0 => .int
  | 1 => .int
  | 2 => .array .int
  | 3 => .array .int
  | 4 => .array .int
  | _ => .array .int
abbrev wsX90 : List Cond := u_ws RX9 TX9 6
theorem nmX9 : ∀ a, a < 6 → ∀ b, b < 6 → a ≠ b → (TX9 a).2.1 ≠ (TX9 b).2.1 := by decide +kernel
theorem tyX9_ok : ∀ k, k < 6 → parseFieldDescriptor (TX9 k).2.2.1 = some (tyX9 k) := by decide +kernel
abbrev cX9_init : ByteArray := prog_11_method_1_code
def yX9_init : MethodName := ⟨RX9, "<init>", "()V"⟩
abbrev cX9_copyFrom : ByteArray := prog_11_method_2_code
def yX9_copyFrom : MethodName := ⟨RX9, "copyFrom", "(LNumberHeaps$State;)V"⟩
abbrev cX9_empty : ByteArray := prog_11_method_3_code
def yX9_empty : MethodName := ⟨RX9, "empty", "()V"⟩
abbrev cX9_append : ByteArray := prog_11_method_4_code
def yX9_append : MethodName := ⟨RX9, "append", "(I)V"⟩
abbrev cX9_remove : ByteArray := prog_11_method_5_code
def yX9_remove : MethodName := ⟨RX9, "remove", "(I)V"⟩
abbrev cX9_withoutBit : ByteArray := prog_11_method_6_code
def yX9_withoutBit : MethodName := ⟨RX9, "withoutBit", "(II)I"⟩
abbrev cX9_layBySize : ByteArray := prog_11_method_7_code
def yX9_layBySize : MethodName := ⟨RX9, "layBySize", "(LNumberHeaps$State;)V"⟩
abbrev cX9_orderBySize : ByteArray := prog_11_method_8_code
def yX9_orderBySize : MethodName := ⟨RX9, "orderBySize", "()V"⟩
abbrev cX9_placeBySize : ByteArray := prog_11_method_9_code
def yX9_placeBySize : MethodName := ⟨RX9, "placeBySize", "(I)I"⟩
abbrev cX9_areApart : ByteArray := prog_11_method_10_code
def yX9_areApart : MethodName := ⟨RX9, "areApart", "(II)Z"⟩
abbrev cX9_toggleApart : ByteArray := prog_11_method_11_code
def yX9_toggleApart : MethodName := ⟨RX9, "toggleApart", "(II)V"⟩
abbrev cX9_pairs : ByteArray := prog_11_method_12_code
def yX9_pairs : MethodName := ⟨RX9, "pairs", "()I"⟩
abbrev cX9_keptCount : ByteArray := prog_11_method_13_code
def yX9_keptCount : MethodName := ⟨RX9, "keptCount", "()I"⟩
abbrev cX9_total : ByteArray := prog_11_method_14_code
def yX9_total : MethodName := ⟨RX9, "total", "()I"⟩
def RX10 : String := "NumberHeaps"
def TX10 : u_T := fun k => match k with
  | 0 => ("NumberHeaps", "reader", "LNumberHeaps$Reader;", true)
  | 1 => ("NumberHeaps", "state", "LNumberHeaps$State;", true)
  | 2 => ("NumberHeaps", "history", "LNumberHeaps$History;", true)
  | 3 => ("NumberHeaps", "version", "I", false)
  | 4 => ("NumberHeaps", "filling", "LNumberHeaps$Filling;", true)
  | 5 => ("NumberHeaps", "differencing", "LNumberHeaps$Differencing;", true)
  | 6 => ("NumberHeaps", "searching", "LNumberHeaps$Search;", true)
  | 7 => ("NumberHeaps", "several", "LNumberHeaps$Multi;", true)
  | 8 => ("NumberHeaps", "partings", "[LNumberHeaps$Partings;", true)
  | 9 => ("NumberHeaps", "setSums", "LNumberHeaps$SetSums;", true)
  | 10 => ("NumberHeaps", "written", "[B", true)
  | 11 => ("NumberHeaps", "writtenBytes", "I", false)
  | 12 => ("NumberHeaps", "troubleNumber", "I", false)
  | 13 => ("NumberHeaps", "faultNumber", "I", false)
  | _ => ("NumberHeaps", "faultPlace", "I", false)
def tyX10 : Nat → FieldType := fun k => match k with
  | 0 => .object "NumberHeaps$Reader"
  | 1 => .object "NumberHeaps$State"
  | 2 => .object "NumberHeaps$History"
  | 3 => .int
  | 4 => .object "NumberHeaps$Filling"
  | 5 => .object "NumberHeaps$Differencing"
  | 6 => .object "NumberHeaps$Search"
  | 7 => .object "NumberHeaps$Multi"
  | 8 => .array (.object "NumberHeaps$Partings")
  | 9 => .object "NumberHeaps$SetSums"
  | 10 => .array .byte
  | 11 => .int
  | 12 => .int
  | 13 => .int
  | _ => .int
abbrev wsX100 : List Cond := u_ws RX10 TX10 15
theorem nmX10 : ∀ a, a < 15 → ∀ b, b < 15 → a ≠ b → (TX10 a).2.1 ≠ (TX10 b).2.1 := by decide +kernel
theorem tyX10_ok : ∀ k, k < 15 → parseFieldDescriptor (TX10 k).2.2.1 = some (tyX10 k) := by decide +kernel
abbrev cX10_init : ByteArray := prog_1_method_1_code
def yX10_init : MethodName := ⟨RX10, "<init>", "()V"⟩
abbrev cX10_feed : ByteArray := prog_1_method_2_code
def yX10_feed : MethodName := ⟨RX10, "feed", "(IIIII)I"⟩
abbrev cX10_text : ByteArray := prog_1_method_3_code
def yX10_text : MethodName := ⟨RX10, "text", "(I)I"⟩
abbrev cX10_fault : ByteArray := prog_1_method_4_code
def yX10_fault : MethodName := ⟨RX10, "fault", "()I"⟩
abbrev cX10_where : ByteArray := prog_1_method_5_code
def yX10_where : MethodName := ⟨RX10, "where", "()I"⟩
abbrev cX10_about : ByteArray := prog_1_method_6_code
def yX10_about : MethodName := ⟨RX10, "about", "(I)I"⟩
abbrev cX10_number : ByteArray := prog_1_method_7_code
def yX10_number : MethodName := ⟨RX10, "number", "(II)I"⟩
abbrev cX10_sized : ByteArray := prog_1_method_8_code
def yX10_sized : MethodName := ⟨RX10, "sized", "(I)I"⟩
abbrev cX10_greedy : ByteArray := prog_1_method_9_code
def yX10_greedy : MethodName := ⟨RX10, "greedy", "(II)I"⟩
abbrev cX10_greedyOf : ByteArray := prog_1_method_10_code
def yX10_greedyOf : MethodName := ⟨RX10, "greedyOf", "(II)I"⟩
abbrev cX10_difference : ByteArray := prog_1_method_11_code
def yX10_difference : MethodName := ⟨RX10, "difference", "()I"⟩
abbrev cX10_differenceOf : ByteArray := prog_1_method_12_code
def yX10_differenceOf : MethodName := ⟨RX10, "differenceOf", "(I)I"⟩
abbrev cX10_step : ByteArray := prog_1_method_13_code
def yX10_step : MethodName := ⟨RX10, "step", "(II)I"⟩
abbrev cX10_multi : ByteArray := prog_1_method_14_code
def yX10_multi : MethodName := ⟨RX10, "multi", "(I)I"⟩
abbrev cX10_multiOf : ByteArray := prog_1_method_15_code
def yX10_multiOf : MethodName := ⟨RX10, "multiOf", "(II)I"⟩
abbrev cX10_search : ByteArray := prog_1_method_16_code
def yX10_search : MethodName := ⟨RX10, "search", "(I)I"⟩
abbrev cX10_find : ByteArray := prog_1_method_17_code
def yX10_find : MethodName := ⟨RX10, "find", "(II)I"⟩
abbrev cX10_searchOf : ByteArray := prog_1_method_18_code
def yX10_searchOf : MethodName := ⟨RX10, "searchOf", "(I)I"⟩
abbrev cX10_bound : ByteArray := prog_1_method_19_code
def yX10_bound : MethodName := ⟨RX10, "bound", "(I)I"⟩
abbrev cX10_least : ByteArray := prog_1_method_20_code
def yX10_least : MethodName := ⟨RX10, "least", "(II)I"⟩
abbrev cX10_leastOf : ByteArray := prog_1_method_21_code
def yX10_leastOf : MethodName := ⟨RX10, "leastOf", "(II)I"⟩
abbrev cX10_flat : ByteArray := prog_1_method_22_code
def yX10_flat : MethodName := ⟨RX10, "flat", "(I)I"⟩
abbrev cX10_rows : ByteArray := prog_1_method_23_code
def yX10_rows : MethodName := ⟨RX10, "rows", "(I)I"⟩
abbrev cX10_climb : ByteArray := prog_1_method_24_code
def yX10_climb : MethodName := ⟨RX10, "climb", "(II)I"⟩
abbrev cX10_climbOf : ByteArray := prog_1_method_25_code
def yX10_climbOf : MethodName := ⟨RX10, "climbOf", "(II)I"⟩
abbrev cX10_ways : ByteArray := prog_1_method_26_code
def yX10_ways : MethodName := ⟨RX10, "ways", "(I)I"⟩
abbrev cX10_chosen : ByteArray := prog_1_method_27_code
def yX10_chosen : MethodName := ⟨RX10, "chosen", "(I)I"⟩
abbrev cX10_sums : ByteArray := prog_1_method_28_code
def yX10_sums : MethodName := ⟨RX10, "sums", "()I"⟩
abbrev cX10_nearest : ByteArray := prog_1_method_29_code
def yX10_nearest : MethodName := ⟨RX10, "nearest", "(I)I"⟩
abbrev cX10_add : ByteArray := prog_1_method_30_code
def yX10_add : MethodName := ⟨RX10, "add", "(I)I"⟩
abbrev cX10_drop : ByteArray := prog_1_method_31_code
def yX10_drop : MethodName := ⟨RX10, "drop", "(I)I"⟩
abbrev cX10_become : ByteArray := prog_1_method_32_code
def yX10_become : MethodName := ⟨RX10, "become", "(II)I"⟩
abbrev cX10_keepIn : ByteArray := prog_1_method_33_code
def yX10_keepIn : MethodName := ⟨RX10, "keepIn", "(II)I"⟩
abbrev cX10_apart : ByteArray := prog_1_method_34_code
def yX10_apart : MethodName := ⟨RX10, "apart", "(II)I"⟩
abbrev cX10_sort : ByteArray := prog_1_method_35_code
def yX10_sort : MethodName := ⟨RX10, "sort", "()I"⟩
abbrev cX10_heaps : ByteArray := prog_1_method_36_code
def yX10_heaps : MethodName := ⟨RX10, "heaps", "(I)I"⟩
abbrev cX10_undo : ByteArray := prog_1_method_37_code
def yX10_undo : MethodName := ⟨RX10, "undo", "()I"⟩
abbrev cX10_image : ByteArray := prog_1_method_38_code
def yX10_image : MethodName := ⟨RX10, "image", "(I)Z"⟩
abbrev cX10_back : ByteArray := prog_1_method_39_code
def yX10_back : MethodName := ⟨RX10, "back", "(I)Z"⟩
abbrev cX10_write : ByteArray := prog_1_method_40_code
def yX10_write : MethodName := ⟨RX10, "write", "()I"⟩
abbrev cX10_octet : ByteArray := prog_1_method_41_code
def yX10_octet : MethodName := ⟨RX10, "octet", "(I)I"⟩
abbrev cX10_bytes : ByteArray := prog_1_method_42_code
def yX10_bytes : MethodName := ⟨RX10, "bytes", "()I"⟩
abbrev cX10_trouble : ByteArray := prog_1_method_43_code
def yX10_trouble : MethodName := ⟨RX10, "trouble", "()I"⟩
abbrev cX10_refuse : ByteArray := prog_1_method_44_code
def yX10_refuse : MethodName := ⟨RX10, "refuse", "(I)I"⟩
abbrev cX10_refused : ByteArray := prog_1_method_45_code
def yX10_refused : MethodName := ⟨RX10, "refused", "(ZZ)Z"⟩
abbrev cX10_answer : ByteArray := prog_1_method_46_code
def yX10_answer : MethodName := ⟨RX10, "answer", "(I)I"⟩
abbrev cX10_noText : ByteArray := prog_1_method_47_code
def yX10_noText : MethodName := ⟨RX10, "noText", "()Z"⟩
abbrev cX10_noNumber : ByteArray := prog_1_method_48_code
def yX10_noNumber : MethodName := ⟨RX10, "noNumber", "(I)Z"⟩
abbrev cX10_noSuchHeaps : ByteArray := prog_1_method_49_code
def yX10_noSuchHeaps : MethodName := ⟨RX10, "noSuchHeaps", "(I)Z"⟩
abbrev cX10_noSuchValue : ByteArray := prog_1_method_50_code
def yX10_noSuchValue : MethodName := ⟨RX10, "noSuchValue", "(I)Z"⟩
abbrev cX10_noSuchSum : ByteArray := prog_1_method_51_code
def yX10_noSuchSum : MethodName := ⟨RX10, "noSuchSum", "(I)Z"⟩
abbrev cX10_notZeroOrOne : ByteArray := prog_1_method_52_code
def yX10_notZeroOrOne : MethodName := ⟨RX10, "notZeroOrOne", "(I)Z"⟩
abbrev cX10_allRows : ByteArray := prog_1_method_53_code
def yX10_allRows : MethodName := ⟨RX10, "allRows", "(I)LNumberHeaps$Partings;"⟩
abbrev cX10_changed : ByteArray := prog_1_method_54_code
def yX10_changed : MethodName := ⟨RX10, "changed", "()V"⟩
abbrev cX10_putByte : ByteArray := prog_1_method_55_code
def yX10_putByte : MethodName := ⟨RX10, "putByte", "(I)V"⟩
abbrev cX10_putHeap : ByteArray := prog_1_method_56_code
def yX10_putHeap : MethodName := ⟨RX10, "putHeap", "(I[I)V"⟩
abbrev cX10_putNumber : ByteArray := prog_1_method_57_code
def yX10_putNumber : MethodName := ⟨RX10, "putNumber", "(I)V"⟩
abbrev cX10_sideOf : ByteArray := prog_1_method_58_code
def yX10_sideOf : MethodName := ⟨RX10, "sideOf", "(II)I"⟩
abbrev cX10_leastMember : ByteArray := prog_1_method_59_code
def yX10_leastMember : MethodName := ⟨RX10, "leastMember", "(I)I"⟩
abbrev cX10_greatestAmong : ByteArray := prog_1_method_60_code
def yX10_greatestAmong : MethodName := ⟨RX10, "greatestAmong", "([II)I"⟩
abbrev cX10_leastAmong : ByteArray := prog_1_method_61_code
def yX10_leastAmong : MethodName := ⟨RX10, "leastAmong", "([II)I"⟩
def RX11 : String := "NumberHeapsModel"
def TX11 : u_T := fun k => match k with
  | 0 => ("NumberHeapsModel", "thrown", "I", false)
  | 1 => ("NumberHeapsModel", "trouble", "I", false)
  | 2 => ("NumberHeapsModel", "wrongAt", "I", false)
  | 3 => ("NumberHeapsModel", "tape", "[I", true)
  | 4 => ("NumberHeapsModel", "taped", "I", false)
  | 5 => ("NumberHeapsModel", "size", "I", false)
  | 6 => ("NumberHeapsModel", "spot", "I", false)
  | 7 => ("NumberHeapsModel", "fault", "I", false)
  | 8 => ("NumberHeapsModel", "faultAt", "I", false)
  | 9 => ("NumberHeapsModel", "token", "I", false)
  | 10 => ("NumberHeapsModel", "at", "I", false)
  | 11 => ("NumberHeapsModel", "sign", "I", false)
  | 12 => ("NumberHeapsModel", "told", "I", false)
  | 13 => ("NumberHeapsModel", "word", "J", false)
  | 14 => ("NumberHeapsModel", "now", "[I", true)
  | 15 => ("NumberHeapsModel", "read", "[I", true)
  | 16 => ("NumberHeapsModel", "past", "[I", true)
  | 17 => ("NumberHeapsModel", "images", "[I", true)
  | 18 => ("NumberHeapsModel", "kept", "[Z", true)
  | 19 => ("NumberHeapsModel", "hasText", "Z", false)
  | 20 => ("NumberHeapsModel", "hasHeaps", "Z", false)
  | 21 => ("NumberHeapsModel", "acts", "I", false)
  | 22 => ("NumberHeapsModel", "row", "[I", true)
  | 23 => ("NumberHeapsModel", "sum", "[I", true)
  | 24 => ("NumberHeapsModel", "bestRow", "[I", true)
  | 25 => ("NumberHeapsModel", "many", "[I", true)
  | 26 => ("NumberHeapsModel", "worth", "[I", true)
  | 27 => ("NumberHeapsModel", "first", "[I", true)
  | 28 => ("NumberHeapsModel", "second", "[I", true)
  | 29 => ("NumberHeapsModel", "stepA", "[I", true)
  | 30 => ("NumberHeapsModel", "stepB", "[I", true)
  | 31 => ("NumberHeapsModel", "findOf", "[I", true)
  | 32 => ("NumberHeapsModel", "findAt", "[I", true)
  | 33 => ("NumberHeapsModel", "leastLeaf", "I", false)
  | 34 => ("NumberHeapsModel", "visited", "I", false)
  | 35 => ("NumberHeapsModel", "leaves", "I", false)
  | 36 => ("NumberHeapsModel", "finds", "I", false)
  | 37 => ("NumberHeapsModel", "foundSide", "I", false)
  | 38 => ("NumberHeapsModel", "isPerfect", "Z", false)
  | 39 => ("NumberHeapsModel", "partWorth", "[I", true)
  | 40 => ("NumberHeapsModel", "partSet", "[I", true)
  | 41 => ("NumberHeapsModel", "newWorth", "[I", true)
  | 42 => ("NumberHeapsModel", "newSet", "[I", true)
  | 43 => ("NumberHeapsModel", "items", "I", false)
  | 44 => ("NumberHeapsModel", "rowsAllowed", "I", false)
  | 45 => ("NumberHeapsModel", "leastSpread", "I", false)
  | 46 => ("NumberHeapsModel", "leastMany", "I", false)
  | 47 => ("NumberHeapsModel", "leastTop", "I", false)
  | 48 => ("NumberHeapsModel", "sumOf", "[I", true)
  | 49 => ("NumberHeapsModel", "other", "[I", true)
  | 50 => ("NumberHeapsModel", "ink", "[I", true)
  | _ => ("NumberHeapsModel", "inked", "I", false)
def tyX11 : Nat → FieldType := fun k => match k with
  | 0 => .int
  | 1 => .int
  | 2 => .int
  | 3 => .array .int
  | 4 => .int
  | 5 => .int
  | 6 => .int
  | 7 => .int
  | 8 => .int
  | 9 => .int
  | 10 => .int
  | 11 => .int
  | 12 => .int
  | 13 => .long
  | 14 => .array .int
  | 15 => .array .int
  | 16 => .array .int
  | 17 => .array .int
  | 18 => .array .boolean
  | 19 => .boolean
  | 20 => .boolean
  | 21 => .int
  | 22 => .array .int
  | 23 => .array .int
  | 24 => .array .int
  | 25 => .array .int
  | 26 => .array .int
  | 27 => .array .int
  | 28 => .array .int
  | 29 => .array .int
  | 30 => .array .int
  | 31 => .array .int
  | 32 => .array .int
  | 33 => .int
  | 34 => .int
  | 35 => .int
  | 36 => .int
  | 37 => .int
  | 38 => .boolean
  | 39 => .array .int
  | 40 => .array .int
  | 41 => .array .int
  | 42 => .array .int
  | 43 => .int
  | 44 => .int
  | 45 => .int
  | 46 => .int
  | 47 => .int
  | 48 => .array .int
  | 49 => .array .int
  | 50 => .array .int
  | _ => .int
abbrev wsX110 : List Cond := u_ws RX11 TX11 52
theorem nmX11 : ∀ a, a < 52 → ∀ b, b < 52 → a ≠ b → (TX11 a).2.1 ≠ (TX11 b).2.1 := by decide +kernel
theorem tyX11_ok : ∀ k, k < 52 → parseFieldDescriptor (TX11 k).2.2.1 = some (tyX11 k) := by decide +kernel
abbrev cX11_init : ByteArray := prog_13_method_1_code
def yX11_init : MethodName := ⟨RX11, "<init>", "()V"⟩
abbrev cX11_thrown : ByteArray := prog_13_method_2_code
def yX11_thrown : MethodName := ⟨RX11, "thrown", "()I"⟩
abbrev cX11_refused : ByteArray := prog_13_method_3_code
def yX11_refused : MethodName := ⟨RX11, "refused", "(I)I"⟩
abbrev cX11_good : ByteArray := prog_13_method_4_code
def yX11_good : MethodName := ⟨RX11, "good", "(I)I"⟩
abbrev cX11_granted : ByteArray := prog_13_method_5_code
def yX11_granted : MethodName := ⟨RX11, "granted", "(I)Z"⟩
abbrev cX11_in : ByteArray := prog_13_method_6_code
def yX11_in : MethodName := ⟨RX11, "in", "(III)Z"⟩
abbrev cX11_has : ByteArray := prog_13_method_7_code
def yX11_has : MethodName := ⟨RX11, "has", "(II)Z"⟩
abbrev cX11_bits : ByteArray := prog_13_method_8_code
def yX11_bits : MethodName := ⟨RX11, "bits", "(I)I"⟩
abbrev cX11_lowest : ByteArray := prog_13_method_9_code
def yX11_lowest : MethodName := ⟨RX11, "lowest", "(I)I"⟩
abbrev cX11_feed : ByteArray := prog_13_method_10_code
def yX11_feed : MethodName := ⟨RX11, "feed", "(IIIII)I"⟩
abbrev cX11_flaw : ByteArray := prog_13_method_11_code
def yX11_flaw : MethodName := ⟨RX11, "flaw", "(I)V"⟩
abbrev cX11_isLetterAt : ByteArray := prog_13_method_12_code
def yX11_isLetterAt : MethodName := ⟨RX11, "isLetterAt", "(I)Z"⟩
abbrev cX11_isDigitAt : ByteArray := prog_13_method_13_code
def yX11_isDigitAt : MethodName := ⟨RX11, "isDigitAt", "(I)Z"⟩
abbrev cX11_goOn : ByteArray := prog_13_method_14_code
def yX11_goOn : MethodName := ⟨RX11, "goOn", "()V"⟩
abbrev cX11_wordOf : ByteArray := prog_13_method_15_code
def yX11_wordOf : MethodName := ⟨RX11, "wordOf", "(Ljava/lang/String;)J"⟩
abbrev cX11_isWord : ByteArray := prog_13_method_16_code
def yX11_isWord : MethodName := ⟨RX11, "isWord", "(Ljava/lang/String;)Z"⟩
abbrev cX11_isSign : ByteArray := prog_13_method_17_code
def yX11_isSign : MethodName := ⟨RX11, "isSign", "(I)Z"⟩
abbrev cX11_fault : ByteArray := prog_13_method_18_code
def yX11_fault : MethodName := ⟨RX11, "fault", "()I"⟩
abbrev cX11_where : ByteArray := prog_13_method_19_code
def yX11_where : MethodName := ⟨RX11, "where", "()I"⟩
abbrev cX11_whole : ByteArray := prog_13_method_20_code
def yX11_whole : MethodName := ⟨RX11, "whole", "(II)I"⟩
abbrev cX11_readNumbers : ByteArray := prog_13_method_21_code
def yX11_readNumbers : MethodName := ⟨RX11, "readNumbers", "()V"⟩
abbrev cX11_readKeep : ByteArray := prog_13_method_22_code
def yX11_readKeep : MethodName := ⟨RX11, "readKeep", "()V"⟩
abbrev cX11_pairOf : ByteArray := prog_13_method_23_code
def yX11_pairOf : MethodName := ⟨RX11, "pairOf", "([III)I"⟩
abbrev cX11_readApart : ByteArray := prog_13_method_24_code
def yX11_readApart : MethodName := ⟨RX11, "readApart", "()V"⟩
abbrev cX11_readLine : ByteArray := prog_13_method_25_code
def yX11_readLine : MethodName := ⟨RX11, "readLine", "()V"⟩
abbrev cX11_text : ByteArray := prog_13_method_26_code
def yX11_text : MethodName := ⟨RX11, "text", "(I)I"⟩
abbrev cX11_isNumber : ByteArray := prog_13_method_27_code
def yX11_isNumber : MethodName := ⟨RX11, "isNumber", "(I)Z"⟩
abbrev cX11_isK : ByteArray := prog_13_method_28_code
def yX11_isK : MethodName := ⟨RX11, "isK", "(I)Z"⟩
abbrev cX11_value : ByteArray := prog_13_method_29_code
def yX11_value : MethodName := ⟨RX11, "value", "(I)I"⟩
abbrev cX11_total : ByteArray := prog_13_method_30_code
def yX11_total : MethodName := ⟨RX11, "total", "()I"⟩
abbrev cX11_rank : ByteArray := prog_13_method_31_code
def yX11_rank : MethodName := ⟨RX11, "rank", "(I)I"⟩
abbrev cX11_ranked : ByteArray := prog_13_method_32_code
def yX11_ranked : MethodName := ⟨RX11, "ranked", "(I)I"⟩
abbrev cX11_about : ByteArray := prog_13_method_33_code
def yX11_about : MethodName := ⟨RX11, "about", "(I)I"⟩
abbrev cX11_apartFrom : ByteArray := prog_13_method_34_code
def yX11_apartFrom : MethodName := ⟨RX11, "apartFrom", "(I)I"⟩
abbrev cX11_number : ByteArray := prog_13_method_35_code
def yX11_number : MethodName := ⟨RX11, "number", "(II)I"⟩
abbrev cX11_sized : ByteArray := prog_13_method_36_code
def yX11_sized : MethodName := ⟨RX11, "sized", "(I)I"⟩
abbrev cX11_sums0 : ByteArray := prog_13_method_37_code
def yX11_sums0 : MethodName := ⟨RX11, "sums0", "(I)V"⟩
abbrev cX11_spread : ByteArray := prog_13_method_38_code
def yX11_spread : MethodName := ⟨RX11, "spread", "(I)I"⟩
abbrev cX11_top : ByteArray := prog_13_method_39_code
def yX11_top : MethodName := ⟨RX11, "top", "(I)I"⟩
abbrev cX11_fills : ByteArray := prog_13_method_40_code
def yX11_fills : MethodName := ⟨RX11, "fills", "(I)V"⟩
abbrev cX11_greedy : ByteArray := prog_13_method_41_code
def yX11_greedy : MethodName := ⟨RX11, "greedy", "(II)I"⟩
abbrev cX11_greedyOf : ByteArray := prog_13_method_42_code
def yX11_greedyOf : MethodName := ⟨RX11, "greedyOf", "(II)I"⟩
abbrev cX11_isAhead : ByteArray := prog_13_method_43_code
def yX11_isAhead : MethodName := ⟨RX11, "isAhead", "(III)Z"⟩
abbrev cX11_comes : ByteArray := prog_13_method_44_code
def yX11_comes : MethodName := ⟨RX11, "comes", "(IIII)V"⟩
abbrev cX11_begins : ByteArray := prog_13_method_45_code
def yX11_begins : MethodName := ⟨RX11, "begins", "()V"⟩
abbrev cX11_joins : ByteArray := prog_13_method_46_code
def yX11_joins : MethodName := ⟨RX11, "joins", "(IZ)V"⟩
abbrev cX11_differs : ByteArray := prog_13_method_47_code
def yX11_differs : MethodName := ⟨RX11, "differs", "()I"⟩
abbrev cX11_difference : ByteArray := prog_13_method_48_code
def yX11_difference : MethodName := ⟨RX11, "difference", "()I"⟩
abbrev cX11_sideOf : ByteArray := prog_13_method_49_code
def yX11_sideOf : MethodName := ⟨RX11, "sideOf", "(II)I"⟩
abbrev cX11_differenceOf : ByteArray := prog_13_method_50_code
def yX11_differenceOf : MethodName := ⟨RX11, "differenceOf", "(I)I"⟩
abbrev cX11_step : ByteArray := prog_13_method_51_code
def yX11_step : MethodName := ⟨RX11, "step", "(II)I"⟩
abbrev cX11_visits : ByteArray := prog_13_method_52_code
def yX11_visits : MethodName := ⟨RX11, "visits", "(I)V"⟩
abbrev cX11_leaf : ByteArray := prog_13_method_53_code
def yX11_leaf : MethodName := ⟨RX11, "leaf", "(II)V"⟩
abbrev cX11_searches : ByteArray := prog_13_method_54_code
def yX11_searches : MethodName := ⟨RX11, "searches", "()V"⟩
abbrev cX11_search : ByteArray := prog_13_method_55_code
def yX11_search : MethodName := ⟨RX11, "search", "(I)I"⟩
abbrev cX11_find : ByteArray := prog_13_method_56_code
def yX11_find : MethodName := ⟨RX11, "find", "(II)I"⟩
abbrev cX11_searchOf : ByteArray := prog_13_method_57_code
def yX11_searchOf : MethodName := ⟨RX11, "searchOf", "(I)I"⟩
abbrev cX11_setOf : ByteArray := prog_13_method_58_code
def yX11_setOf : MethodName := ⟨RX11, "setOf", "(I)I"⟩
abbrev cX11_width : ByteArray := prog_13_method_59_code
def yX11_width : MethodName := ⟨RX11, "width", "(II)I"⟩
abbrev cX11_places : ByteArray := prog_13_method_60_code
def yX11_places : MethodName := ⟨RX11, "places", "(I)V"⟩
abbrev cX11_isBefore : ByteArray := prog_13_method_61_code
def yX11_isBefore : MethodName := ⟨RX11, "isBefore", "(II)Z"⟩
abbrev cX11_multiplies : ByteArray := prog_13_method_62_code
def yX11_multiplies : MethodName := ⟨RX11, "multiplies", "(I)V"⟩
abbrev cX11_multi : ByteArray := prog_13_method_63_code
def yX11_multi : MethodName := ⟨RX11, "multi", "(I)I"⟩
abbrev cX11_multiOf : ByteArray := prog_13_method_64_code
def yX11_multiOf : MethodName := ⟨RX11, "multiOf", "(II)I"⟩
abbrev cX11_bound : ByteArray := prog_13_method_65_code
def yX11_bound : MethodName := ⟨RX11, "bound", "(I)I"⟩
abbrev cX11_mayLie : ByteArray := prog_13_method_66_code
def yX11_mayLie : MethodName := ⟨RX11, "mayLie", "(II)Z"⟩
abbrev cX11_goes : ByteArray := prog_13_method_67_code
def yX11_goes : MethodName := ⟨RX11, "goes", "(II)V"⟩
abbrev cX11_areRows : ByteArray := prog_13_method_68_code
def yX11_areRows : MethodName := ⟨RX11, "areRows", "(I)Z"⟩
abbrev cX11_least : ByteArray := prog_13_method_69_code
def yX11_least : MethodName := ⟨RX11, "least", "(II)I"⟩
abbrev cX11_leastOf : ByteArray := prog_13_method_70_code
def yX11_leastOf : MethodName := ⟨RX11, "leastOf", "(II)I"⟩
abbrev cX11_flat : ByteArray := prog_13_method_71_code
def yX11_flat : MethodName := ⟨RX11, "flat", "(I)I"⟩
abbrev cX11_rows : ByteArray := prog_13_method_72_code
def yX11_rows : MethodName := ⟨RX11, "rows", "(I)I"⟩
abbrev cX11_spreadNow : ByteArray := prog_13_method_73_code
def yX11_spreadNow : MethodName := ⟨RX11, "spreadNow", "(I)I"⟩
abbrev cX11_climbs : ByteArray := prog_13_method_74_code
def yX11_climbs : MethodName := ⟨RX11, "climbs", "(I)Z"⟩
abbrev cX11_exchanges : ByteArray := prog_13_method_75_code
def yX11_exchanges : MethodName := ⟨RX11, "exchanges", "(II)V"⟩
abbrev cX11_climbsAll : ByteArray := prog_13_method_76_code
def yX11_climbsAll : MethodName := ⟨RX11, "climbsAll", "(I)I"⟩
abbrev cX11_climb : ByteArray := prog_13_method_77_code
def yX11_climb : MethodName := ⟨RX11, "climb", "(II)I"⟩
abbrev cX11_climbOf : ByteArray := prog_13_method_78_code
def yX11_climbOf : MethodName := ⟨RX11, "climbOf", "(II)I"⟩
abbrev cX11_laysSums : ByteArray := prog_13_method_79_code
def yX11_laysSums : MethodName := ⟨RX11, "laysSums", "()I"⟩
abbrev cX11_isSum : ByteArray := prog_13_method_80_code
def yX11_isSum : MethodName := ⟨RX11, "isSum", "(I)Z"⟩
abbrev cX11_ways : ByteArray := prog_13_method_81_code
def yX11_ways : MethodName := ⟨RX11, "ways", "(I)I"⟩
abbrev cX11_chosen : ByteArray := prog_13_method_82_code
def yX11_chosen : MethodName := ⟨RX11, "chosen", "(I)I"⟩
abbrev cX11_isNew : ByteArray := prog_13_method_83_code
def yX11_isNew : MethodName := ⟨RX11, "isNew", "(I)Z"⟩
abbrev cX11_sums : ByteArray := prog_13_method_84_code
def yX11_sums : MethodName := ⟨RX11, "sums", "()I"⟩
abbrev cX11_nearest : ByteArray := prog_13_method_85_code
def yX11_nearest : MethodName := ⟨RX11, "nearest", "(I)I"⟩
abbrev cX11_remembers : ByteArray := prog_13_method_86_code
def yX11_remembers : MethodName := ⟨RX11, "remembers", "()V"⟩
abbrev cX11_add : ByteArray := prog_13_method_87_code
def yX11_add : MethodName := ⟨RX11, "add", "(I)I"⟩
abbrev cX11_parts : ByteArray := prog_13_method_88_code
def yX11_parts : MethodName := ⟨RX11, "parts", "(I)V"⟩
abbrev cX11_drop : ByteArray := prog_13_method_89_code
def yX11_drop : MethodName := ⟨RX11, "drop", "(I)I"⟩
abbrev cX11_changes : ByteArray := prog_13_method_90_code
def yX11_changes : MethodName := ⟨RX11, "changes", "(II)I"⟩
abbrev cX11_become : ByteArray := prog_13_method_91_code
def yX11_become : MethodName := ⟨RX11, "become", "(II)I"⟩
abbrev cX11_keepIn : ByteArray := prog_13_method_92_code
def yX11_keepIn : MethodName := ⟨RX11, "keepIn", "(II)I"⟩
abbrev cX11_apart : ByteArray := prog_13_method_93_code
def yX11_apart : MethodName := ⟨RX11, "apart", "(II)I"⟩
abbrev cX11_sort : ByteArray := prog_13_method_94_code
def yX11_sort : MethodName := ⟨RX11, "sort", "()I"⟩
abbrev cX11_heaps : ByteArray := prog_13_method_95_code
def yX11_heaps : MethodName := ⟨RX11, "heaps", "(I)I"⟩
abbrev cX11_undo : ByteArray := prog_13_method_96_code
def yX11_undo : MethodName := ⟨RX11, "undo", "()I"⟩
abbrev cX11_image : ByteArray := prog_13_method_97_code
def yX11_image : MethodName := ⟨RX11, "image", "(I)Z"⟩
abbrev cX11_back : ByteArray := prog_13_method_98_code
def yX11_back : MethodName := ⟨RX11, "back", "(I)Z"⟩
abbrev cX11_writes : ByteArray := prog_13_method_99_code
def yX11_writes : MethodName := ⟨RX11, "writes", "(I)V"⟩
abbrev cX11_writesNumber : ByteArray := prog_13_method_100_code
def yX11_writesNumber : MethodName := ⟨RX11, "writesNumber", "(I)V"⟩
abbrev cX11_write : ByteArray := prog_13_method_101_code
def yX11_write : MethodName := ⟨RX11, "write", "()I"⟩
abbrev cX11_octet : ByteArray := prog_13_method_102_code
def yX11_octet : MethodName := ⟨RX11, "octet", "(I)I"⟩
abbrev cX11_bytes : ByteArray := prog_13_method_103_code
def yX11_bytes : MethodName := ⟨RX11, "bytes", "()I"⟩
abbrev cX11_trouble : ByteArray := prog_13_method_104_code
def yX11_trouble : MethodName := ⟨RX11, "trouble", "()I"⟩
def RJx145de : String := "java/io/Serializable"
def TJx145de : u_T := fun k => match k with
  | _ => ("", "", "", false)
def tyJx145de : Nat → FieldType := fun k => match k with
  | _ => .int
abbrev wsJx145de0 : List Cond := u_ws RJx145de TJx145de 0
theorem nmJx145de : ∀ a, a < 0 → ∀ b, b < 0 → a ≠ b → (TJx145de a).2.1 ≠ (TJx145de b).2.1 := by decide +kernel
theorem tyJx145de_ok : ∀ k, k < 0 → parseFieldDescriptor (TJx145de k).2.2.1 = some (tyJx145de k) := by decide +kernel
def RJx9f9b0 : String := "java/lang/CharSequence"
def TJx9f9b0 : u_T := fun k => match k with
  | _ => ("", "", "", false)
def tyJx9f9b0 : Nat → FieldType := fun k => match k with
  | _ => .int
abbrev wsJx9f9b00 : List Cond := u_ws RJx9f9b0 TJx9f9b0 0
theorem nmJx9f9b0 : ∀ a, a < 0 → ∀ b, b < 0 → a ≠ b → (TJx9f9b0 a).2.1 ≠ (TJx9f9b0 b).2.1 := by decide +kernel
theorem tyJx9f9b0_ok : ∀ k, k < 0 → parseFieldDescriptor (TJx9f9b0 k).2.2.1 = some (tyJx9f9b0 k) := by decide +kernel
def RJxb160c : String := "java/lang/Comparable"
def TJxb160c : u_T := fun k => match k with
  | _ => ("", "", "", false)
def tyJxb160c : Nat → FieldType := fun k => match k with
  | _ => .int
abbrev wsJxb160c0 : List Cond := u_ws RJxb160c TJxb160c 0
theorem nmJxb160c : ∀ a, a < 0 → ∀ b, b < 0 → a ≠ b → (TJxb160c a).2.1 ≠ (TJxb160c b).2.1 := by decide +kernel
theorem tyJxb160c_ok : ∀ k, k < 0 → parseFieldDescriptor (TJxb160c k).2.2.1 = some (tyJxb160c k) := by decide +kernel
def RJ6 : String := "java/lang/Integer"
def TJ6 : u_T := fun k => match k with
  | _ => ("", "", "", false)
def tyJ6 : Nat → FieldType := fun k => match k with
  | _ => .int
abbrev wsJ60 : List Cond := u_ws RJ6 TJ6 0
theorem nmJ6 : ∀ a, a < 0 → ∀ b, b < 0 → a ≠ b → (TJ6 a).2.1 ≠ (TJ6 b).2.1 := by decide +kernel
theorem tyJ6_ok : ∀ k, k < 0 → parseFieldDescriptor (TJ6 k).2.2.1 = some (tyJ6 k) := by decide +kernel
abbrev cJ6_bitCount_0f7a4 : ByteArray := prog_18_method_49_code
def yJ6_bitCount_0f7a4 : MethodName := ⟨RJ6, "bitCount", "(I)I"⟩
def RJ9 : String := "java/lang/Math"
def TJ9 : u_T := fun k => match k with
  | _ => ("", "", "", false)
def tyJ9 : Nat → FieldType := fun k => match k with
  | _ => .int
abbrev wsJ90 : List Cond := u_ws RJ9 TJ9 0
theorem nmJ9 : ∀ a, a < 0 → ∀ b, b < 0 → a ≠ b → (TJ9 a).2.1 ≠ (TJ9 b).2.1 := by decide +kernel
theorem tyJ9_ok : ∀ k, k < 0 → parseFieldDescriptor (TJ9 k).2.2.1 = some (tyJ9 k) := by decide +kernel
abbrev cJ9_max_7cf53 : ByteArray := prog_19_method_65_code
def yJ9_max_7cf53 : MethodName := ⟨RJ9, "max", "(II)I"⟩
abbrev cJ9_min_7cf53 : ByteArray := prog_19_method_69_code
def yJ9_min_7cf53 : MethodName := ⟨RJ9, "min", "(II)I"⟩
def RJ0 : String := "java/lang/String"
def TJ0 : u_T := fun k => match k with
  | _ => ("", "", "", false)
def tyJ0 : Nat → FieldType := fun k => match k with
  | _ => .int
abbrev wsJ00 : List Cond := u_ws RJ0 TJ0 0
theorem nmJ0 : ∀ a, a < 0 → ∀ b, b < 0 → a ≠ b → (TJ0 a).2.1 ≠ (TJ0 b).2.1 := by decide +kernel
theorem tyJ0_ok : ∀ k, k < 0 → parseFieldDescriptor (TJ0 k).2.2.1 = some (tyJ0 k) := by decide +kernel
abbrev cJ0_length_8abf5 : ByteArray := prog_21_method_54_code
def yJ0_length_8abf5 : MethodName := ⟨RJ0, "length", "()I"⟩
abbrev cJ0_charAt_5068e : ByteArray := prog_21_method_56_code
def yJ0_charAt_5068e : MethodName := ⟨RJ0, "charAt", "(I)C"⟩
abbrev cJ0_coder_7d493 : ByteArray := prog_21_method_152_code
def yJ0_coder_7d493 : MethodName := ⟨RJ0, "coder", "()B"⟩
abbrev cJ0_isLatin1_aae02 : ByteArray := prog_21_method_154_code
def yJ0_isLatin1_aae02 : MethodName := ⟨RJ0, "isLatin1", "()Z"⟩
abbrev cJ0_checkIndex_df160 : ByteArray := prog_21_method_155_code
def yJ0_checkIndex_df160 : MethodName := ⟨RJ0, "checkIndex", "(II)V"⟩
def RJ1 : String := "java/lang/StringLatin1"
def TJ1 : u_T := fun k => match k with
  | _ => ("", "", "", false)
def tyJ1 : Nat → FieldType := fun k => match k with
  | _ => .int
abbrev wsJ10 : List Cond := u_ws RJ1 TJ1 0
theorem nmJ1 : ∀ a, a < 0 → ∀ b, b < 0 → a ≠ b → (TJ1 a).2.1 ≠ (TJ1 b).2.1 := by decide +kernel
theorem tyJ1_ok : ∀ k, k < 0 → parseFieldDescriptor (TJ1 k).2.2.1 = some (tyJ1 k) := by decide +kernel
abbrev cJ1_charAt_3b067 : ByteArray := prog_22_method_2_code
def yJ1_charAt_3b067 : MethodName := ⟨RJ1, "charAt", "([BI)C"⟩
def RJ2 : String := "java/lang/StringUTF16"
def TJ2 : u_T := fun k => match k with
  | _ => ("", "", "", false)
def tyJ2 : Nat → FieldType := fun k => match k with
  | _ => .int
abbrev wsJ20 : List Cond := u_ws RJ2 TJ2 0
theorem nmJ2 : ∀ a, a < 0 → ∀ b, b < 0 → a ≠ b → (TJ2 a).2.1 ≠ (TJ2 b).2.1 := by decide +kernel
theorem tyJ2_ok : ∀ k, k < 0 → parseFieldDescriptor (TJ2 k).2.2.1 = some (tyJ2 k) := by decide +kernel
abbrev cJ2_getChar_3b067 : ByteArray := prog_23_method_5_code
def yJ2_getChar_3b067 : MethodName := ⟨RJ2, "getChar", "([BI)C"⟩
abbrev cJ2_length_9d52b : ByteArray := prog_23_method_6_code
def yJ2_length_9d52b : MethodName := ⟨RJ2, "length", "([B)I"⟩
abbrev cJ2_charAt_3b067 : ByteArray := prog_23_method_83_code
def yJ2_charAt_3b067 : MethodName := ⟨RJ2, "charAt", "([BI)C"⟩
abbrev cJ2_checkIndex_2214a : ByteArray := prog_23_method_91_code
def yJ2_checkIndex_2214a : MethodName := ⟨RJ2, "checkIndex", "(I[B)V"⟩
def RJ10 : String := "java/lang/System"
def TJ10 : u_T := fun k => match k with
  | _ => ("", "", "", false)
def tyJ10 : Nat → FieldType := fun k => match k with
  | _ => .int
abbrev wsJ100 : List Cond := u_ws RJ10 TJ10 0
theorem nmJ10 : ∀ a, a < 0 → ∀ b, b < 0 → a ≠ b → (TJ10 a).2.1 ≠ (TJ10 b).2.1 := by decide +kernel
theorem tyJ10_ok : ∀ k, k < 0 → parseFieldDescriptor (TJ10 k).2.2.1 = some (tyJ10 k) := by decide +kernel
def RJxfd54e : String := "java/lang/constant/Constable"
def TJxfd54e : u_T := fun k => match k with
  | _ => ("", "", "", false)
def tyJxfd54e : Nat → FieldType := fun k => match k with
  | _ => .int
abbrev wsJxfd54e0 : List Cond := u_ws RJxfd54e TJxfd54e 0
theorem nmJxfd54e : ∀ a, a < 0 → ∀ b, b < 0 → a ≠ b → (TJxfd54e a).2.1 ≠ (TJxfd54e b).2.1 := by decide +kernel
theorem tyJxfd54e_ok : ∀ k, k < 0 → parseFieldDescriptor (TJxfd54e k).2.2.1 = some (tyJxfd54e k) := by decide +kernel
def RJx3cf43 : String := "java/lang/constant/ConstantDesc"
def TJx3cf43 : u_T := fun k => match k with
  | _ => ("", "", "", false)
def tyJx3cf43 : Nat → FieldType := fun k => match k with
  | _ => .int
abbrev wsJx3cf430 : List Cond := u_ws RJx3cf43 TJx3cf43 0
theorem nmJx3cf43 : ∀ a, a < 0 → ∀ b, b < 0 → a ≠ b → (TJx3cf43 a).2.1 ≠ (TJx3cf43 b).2.1 := by decide +kernel
theorem tyJx3cf43_ok : ∀ k, k < 0 → parseFieldDescriptor (TJx3cf43 k).2.2.1 = some (tyJx3cf43 k) := by decide +kernel
def RJ3 : String := "jdk/internal/util/Preconditions"
def TJ3 : u_T := fun k => match k with
  | _ => ("", "", "", false)
def tyJ3 : Nat → FieldType := fun k => match k with
  | _ => .int
abbrev wsJ30 : List Cond := u_ws RJ3 TJ3 0
theorem nmJ3 : ∀ a, a < 0 → ∀ b, b < 0 → a ≠ b → (TJ3 a).2.1 ≠ (TJ3 b).2.1 := by decide +kernel
theorem tyJ3_ok : ∀ k, k < 0 → parseFieldDescriptor (TJ3 k).2.2.1 = some (tyJ3 k) := by decide +kernel
abbrev cJ3_checkIndex_8e157 : ByteArray := prog_29_method_11_code
def yJ3_checkIndex_8e157 : MethodName := ⟨RJ3, "checkIndex", "(IILjava/util/function/BiFunction;)I"⟩
def RL : String := "NumberHeapsLaw"
abbrev cL_octet : ByteArray := method_3_code
def yL_octet : MethodName := ⟨RL, "octet", "(LNumberHeaps;I[J)I"⟩
abbrev cL_law : ByteArray := code
def yL_law : MethodName := ⟨RL, "law", "([I)Z"⟩
abbrev vwCl : List vw_C := [(RX0, TX0, 3), (RX1, TX1, 8), (RX2, TX2, 4), (RX3, TX3, 4), (RX4, TX4, 6), (RX5, TX5, 13), (RX6, TX6, 10), (RX7, TX7, 11), (RX8, TX8, 4), (RX9, TX9, 6), (RX10, TX10, 15), (RX11, TX11, 52)]
end
section
/-- a method: its name, its bytes, its locals, what it returns -/
abbrev zM : Type := MethodName × ByteArray × Nat × Option FieldType
def Wd : List Cond := lw_tbl.filter goodWord
theorem zwd (i : Nat) {w : Cond} (h : lw_tbl[i]? = some w) (g : goodWord w = true) : w ∈ Wd := List.mem_filter.mpr ⟨List.mem_of_getElem? h, g⟩
/-- the words on which a call of an instance's method stands -/
def zMi (M : zM) (n : Nat) : Prop := Cond.code M.1 M.2.1 M.2.2.1 M.2.2.2 ∈ Wd ∧ Cond.initialized M.1.cls ∈ Wd ∧ Cond.instanceMethod M.1 ∈ Wd ∧ Cond.selects M.1.cls M.1 M.1 ∈ Wd ∧ plainName M.1.cls = true ∧ M.1.cls ≠ "java/lang/invoke/MethodHandle" ∧ M.1.cls ≠ "java/lang/invoke/VarHandle" ∧ (parseMethodDescriptor M.1.desc).map (fun d => d.parameters.length) = some n
/-- of a static one -/
def zMs (M : zM) (n : Nat) : Prop := Cond.code M.1 M.2.1 M.2.2.1 M.2.2.2 ∈ Wd ∧ Cond.initialized M.1.cls ∈ Wd ∧ Cond.static M.1 ∈ Wd ∧ plainName M.1.cls = true ∧ M.1.cls ≠ "java/lang/invoke/MethodHandle" ∧ M.1.cls ≠ "java/lang/invoke/VarHandle" ∧ (parseMethodDescriptor M.1.desc).map (fun d => d.parameters.length) = some n
/-- of a constructor -/
def zMc (M : zM) (n : Nat) : Prop := Cond.code M.1 M.2.1 M.2.2.1 M.2.2.2 ∈ Wd ∧ Cond.initialized M.1.cls ∈ Wd ∧ Cond.instanceMethod M.1 ∈ Wd ∧ M.1.name = "<init>" ∧ plainName M.1.cls = true ∧ M.1.cls ≠ "java/lang/invoke/MethodHandle" ∧ M.1.cls ≠ "java/lang/invoke/VarHandle" ∧ (parseMethodDescriptor M.1.desc).map (fun d => d.parameters.length) = some n
def mX3_init : zM := (yX3_init, cX3_init, 1, none)
theorem kX3_init : zMc mX3_init 0 := ⟨zwd 297 (by decide +kernel) (by decide +kernel), zwd 112 (by decide +kernel) (by decide +kernel), zwd 296 (by decide +kernel) (by decide +kernel), rfl, by decide +kernel, by decide +kernel, by decide +kernel, by decide +kernel⟩
def mX0_init : zM := (yX0_init, cX0_init, 1, none)
theorem kX0_init : zMc mX0_init 0 := ⟨zwd 291 (by decide +kernel) (by decide +kernel), zwd 111 (by decide +kernel) (by decide +kernel), zwd 290 (by decide +kernel) (by decide +kernel), rfl, by decide +kernel, by decide +kernel, by decide +kernel, by decide +kernel⟩
def mX10_leastMember : zM := (yX10_leastMember, cX10_leastMember, 1, (some .int))
theorem kX10_leastMember : zMs mX10_leastMember 1 := ⟨zwd 816 (by decide +kernel) (by decide +kernel), zwd 106 (by decide +kernel) (by decide +kernel), zwd 815 (by decide +kernel) (by decide +kernel), by decide +kernel, by decide +kernel, by decide +kernel, by decide +kernel⟩
def mX3_goesAhead : zM := (yX3_goesAhead, cX3_goesAhead, 4, (some .boolean))
theorem kX3_goesAhead : zMi mX3_goesAhead 3 := ⟨zwd 820 (by decide +kernel) (by decide +kernel), zwd 112 (by decide +kernel) (by decide +kernel), zwd 819 (by decide +kernel) (by decide +kernel), zwd 21 (by decide +kernel) (by decide +kernel), by decide +kernel, by decide +kernel, by decide +kernel, by decide +kernel⟩
def mX3_insert : zM := (yX3_insert, cX3_insert, 5, none)
theorem kX3_insert : zMi mX3_insert 3 := ⟨zwd 813 (by decide +kernel) (by decide +kernel), zwd 112 (by decide +kernel) (by decide +kernel), zwd 812 (by decide +kernel) (by decide +kernel), zwd 20 (by decide +kernel) (by decide +kernel), by decide +kernel, by decide +kernel, by decide +kernel, by decide +kernel⟩
def mX3_takeNumbers : zM := (yX3_takeNumbers, cX3_takeNumbers, 3, none)
theorem kX3_takeNumbers : zMi mX3_takeNumbers 1 := ⟨zwd 809 (by decide +kernel) (by decide +kernel), zwd 112 (by decide +kernel) (by decide +kernel), zwd 807 (by decide +kernel) (by decide +kernel), zwd 808 (by decide +kernel) (by decide +kernel), by decide +kernel, by decide +kernel, by decide +kernel, by decide +kernel⟩
def mX3_mergeFirstTwo : zM := (yX3_mergeFirstTwo, cX3_mergeFirstTwo, 4, none)
theorem kX3_mergeFirstTwo : zMi mX3_mergeFirstTwo 3 := ⟨zwd 828 (by decide +kernel) (by decide +kernel), zwd 112 (by decide +kernel) (by decide +kernel), zwd 827 (by decide +kernel) (by decide +kernel), zwd 22 (by decide +kernel) (by decide +kernel), by decide +kernel, by decide +kernel, by decide +kernel, by decide +kernel⟩
def mX3_differenceFirstTwo : zM := (yX3_differenceFirstTwo, cX3_differenceFirstTwo, 1, none)
theorem kX3_differenceFirstTwo : zMi mX3_differenceFirstTwo 0 := ⟨zwd 824 (by decide +kernel) (by decide +kernel), zwd 112 (by decide +kernel) (by decide +kernel), zwd 822 (by decide +kernel) (by decide +kernel), zwd 823 (by decide +kernel) (by decide +kernel), by decide +kernel, by decide +kernel, by decide +kernel, by decide +kernel⟩
def mX0_run : zM := (yX0_run, cX0_run, 3, none)
theorem kX0_run : zMi mX0_run 1 := ⟨zwd 805 (by decide +kernel) (by decide +kernel), zwd 111 (by decide +kernel) (by decide +kernel), zwd 803 (by decide +kernel) (by decide +kernel), zwd 804 (by decide +kernel) (by decide +kernel), by decide +kernel, by decide +kernel, by decide +kernel, by decide +kernel⟩
def mX1_init : zM := (yX1_init, cX1_init, 1, none)
theorem kX1_init : zMc mX1_init 0 := ⟨zwd 258 (by decide +kernel) (by decide +kernel), zwd 110 (by decide +kernel) (by decide +kernel), zwd 257 (by decide +kernel) (by decide +kernel), rfl, by decide +kernel, by decide +kernel, by decide +kernel, by decide +kernel⟩
def mX1_leastHeap : zM := (yX1_leastHeap, cX1_leastHeap, 3, (some .int))
theorem kX1_leastHeap : zMi mX1_leastHeap 0 := ⟨zwd 775 (by decide +kernel) (by decide +kernel), zwd 110 (by decide +kernel) (by decide +kernel), zwd 774 (by decide +kernel) (by decide +kernel), zwd 19 (by decide +kernel) (by decide +kernel), by decide +kernel, by decide +kernel, by decide +kernel, by decide +kernel⟩
def mX1_fillBySize : zM := (yX1_fillBySize, cX1_fillBySize, 6, none)
theorem kX1_fillBySize : zMi mX1_fillBySize 2 := ⟨zwd 771 (by decide +kernel) (by decide +kernel), zwd 110 (by decide +kernel) (by decide +kernel), zwd 769 (by decide +kernel) (by decide +kernel), zwd 770 (by decide +kernel) (by decide +kernel), by decide +kernel, by decide +kernel, by decide +kernel, by decide +kernel⟩
def mX10_greatestAmong : zM := (yX10_greatestAmong, cX10_greatestAmong, 4, (some .int))
theorem kX10_greatestAmong : zMs mX10_greatestAmong 2 := ⟨zwd 782 (by decide +kernel) (by decide +kernel), zwd 106 (by decide +kernel) (by decide +kernel), zwd 781 (by decide +kernel) (by decide +kernel), by decide +kernel, by decide +kernel, by decide +kernel, by decide +kernel⟩
def mX1_greatest : zM := (yX1_greatest, cX1_greatest, 1, (some .int))
theorem kX1_greatest : zMi mX1_greatest 0 := ⟨zwd 793 (by decide +kernel) (by decide +kernel), zwd 110 (by decide +kernel) (by decide +kernel), zwd 791 (by decide +kernel) (by decide +kernel), zwd 792 (by decide +kernel) (by decide +kernel), by decide +kernel, by decide +kernel, by decide +kernel, by decide +kernel⟩
def mX10_leastAmong : zM := (yX10_leastAmong, cX10_leastAmong, 4, (some .int))
theorem kX10_leastAmong : zMs mX10_leastAmong 2 := ⟨zwd 788 (by decide +kernel) (by decide +kernel), zwd 106 (by decide +kernel) (by decide +kernel), zwd 787 (by decide +kernel) (by decide +kernel), by decide +kernel, by decide +kernel, by decide +kernel, by decide +kernel⟩
def mX1_spread : zM := (yX1_spread, cX1_spread, 1, (some .int))
theorem kX1_spread : zMi mX1_spread 0 := ⟨zwd 779 (by decide +kernel) (by decide +kernel), zwd 110 (by decide +kernel) (by decide +kernel), zwd 777 (by decide +kernel) (by decide +kernel), zwd 778 (by decide +kernel) (by decide +kernel), by decide +kernel, by decide +kernel, by decide +kernel, by decide +kernel⟩
def mX1_shift : zM := (yX1_shift, cX1_shift, 4, none)
theorem kX1_shift : zMi mX1_shift 3 := ⟨zwd 1029 (by decide +kernel) (by decide +kernel), zwd 110 (by decide +kernel) (by decide +kernel), zwd 1028 (by decide +kernel) (by decide +kernel), zwd 44 (by decide +kernel) (by decide +kernel), by decide +kernel, by decide +kernel, by decide +kernel, by decide +kernel⟩
def mX1_consider : zM := (yX1_consider, cX1_consider, 6, none)
theorem kX1_consider : zMi mX1_consider 4 := ⟨zwd 1025 (by decide +kernel) (by decide +kernel), zwd 110 (by decide +kernel) (by decide +kernel), zwd 1024 (by decide +kernel) (by decide +kernel), zwd 43 (by decide +kernel) (by decide +kernel), by decide +kernel, by decide +kernel, by decide +kernel, by decide +kernel⟩
def mX1_tryMoves : zM := (yX1_tryMoves, cX1_tryMoves, 4, none)
theorem kX1_tryMoves : zMi mX1_tryMoves 1 := ⟨zwd 1021 (by decide +kernel) (by decide +kernel), zwd 110 (by decide +kernel) (by decide +kernel), zwd 1020 (by decide +kernel) (by decide +kernel), zwd 42 (by decide +kernel) (by decide +kernel), by decide +kernel, by decide +kernel, by decide +kernel, by decide +kernel⟩
def mX1_tryExchanges : zM := (yX1_tryExchanges, cX1_tryExchanges, 4, none)
theorem kX1_tryExchanges : zMi mX1_tryExchanges 1 := ⟨zwd 1033 (by decide +kernel) (by decide +kernel), zwd 110 (by decide +kernel) (by decide +kernel), zwd 1032 (by decide +kernel) (by decide +kernel), zwd 45 (by decide +kernel) (by decide +kernel), by decide +kernel, by decide +kernel, by decide +kernel, by decide +kernel⟩
def mX1_makeBest : zM := (yX1_makeBest, cX1_makeBest, 3, none)
theorem kX1_makeBest : zMi mX1_makeBest 1 := ⟨zwd 1037 (by decide +kernel) (by decide +kernel), zwd 110 (by decide +kernel) (by decide +kernel), zwd 1036 (by decide +kernel) (by decide +kernel), zwd 46 (by decide +kernel) (by decide +kernel), by decide +kernel, by decide +kernel, by decide +kernel, by decide +kernel⟩
def mX1_improve : zM := (yX1_improve, cX1_improve, 4, none)
theorem kX1_improve : zMi mX1_improve 2 := ⟨zwd 1014 (by decide +kernel) (by decide +kernel), zwd 110 (by decide +kernel) (by decide +kernel), zwd 1012 (by decide +kernel) (by decide +kernel), zwd 1013 (by decide +kernel) (by decide +kernel), by decide +kernel, by decide +kernel, by decide +kernel, by decide +kernel⟩
def mX9_init : zM := (yX9_init, cX9_init, 1, none)
theorem kX9_init : zMc mX9_init 0 := ⟨zwd 147 (by decide +kernel) (by decide +kernel), zwd 108 (by decide +kernel) (by decide +kernel), zwd 146 (by decide +kernel) (by decide +kernel), rfl, by decide +kernel, by decide +kernel, by decide +kernel, by decide +kernel⟩
def mX2_init : zM := (yX2_init, cX2_init, 2, none)
theorem kX2_init : zMc mX2_init 0 := ⟨zwd 234 (by decide +kernel) (by decide +kernel), zwd 109 (by decide +kernel) (by decide +kernel), zwd 233 (by decide +kernel) (by decide +kernel), rfl, by decide +kernel, by decide +kernel, by decide +kernel, by decide +kernel⟩
def mX9_copyFrom : zM := (yX9_copyFrom, cX9_copyFrom, 2, none)
theorem kX9_copyFrom : zMi mX9_copyFrom 1 := ⟨zwd 688 (by decide +kernel) (by decide +kernel), zwd 108 (by decide +kernel) (by decide +kernel), zwd 686 (by decide +kernel) (by decide +kernel), zwd 687 (by decide +kernel) (by decide +kernel), by decide +kernel, by decide +kernel, by decide +kernel, by decide +kernel⟩
def mX2_keepAct : zM := (yX2_keepAct, cX2_keepAct, 3, (some (.object "NumberHeaps$State")))
theorem kX2_keepAct : zMi mX2_keepAct 1 := ⟨zwd 1104 (by decide +kernel) (by decide +kernel), zwd 109 (by decide +kernel) (by decide +kernel), zwd 1102 (by decide +kernel) (by decide +kernel), zwd 1103 (by decide +kernel) (by decide +kernel), by decide +kernel, by decide +kernel, by decide +kernel, by decide +kernel⟩
def mX2_takeBack : zM := (yX2_takeBack, cX2_takeBack, 2, none)
theorem kX2_takeBack : zMi mX2_takeBack 1 := ⟨zwd 1153 (by decide +kernel) (by decide +kernel), zwd 109 (by decide +kernel) (by decide +kernel), zwd 1151 (by decide +kernel) (by decide +kernel), zwd 1152 (by decide +kernel) (by decide +kernel), by decide +kernel, by decide +kernel, by decide +kernel, by decide +kernel⟩
def mX2_forgetActs : zM := (yX2_forgetActs, cX2_forgetActs, 1, none)
theorem kX2_forgetActs : zMi mX2_forgetActs 0 := ⟨zwd 695 (by decide +kernel) (by decide +kernel), zwd 109 (by decide +kernel) (by decide +kernel), zwd 693 (by decide +kernel) (by decide +kernel), zwd 694 (by decide +kernel) (by decide +kernel), by decide +kernel, by decide +kernel, by decide +kernel, by decide +kernel⟩
def mX9_empty : zM := (yX9_empty, cX9_empty, 1, none)
theorem kX9_empty : zMi mX9_empty 0 := ⟨zwd 551 (by decide +kernel) (by decide +kernel), zwd 108 (by decide +kernel) (by decide +kernel), zwd 549 (by decide +kernel) (by decide +kernel), zwd 550 (by decide +kernel) (by decide +kernel), by decide +kernel, by decide +kernel, by decide +kernel, by decide +kernel⟩
def mX2_forgetImages : zM := (yX2_forgetImages, cX2_forgetImages, 2, none)
theorem kX2_forgetImages : zMi mX2_forgetImages 0 := ⟨zwd 699 (by decide +kernel) (by decide +kernel), zwd 109 (by decide +kernel) (by decide +kernel), zwd 697 (by decide +kernel) (by decide +kernel), zwd 698 (by decide +kernel) (by decide +kernel), by decide +kernel, by decide +kernel, by decide +kernel, by decide +kernel⟩
def mX3_copyFrom : zM := (yX3_copyFrom, cX3_copyFrom, 2, none)
theorem kX3_copyFrom : zMi mX3_copyFrom 1 := ⟨zwd 919 (by decide +kernel) (by decide +kernel), zwd 112 (by decide +kernel) (by decide +kernel), zwd 917 (by decide +kernel) (by decide +kernel), zwd 918 (by decide +kernel) (by decide +kernel), by decide +kernel, by decide +kernel, by decide +kernel, by decide +kernel⟩
def mX3_addFirstTwo : zM := (yX3_addFirstTwo, cX3_addFirstTwo, 1, none)
theorem kX3_addFirstTwo : zMi mX3_addFirstTwo 0 := ⟨zwd 923 (by decide +kernel) (by decide +kernel), zwd 112 (by decide +kernel) (by decide +kernel), zwd 921 (by decide +kernel) (by decide +kernel), zwd 922 (by decide +kernel) (by decide +kernel), by decide +kernel, by decide +kernel, by decide +kernel, by decide +kernel⟩
def mX3_firstLessOthers : zM := (yX3_firstLessOthers, cX3_firstLessOthers, 3, (some .int))
theorem kX3_firstLessOthers : zMi mX3_firstLessOthers 0 := ⟨zwd 903 (by decide +kernel) (by decide +kernel), zwd 112 (by decide +kernel) (by decide +kernel), zwd 901 (by decide +kernel) (by decide +kernel), zwd 902 (by decide +kernel) (by decide +kernel), by decide +kernel, by decide +kernel, by decide +kernel, by decide +kernel⟩
def mX3_leafFirstSide : zM := (yX3_leafFirstSide, cX3_leafFirstSide, 3, (some .int))
theorem kX3_leafFirstSide : zMi mX3_leafFirstSide 0 := ⟨zwd 911 (by decide +kernel) (by decide +kernel), zwd 112 (by decide +kernel) (by decide +kernel), zwd 909 (by decide +kernel) (by decide +kernel), zwd 910 (by decide +kernel) (by decide +kernel), by decide +kernel, by decide +kernel, by decide +kernel, by decide +kernel⟩
def mX4_init : zM := (yX4_init, cX4_init, 1, none)
theorem kX4_init : zMc mX4_init 0 := ⟨zwd 384 (by decide +kernel) (by decide +kernel), zwd 114 (by decide +kernel) (by decide +kernel), zwd 383 (by decide +kernel) (by decide +kernel), rfl, by decide +kernel, by decide +kernel, by decide +kernel, by decide +kernel⟩
def mX4_width : zM := (yX4_width, cX4_width, 2, (some .int))
theorem kX4_width : zMi mX4_width 1 := ⟨zwd 860 (by decide +kernel) (by decide +kernel), zwd 114 (by decide +kernel) (by decide +kernel), zwd 859 (by decide +kernel) (by decide +kernel), zwd 25 (by decide +kernel) (by decide +kernel), by decide +kernel, by decide +kernel, by decide +kernel, by decide +kernel⟩
def mX4_allMembers : zM := (yX4_allMembers, cX4_allMembers, 4, (some .int))
theorem kX4_allMembers : zMi mX4_allMembers 1 := ⟨zwd 864 (by decide +kernel) (by decide +kernel), zwd 114 (by decide +kernel) (by decide +kernel), zwd 863 (by decide +kernel) (by decide +kernel), zwd 26 (by decide +kernel) (by decide +kernel), by decide +kernel, by decide +kernel, by decide +kernel, by decide +kernel⟩
def mX4_itemGoesAhead : zM := (yX4_itemGoesAhead, cX4_itemGoesAhead, 3, (some .boolean))
theorem kX4_itemGoesAhead : zMi mX4_itemGoesAhead 2 := ⟨zwd 856 (by decide +kernel) (by decide +kernel), zwd 114 (by decide +kernel) (by decide +kernel), zwd 855 (by decide +kernel) (by decide +kernel), zwd 24 (by decide +kernel) (by decide +kernel), by decide +kernel, by decide +kernel, by decide +kernel, by decide +kernel⟩
def mX4_firstItemBut : zM := (yX4_firstItemBut, cX4_firstItemBut, 4, (some .int))
theorem kX4_firstItemBut : zMi mX4_firstItemBut 1 := ⟨zwd 852 (by decide +kernel) (by decide +kernel), zwd 114 (by decide +kernel) (by decide +kernel), zwd 851 (by decide +kernel) (by decide +kernel), zwd 23 (by decide +kernel) (by decide +kernel), by decide +kernel, by decide +kernel, by decide +kernel, by decide +kernel⟩
def mX4_orderParts : zM := (yX4_orderParts, cX4_orderParts, 7, none)
theorem kX4_orderParts : zMi mX4_orderParts 2 := ⟨zwd 873 (by decide +kernel) (by decide +kernel), zwd 114 (by decide +kernel) (by decide +kernel), zwd 872 (by decide +kernel) (by decide +kernel), zwd 28 (by decide +kernel) (by decide +kernel), by decide +kernel, by decide +kernel, by decide +kernel, by decide +kernel⟩
def mX4_join : zM := (yX4_join, cX4_join, 5, none)
theorem kX4_join : zMi mX4_join 2 := ⟨zwd 869 (by decide +kernel) (by decide +kernel), zwd 114 (by decide +kernel) (by decide +kernel), zwd 868 (by decide +kernel) (by decide +kernel), zwd 27 (by decide +kernel) (by decide +kernel), by decide +kernel, by decide +kernel, by decide +kernel, by decide +kernel⟩
def mX4_run : zM := (yX4_run, cX4_run, 6, none)
theorem kX4_run : zMi mX4_run 2 := ⟨zwd 848 (by decide +kernel) (by decide +kernel), zwd 114 (by decide +kernel) (by decide +kernel), zwd 846 (by decide +kernel) (by decide +kernel), zwd 847 (by decide +kernel) (by decide +kernel), by decide +kernel, by decide +kernel, by decide +kernel, by decide +kernel⟩
def mX4_lastWidth : zM := (yX4_lastWidth, cX4_lastWidth, 1, (some .int))
theorem kX4_lastWidth : zMi mX4_lastWidth 0 := ⟨zwd 877 (by decide +kernel) (by decide +kernel), zwd 114 (by decide +kernel) (by decide +kernel), zwd 875 (by decide +kernel) (by decide +kernel), zwd 876 (by decide +kernel) (by decide +kernel), by decide +kernel, by decide +kernel, by decide +kernel, by decide +kernel⟩
def mX4_heapOf : zM := (yX4_heapOf, cX4_heapOf, 3, (some .int))
theorem kX4_heapOf : zMi mX4_heapOf 1 := ⟨zwd 885 (by decide +kernel) (by decide +kernel), zwd 114 (by decide +kernel) (by decide +kernel), zwd 883 (by decide +kernel) (by decide +kernel), zwd 884 (by decide +kernel) (by decide +kernel), by decide +kernel, by decide +kernel, by decide +kernel, by decide +kernel⟩
def mX5_init : zM := (yX5_init, cX5_init, 2, none)
theorem kX5_init : zMc mX5_init 1 := ⟨zwd 432 (by decide +kernel) (by decide +kernel), zwd 116 (by decide +kernel) (by decide +kernel), zwd 431 (by decide +kernel) (by decide +kernel), rfl, by decide +kernel, by decide +kernel, by decide +kernel, by decide +kernel⟩
def mX9_total : zM := (yX9_total, cX9_total, 3, (some .int))
theorem kX9_total : zMi mX9_total 0 := ⟨zwd 732 (by decide +kernel) (by decide +kernel), zwd 108 (by decide +kernel) (by decide +kernel), zwd 730 (by decide +kernel) (by decide +kernel), zwd 731 (by decide +kernel) (by decide +kernel), by decide +kernel, by decide +kernel, by decide +kernel, by decide +kernel⟩
def mX5_takeRow : zM := (yX5_takeRow, cX5_takeRow, 4, none)
theorem kX5_takeRow : zMi mX5_takeRow 1 := ⟨zwd 961 (by decide +kernel) (by decide +kernel), zwd 116 (by decide +kernel) (by decide +kernel), zwd 960 (by decide +kernel) (by decide +kernel), zwd 35 (by decide +kernel) (by decide +kernel), by decide +kernel, by decide +kernel, by decide +kernel, by decide +kernel⟩
def mX5_hopeful : zM := (yX5_hopeful, cX5_hopeful, 6, (some .boolean))
theorem kX5_hopeful : zMi mX5_hopeful 1 := ⟨zwd 973 (by decide +kernel) (by decide +kernel), zwd 116 (by decide +kernel) (by decide +kernel), zwd 972 (by decide +kernel) (by decide +kernel), zwd 37 (by decide +kernel) (by decide +kernel), by decide +kernel, by decide +kernel, by decide +kernel, by decide +kernel⟩
def mX5_isNameless : zM := (yX5_isNameless, cX5_isNameless, 2, (some .boolean))
theorem kX5_isNameless : zMi mX5_isNameless 1 := ⟨zwd 982 (by decide +kernel) (by decide +kernel), zwd 116 (by decide +kernel) (by decide +kernel), zwd 981 (by decide +kernel) (by decide +kernel), zwd 39 (by decide +kernel) (by decide +kernel), by decide +kernel, by decide +kernel, by decide +kernel, by decide +kernel⟩
def mX5_mayLie : zM := (yX5_mayLie, cX5_mayLie, 4, (some .boolean))
theorem kX5_mayLie : zMi mX5_mayLie 3 := ⟨zwd 986 (by decide +kernel) (by decide +kernel), zwd 116 (by decide +kernel) (by decide +kernel), zwd 985 (by decide +kernel) (by decide +kernel), zwd 40 (by decide +kernel) (by decide +kernel), by decide +kernel, by decide +kernel, by decide +kernel, by decide +kernel⟩
def mX5_namelessHeaps : zM := (yX5_namelessHeaps, cX5_namelessHeaps, 3, (some .int))
theorem kX5_namelessHeaps : zMi mX5_namelessHeaps 0 := ⟨zwd 990 (by decide +kernel) (by decide +kernel), zwd 116 (by decide +kernel) (by decide +kernel), zwd 989 (by decide +kernel) (by decide +kernel), zwd 41 (by decide +kernel) (by decide +kernel), by decide +kernel, by decide +kernel, by decide +kernel, by decide +kernel⟩
def mX5_place : zM := (yX5_place, cX5_place, 5, none)
theorem kX5_place : zMi mX5_place 4 := ⟨zwd 957 (by decide +kernel) (by decide +kernel), zwd 116 (by decide +kernel) (by decide +kernel), zwd 956 (by decide +kernel) (by decide +kernel), zwd 34 (by decide +kernel) (by decide +kernel), by decide +kernel, by decide +kernel, by decide +kernel, by decide +kernel⟩
def mX5_placeAnywhere : zM := (yX5_placeAnywhere, cX5_placeAnywhere, 6, none)
theorem kX5_placeAnywhere : zMi mX5_placeAnywhere 4 := ⟨zwd 969 (by decide +kernel) (by decide +kernel), zwd 116 (by decide +kernel) (by decide +kernel), zwd 968 (by decide +kernel) (by decide +kernel), zwd 36 (by decide +kernel) (by decide +kernel), by decide +kernel, by decide +kernel, by decide +kernel, by decide +kernel⟩
def mX5_placeInEach : zM := (yX5_placeInEach, cX5_placeInEach, 10, none)
theorem kX5_placeInEach : zMi mX5_placeInEach 4 := ⟨zwd 978 (by decide +kernel) (by decide +kernel), zwd 116 (by decide +kernel) (by decide +kernel), zwd 977 (by decide +kernel) (by decide +kernel), zwd 38 (by decide +kernel) (by decide +kernel), by decide +kernel, by decide +kernel, by decide +kernel, by decide +kernel⟩
def mX5_begin : zM := (yX5_begin, cX5_begin, 4, none)
theorem kX5_begin : zMi mX5_begin 2 := ⟨zwd 952 (by decide +kernel) (by decide +kernel), zwd 116 (by decide +kernel) (by decide +kernel), zwd 951 (by decide +kernel) (by decide +kernel), zwd 33 (by decide +kernel) (by decide +kernel), by decide +kernel, by decide +kernel, by decide +kernel, by decide +kernel⟩
def mX5_findLeast : zM := (yX5_findLeast, cX5_findLeast, 3, (some .boolean))
theorem kX5_findLeast : zMi mX5_findLeast 2 := ⟨zwd 948 (by decide +kernel) (by decide +kernel), zwd 116 (by decide +kernel) (by decide +kernel), zwd 946 (by decide +kernel) (by decide +kernel), zwd 947 (by decide +kernel) (by decide +kernel), by decide +kernel, by decide +kernel, by decide +kernel, by decide +kernel⟩
def mX5_countAllowed : zM := (yX5_countAllowed, cX5_countAllowed, 2, (some .int))
theorem kX5_countAllowed : zMi mX5_countAllowed 1 := ⟨zwd 1006 (by decide +kernel) (by decide +kernel), zwd 116 (by decide +kernel) (by decide +kernel), zwd 1004 (by decide +kernel) (by decide +kernel), zwd 1005 (by decide +kernel) (by decide +kernel), by decide +kernel, by decide +kernel, by decide +kernel, by decide +kernel⟩
def mX6_init : zM := (yX6_init, cX6_init, 1, none)
theorem kX6_init : zMc mX6_init 0 := ⟨zwd 141 (by decide +kernel) (by decide +kernel), zwd 107 (by decide +kernel) (by decide +kernel), zwd 140 (by decide +kernel) (by decide +kernel), rfl, by decide +kernel, by decide +kernel, by decide +kernel, by decide +kernel⟩
def mX6_putFour : zM := (yX6_putFour, cX6_putFour, 3, none)
theorem kX6_putFour : zMi mX6_putFour 1 := ⟨zwd 532 (by decide +kernel) (by decide +kernel), zwd 107 (by decide +kernel) (by decide +kernel), zwd 530 (by decide +kernel) (by decide +kernel), zwd 531 (by decide +kernel) (by decide +kernel), by decide +kernel, by decide +kernel, by decide +kernel, by decide +kernel⟩
def mX6_isLetter : zM := (yX6_isLetter, cX6_isLetter, 1, (some .boolean))
theorem kX6_isLetter : zMs mX6_isLetter 1 := ⟨zwd 558 (by decide +kernel) (by decide +kernel), zwd 107 (by decide +kernel) (by decide +kernel), zwd 557 (by decide +kernel) (by decide +kernel), by decide +kernel, by decide +kernel, by decide +kernel, by decide +kernel⟩
def mX6_takeWord : zM := (yX6_takeWord, cX6_takeWord, 1, none)
theorem kX6_takeWord : zMi mX6_takeWord 0 := ⟨zwd 562 (by decide +kernel) (by decide +kernel), zwd 107 (by decide +kernel) (by decide +kernel), zwd 561 (by decide +kernel) (by decide +kernel), zwd 2 (by decide +kernel) (by decide +kernel), by decide +kernel, by decide +kernel, by decide +kernel, by decide +kernel⟩
def mX6_isDigit : zM := (yX6_isDigit, cX6_isDigit, 1, (some .boolean))
theorem kX6_isDigit : zMs mX6_isDigit 1 := ⟨zwd 565 (by decide +kernel) (by decide +kernel), zwd 107 (by decide +kernel) (by decide +kernel), zwd 564 (by decide +kernel) (by decide +kernel), by decide +kernel, by decide +kernel, by decide +kernel, by decide +kernel⟩
def mX6_takeWhole : zM := (yX6_takeWhole, cX6_takeWhole, 1, none)
theorem kX6_takeWhole : zMi mX6_takeWhole 0 := ⟨zwd 569 (by decide +kernel) (by decide +kernel), zwd 107 (by decide +kernel) (by decide +kernel), zwd 568 (by decide +kernel) (by decide +kernel), zwd 3 (by decide +kernel) (by decide +kernel), by decide +kernel, by decide +kernel, by decide +kernel, by decide +kernel⟩
def mX6_takeSign : zM := (yX6_takeSign, cX6_takeSign, 1, none)
theorem kX6_takeSign : zMi mX6_takeSign 0 := ⟨zwd 573 (by decide +kernel) (by decide +kernel), zwd 107 (by decide +kernel) (by decide +kernel), zwd 572 (by decide +kernel) (by decide +kernel), zwd 4 (by decide +kernel) (by decide +kernel), by decide +kernel, by decide +kernel, by decide +kernel, by decide +kernel⟩
def mX6_nextToken : zM := (yX6_nextToken, cX6_nextToken, 1, none)
theorem kX6_nextToken : zMi mX6_nextToken 0 := ⟨zwd 555 (by decide +kernel) (by decide +kernel), zwd 107 (by decide +kernel) (by decide +kernel), zwd 554 (by decide +kernel) (by decide +kernel), zwd 1 (by decide +kernel) (by decide +kernel), by decide +kernel, by decide +kernel, by decide +kernel, by decide +kernel⟩
def mX6_isWord : zM := (yX6_isWord, cX6_isWord, 3, (some .boolean))
theorem kX6_isWord : zMi mX6_isWord 1 := ⟨zwd 586 (by decide +kernel) (by decide +kernel), zwd 107 (by decide +kernel) (by decide +kernel), zwd 585 (by decide +kernel) (by decide +kernel), zwd 7 (by decide +kernel) (by decide +kernel), by decide +kernel, by decide +kernel, by decide +kernel, by decide +kernel⟩
def mX6_stop : zM := (yX6_stop, cX6_stop, 2, (some .boolean))
theorem kX6_stop : zMi mX6_stop 1 := ⟨zwd 646 (by decide +kernel) (by decide +kernel), zwd 107 (by decide +kernel) (by decide +kernel), zwd 645 (by decide +kernel) (by decide +kernel), zwd 10 (by decide +kernel) (by decide +kernel), by decide +kernel, by decide +kernel, by decide +kernel, by decide +kernel⟩
def mX6_wholeWithin : zM := (yX6_wholeWithin, cX6_wholeWithin, 3, (some .boolean))
theorem kX6_wholeWithin : zMi mX6_wholeWithin 2 := ⟨zwd 642 (by decide +kernel) (by decide +kernel), zwd 107 (by decide +kernel) (by decide +kernel), zwd 641 (by decide +kernel) (by decide +kernel), zwd 9 (by decide +kernel) (by decide +kernel), by decide +kernel, by decide +kernel, by decide +kernel, by decide +kernel⟩
def mX9_append : zM := (yX9_append, cX9_append, 2, none)
theorem kX9_append : zMi mX9_append 1 := ⟨zwd 650 (by decide +kernel) (by decide +kernel), zwd 108 (by decide +kernel) (by decide +kernel), zwd 648 (by decide +kernel) (by decide +kernel), zwd 649 (by decide +kernel) (by decide +kernel), by decide +kernel, by decide +kernel, by decide +kernel, by decide +kernel⟩
def mX6_readNumbers : zM := (yX6_readNumbers, cX6_readNumbers, 2, (some .boolean))
theorem kX6_readNumbers : zMi mX6_readNumbers 0 := ⟨zwd 638 (by decide +kernel) (by decide +kernel), zwd 107 (by decide +kernel) (by decide +kernel), zwd 637 (by decide +kernel) (by decide +kernel), zwd 8 (by decide +kernel) (by decide +kernel), by decide +kernel, by decide +kernel, by decide +kernel, by decide +kernel⟩
def mX6_readHeaps : zM := (yX6_readHeaps, cX6_readHeaps, 1, (some .boolean))
theorem kX6_readHeaps : zMi mX6_readHeaps 0 := ⟨zwd 655 (by decide +kernel) (by decide +kernel), zwd 107 (by decide +kernel) (by decide +kernel), zwd 654 (by decide +kernel) (by decide +kernel), zwd 11 (by decide +kernel) (by decide +kernel), by decide +kernel, by decide +kernel, by decide +kernel, by decide +kernel⟩
def mX6_readKeep : zM := (yX6_readKeep, cX6_readKeep, 2, (some .boolean))
theorem kX6_readKeep : zMi mX6_readKeep 0 := ⟨zwd 660 (by decide +kernel) (by decide +kernel), zwd 107 (by decide +kernel) (by decide +kernel), zwd 659 (by decide +kernel) (by decide +kernel), zwd 12 (by decide +kernel) (by decide +kernel), by decide +kernel, by decide +kernel, by decide +kernel, by decide +kernel⟩
def mX9_pairs : zM := (yX9_pairs, cX9_pairs, 3, (some .int))
theorem kX9_pairs : zMi mX9_pairs 0 := ⟨zwd 670 (by decide +kernel) (by decide +kernel), zwd 108 (by decide +kernel) (by decide +kernel), zwd 668 (by decide +kernel) (by decide +kernel), zwd 669 (by decide +kernel) (by decide +kernel), by decide +kernel, by decide +kernel, by decide +kernel, by decide +kernel⟩
def mX9_areApart : zM := (yX9_areApart, cX9_areApart, 3, (some .boolean))
theorem kX9_areApart : zMi mX9_areApart 2 := ⟨zwd 680 (by decide +kernel) (by decide +kernel), zwd 108 (by decide +kernel) (by decide +kernel), zwd 678 (by decide +kernel) (by decide +kernel), zwd 679 (by decide +kernel) (by decide +kernel), by decide +kernel, by decide +kernel, by decide +kernel, by decide +kernel⟩
def mX9_toggleApart : zM := (yX9_toggleApart, cX9_toggleApart, 3, none)
theorem kX9_toggleApart : zMi mX9_toggleApart 2 := ⟨zwd 684 (by decide +kernel) (by decide +kernel), zwd 108 (by decide +kernel) (by decide +kernel), zwd 682 (by decide +kernel) (by decide +kernel), zwd 683 (by decide +kernel) (by decide +kernel), by decide +kernel, by decide +kernel, by decide +kernel, by decide +kernel⟩
def mX6_readApart : zM := (yX6_readApart, cX6_readApart, 2, (some .boolean))
theorem kX6_readApart : zMi mX6_readApart 0 := ⟨zwd 666 (by decide +kernel) (by decide +kernel), zwd 107 (by decide +kernel) (by decide +kernel), zwd 665 (by decide +kernel) (by decide +kernel), zwd 13 (by decide +kernel) (by decide +kernel), by decide +kernel, by decide +kernel, by decide +kernel, by decide +kernel⟩
def mX6_readLine : zM := (yX6_readLine, cX6_readLine, 1, (some .boolean))
theorem kX6_readLine : zMi mX6_readLine 0 := ⟨zwd 581 (by decide +kernel) (by decide +kernel), zwd 107 (by decide +kernel) (by decide +kernel), zwd 580 (by decide +kernel) (by decide +kernel), zwd 6 (by decide +kernel) (by decide +kernel), by decide +kernel, by decide +kernel, by decide +kernel, by decide +kernel⟩
def mX6_readLines : zM := (yX6_readLines, cX6_readLines, 2, (some .boolean))
theorem kX6_readLines : zMi mX6_readLines 0 := ⟨zwd 577 (by decide +kernel) (by decide +kernel), zwd 107 (by decide +kernel) (by decide +kernel), zwd 576 (by decide +kernel) (by decide +kernel), zwd 5 (by decide +kernel) (by decide +kernel), by decide +kernel, by decide +kernel, by decide +kernel, by decide +kernel⟩
def mX6_readText : zM := (yX6_readText, cX6_readText, 2, (some .boolean))
theorem kX6_readText : zMi mX6_readText 1 := ⟨zwd 544 (by decide +kernel) (by decide +kernel), zwd 107 (by decide +kernel) (by decide +kernel), zwd 542 (by decide +kernel) (by decide +kernel), zwd 543 (by decide +kernel) (by decide +kernel), by decide +kernel, by decide +kernel, by decide +kernel, by decide +kernel⟩
def mX7_init : zM := (yX7_init, cX7_init, 2, none)
theorem kX7_init : zMc mX7_init 0 := ⟨zwd 333 (by decide +kernel) (by decide +kernel), zwd 113 (by decide +kernel) (by decide +kernel), zwd 332 (by decide +kernel) (by decide +kernel), rfl, by decide +kernel, by decide +kernel, by decide +kernel, by decide +kernel⟩
def mX7_takeLeaf : zM := (yX7_takeLeaf, cX7_takeLeaf, 3, none)
theorem kX7_takeLeaf : zMi mX7_takeLeaf 2 := ⟨zwd 907 (by decide +kernel) (by decide +kernel), zwd 113 (by decide +kernel) (by decide +kernel), zwd 906 (by decide +kernel) (by decide +kernel), zwd 30 (by decide +kernel) (by decide +kernel), by decide +kernel, by decide +kernel, by decide +kernel, by decide +kernel⟩
def mX7_visit : zM := (yX7_visit, cX7_visit, 4, none)
theorem kX7_visit : zMi mX7_visit 1 := ⟨zwd 899 (by decide +kernel) (by decide +kernel), zwd 113 (by decide +kernel) (by decide +kernel), zwd 898 (by decide +kernel) (by decide +kernel), zwd 29 (by decide +kernel) (by decide +kernel), by decide +kernel, by decide +kernel, by decide +kernel, by decide +kernel⟩
def mX7_visitBelow : zM := (yX7_visitBelow, cX7_visitBelow, 4, none)
theorem kX7_visitBelow : zMi mX7_visitBelow 2 := ⟨zwd 915 (by decide +kernel) (by decide +kernel), zwd 113 (by decide +kernel) (by decide +kernel), zwd 914 (by decide +kernel) (by decide +kernel), zwd 31 (by decide +kernel) (by decide +kernel), by decide +kernel, by decide +kernel, by decide +kernel, by decide +kernel⟩
def mX7_prepare : zM := (yX7_prepare, cX7_prepare, 3, none)
theorem kX7_prepare : zMi mX7_prepare 2 := ⟨zwd 893 (by decide +kernel) (by decide +kernel), zwd 113 (by decide +kernel) (by decide +kernel), zwd 891 (by decide +kernel) (by decide +kernel), zwd 892 (by decide +kernel) (by decide +kernel), by decide +kernel, by decide +kernel, by decide +kernel, by decide +kernel⟩
def mX8_init : zM := (yX8_init, cX8_init, 1, none)
theorem kX8_init : zMc mX8_init 0 := ⟨zwd 414 (by decide +kernel) (by decide +kernel), zwd 115 (by decide +kernel) (by decide +kernel), zwd 413 (by decide +kernel) (by decide +kernel), rfl, by decide +kernel, by decide +kernel, by decide +kernel, by decide +kernel⟩
def mX8_mergeWith : zM := (yX8_mergeWith, cX8_mergeWith, 6, none)
theorem kX8_mergeWith : zMi mX8_mergeWith 1 := ⟨zwd 1057 (by decide +kernel) (by decide +kernel), zwd 115 (by decide +kernel) (by decide +kernel), zwd 1056 (by decide +kernel) (by decide +kernel), zwd 47 (by decide +kernel) (by decide +kernel), by decide +kernel, by decide +kernel, by decide +kernel, by decide +kernel⟩
def mX8_prepare : zM := (yX8_prepare, cX8_prepare, 4, none)
theorem kX8_prepare : zMi mX8_prepare 2 := ⟨zwd 1053 (by decide +kernel) (by decide +kernel), zwd 115 (by decide +kernel) (by decide +kernel), zwd 1051 (by decide +kernel) (by decide +kernel), zwd 1052 (by decide +kernel) (by decide +kernel), by decide +kernel, by decide +kernel, by decide +kernel, by decide +kernel⟩
def mX8_sumAt : zM := (yX8_sumAt, cX8_sumAt, 2, (some .int))
theorem kX8_sumAt : zMi mX8_sumAt 1 := ⟨zwd 1069 (by decide +kernel) (by decide +kernel), zwd 115 (by decide +kernel) (by decide +kernel), zwd 1068 (by decide +kernel) (by decide +kernel), zwd 49 (by decide +kernel) (by decide +kernel), by decide +kernel, by decide +kernel, by decide +kernel, by decide +kernel⟩
def mX8_firstFrom : zM := (yX8_firstFrom, cX8_firstFrom, 4, (some .int))
theorem kX8_firstFrom : zMi mX8_firstFrom 1 := ⟨zwd 1065 (by decide +kernel) (by decide +kernel), zwd 115 (by decide +kernel) (by decide +kernel), zwd 1064 (by decide +kernel) (by decide +kernel), zwd 48 (by decide +kernel) (by decide +kernel), by decide +kernel, by decide +kernel, by decide +kernel, by decide +kernel⟩
def mX8_setsWith : zM := (yX8_setsWith, cX8_setsWith, 2, (some .int))
theorem kX8_setsWith : zMi mX8_setsWith 1 := ⟨zwd 1061 (by decide +kernel) (by decide +kernel), zwd 115 (by decide +kernel) (by decide +kernel), zwd 1059 (by decide +kernel) (by decide +kernel), zwd 1060 (by decide +kernel) (by decide +kernel), by decide +kernel, by decide +kernel, by decide +kernel, by decide +kernel⟩
def mX8_leastSetWith : zM := (yX8_leastSetWith, cX8_leastSetWith, 3, (some .int))
theorem kX8_leastSetWith : zMi mX8_leastSetWith 1 := ⟨zwd 1077 (by decide +kernel) (by decide +kernel), zwd 115 (by decide +kernel) (by decide +kernel), zwd 1075 (by decide +kernel) (by decide +kernel), zwd 1076 (by decide +kernel) (by decide +kernel), by decide +kernel, by decide +kernel, by decide +kernel, by decide +kernel⟩
def mX8_unlikeSums : zM := (yX8_unlikeSums, cX8_unlikeSums, 3, (some .int))
theorem kX8_unlikeSums : zMi mX8_unlikeSums 0 := ⟨zwd 1085 (by decide +kernel) (by decide +kernel), zwd 115 (by decide +kernel) (by decide +kernel), zwd 1083 (by decide +kernel) (by decide +kernel), zwd 1084 (by decide +kernel) (by decide +kernel), by decide +kernel, by decide +kernel, by decide +kernel, by decide +kernel⟩
def mX8_sumNextTo : zM := (yX8_sumNextTo, cX8_sumNextTo, 5, (some .int))
theorem kX8_sumNextTo : zMi mX8_sumNextTo 1 := ⟨zwd 1093 (by decide +kernel) (by decide +kernel), zwd 115 (by decide +kernel) (by decide +kernel), zwd 1091 (by decide +kernel) (by decide +kernel), zwd 1092 (by decide +kernel) (by decide +kernel), by decide +kernel, by decide +kernel, by decide +kernel, by decide +kernel⟩
def mX9_withoutBit : zM := (yX9_withoutBit, cX9_withoutBit, 4, (some .int))
theorem kX9_withoutBit : zMs mX9_withoutBit 2 := ⟨zwd 1118 (by decide +kernel) (by decide +kernel), zwd 108 (by decide +kernel) (by decide +kernel), zwd 1117 (by decide +kernel) (by decide +kernel), by decide +kernel, by decide +kernel, by decide +kernel, by decide +kernel⟩
def mX9_remove : zM := (yX9_remove, cX9_remove, 3, none)
theorem kX9_remove : zMi mX9_remove 1 := ⟨zwd 1115 (by decide +kernel) (by decide +kernel), zwd 108 (by decide +kernel) (by decide +kernel), zwd 1113 (by decide +kernel) (by decide +kernel), zwd 1114 (by decide +kernel) (by decide +kernel), by decide +kernel, by decide +kernel, by decide +kernel, by decide +kernel⟩
def mX9_layBySize : zM := (yX9_layBySize, cX9_layBySize, 5, none)
theorem kX9_layBySize : zMi mX9_layBySize 1 := ⟨zwd 1140 (by decide +kernel) (by decide +kernel), zwd 108 (by decide +kernel) (by decide +kernel), zwd 1138 (by decide +kernel) (by decide +kernel), zwd 1139 (by decide +kernel) (by decide +kernel), by decide +kernel, by decide +kernel, by decide +kernel, by decide +kernel⟩
def mX9_orderBySize : zM := (yX9_orderBySize, cX9_orderBySize, 3, none)
theorem kX9_orderBySize : zMi mX9_orderBySize 0 := ⟨zwd 708 (by decide +kernel) (by decide +kernel), zwd 108 (by decide +kernel) (by decide +kernel), zwd 706 (by decide +kernel) (by decide +kernel), zwd 707 (by decide +kernel) (by decide +kernel), by decide +kernel, by decide +kernel, by decide +kernel, by decide +kernel⟩
def mX9_placeBySize : zM := (yX9_placeBySize, cX9_placeBySize, 3, (some .int))
theorem kX9_placeBySize : zMi mX9_placeBySize 1 := ⟨zwd 749 (by decide +kernel) (by decide +kernel), zwd 108 (by decide +kernel) (by decide +kernel), zwd 747 (by decide +kernel) (by decide +kernel), zwd 748 (by decide +kernel) (by decide +kernel), by decide +kernel, by decide +kernel, by decide +kernel, by decide +kernel⟩
def mX9_keptCount : zM := (yX9_keptCount, cX9_keptCount, 3, (some .int))
theorem kX9_keptCount : zMi mX9_keptCount 0 := ⟨zwd 736 (by decide +kernel) (by decide +kernel), zwd 108 (by decide +kernel) (by decide +kernel), zwd 734 (by decide +kernel) (by decide +kernel), zwd 735 (by decide +kernel) (by decide +kernel), by decide +kernel, by decide +kernel, by decide +kernel, by decide +kernel⟩
def mX10_init : zM := (yX10_init, cX10_init, 2, none)
theorem kX10_init : zMc mX10_init 0 := ⟨zwd 133 (by decide +kernel) (by decide +kernel), zwd 106 (by decide +kernel) (by decide +kernel), zwd 132 (by decide +kernel) (by decide +kernel), rfl, by decide +kernel, by decide +kernel, by decide +kernel, by decide +kernel⟩
def mX10_feed : zM := (yX10_feed, cX10_feed, 6, (some .int))
theorem kX10_feed : zMi mX10_feed 5 := ⟨zwd 528 (by decide +kernel) (by decide +kernel), zwd 106 (by decide +kernel) (by decide +kernel), zwd 526 (by decide +kernel) (by decide +kernel), zwd 527 (by decide +kernel) (by decide +kernel), by decide +kernel, by decide +kernel, by decide +kernel, by decide +kernel⟩
def mX10_refuse : zM := (yX10_refuse, cX10_refuse, 2, (some .int))
theorem kX10_refuse : zMi mX10_refuse 1 := ⟨zwd 540 (by decide +kernel) (by decide +kernel), zwd 106 (by decide +kernel) (by decide +kernel), zwd 539 (by decide +kernel) (by decide +kernel), zwd 0 (by decide +kernel) (by decide +kernel), by decide +kernel, by decide +kernel, by decide +kernel, by decide +kernel⟩
def mX10_changed : zM := (yX10_changed, cX10_changed, 1, none)
theorem kX10_changed : zMi mX10_changed 0 := ⟨zwd 704 (by decide +kernel) (by decide +kernel), zwd 106 (by decide +kernel) (by decide +kernel), zwd 703 (by decide +kernel) (by decide +kernel), zwd 14 (by decide +kernel) (by decide +kernel), by decide +kernel, by decide +kernel, by decide +kernel, by decide +kernel⟩
def mX10_answer : zM := (yX10_answer, cX10_answer, 2, (some .int))
theorem kX10_answer : zMi mX10_answer 1 := ⟨zwd 712 (by decide +kernel) (by decide +kernel), zwd 106 (by decide +kernel) (by decide +kernel), zwd 711 (by decide +kernel) (by decide +kernel), zwd 15 (by decide +kernel) (by decide +kernel), by decide +kernel, by decide +kernel, by decide +kernel, by decide +kernel⟩
def mX10_text : zM := (yX10_text, cX10_text, 3, (some .int))
theorem kX10_text : zMi mX10_text 1 := ⟨zwd 536 (by decide +kernel) (by decide +kernel), zwd 106 (by decide +kernel) (by decide +kernel), zwd 534 (by decide +kernel) (by decide +kernel), zwd 535 (by decide +kernel) (by decide +kernel), by decide +kernel, by decide +kernel, by decide +kernel, by decide +kernel⟩
def mX10_fault : zM := (yX10_fault, cX10_fault, 1, (some .int))
theorem kX10_fault : zMi mX10_fault 0 := ⟨zwd 716 (by decide +kernel) (by decide +kernel), zwd 106 (by decide +kernel) (by decide +kernel), zwd 714 (by decide +kernel) (by decide +kernel), zwd 715 (by decide +kernel) (by decide +kernel), by decide +kernel, by decide +kernel, by decide +kernel, by decide +kernel⟩
def mX10_where : zM := (yX10_where, cX10_where, 1, (some .int))
theorem kX10_where : zMi mX10_where 0 := ⟨zwd 720 (by decide +kernel) (by decide +kernel), zwd 106 (by decide +kernel) (by decide +kernel), zwd 718 (by decide +kernel) (by decide +kernel), zwd 719 (by decide +kernel) (by decide +kernel), by decide +kernel, by decide +kernel, by decide +kernel, by decide +kernel⟩
def mX10_noText : zM := (yX10_noText, cX10_noText, 1, (some .boolean))
theorem kX10_noText : zMi mX10_noText 0 := ⟨zwd 728 (by decide +kernel) (by decide +kernel), zwd 106 (by decide +kernel) (by decide +kernel), zwd 727 (by decide +kernel) (by decide +kernel), zwd 16 (by decide +kernel) (by decide +kernel), by decide +kernel, by decide +kernel, by decide +kernel, by decide +kernel⟩
def mX10_about : zM := (yX10_about, cX10_about, 2, (some .int))
theorem kX10_about : zMi mX10_about 1 := ⟨zwd 724 (by decide +kernel) (by decide +kernel), zwd 106 (by decide +kernel) (by decide +kernel), zwd 722 (by decide +kernel) (by decide +kernel), zwd 723 (by decide +kernel) (by decide +kernel), by decide +kernel, by decide +kernel, by decide +kernel, by decide +kernel⟩
def mX10_noNumber : zM := (yX10_noNumber, cX10_noNumber, 2, (some .boolean))
theorem kX10_noNumber : zMi mX10_noNumber 1 := ⟨zwd 745 (by decide +kernel) (by decide +kernel), zwd 106 (by decide +kernel) (by decide +kernel), zwd 744 (by decide +kernel) (by decide +kernel), zwd 17 (by decide +kernel) (by decide +kernel), by decide +kernel, by decide +kernel, by decide +kernel, by decide +kernel⟩
def mX10_number : zM := (yX10_number, cX10_number, 3, (some .int))
theorem kX10_number : zMi mX10_number 2 := ⟨zwd 741 (by decide +kernel) (by decide +kernel), zwd 106 (by decide +kernel) (by decide +kernel), zwd 739 (by decide +kernel) (by decide +kernel), zwd 740 (by decide +kernel) (by decide +kernel), by decide +kernel, by decide +kernel, by decide +kernel, by decide +kernel⟩
def mX10_sized : zM := (yX10_sized, cX10_sized, 2, (some .int))
theorem kX10_sized : zMi mX10_sized 1 := ⟨zwd 753 (by decide +kernel) (by decide +kernel), zwd 106 (by decide +kernel) (by decide +kernel), zwd 751 (by decide +kernel) (by decide +kernel), zwd 752 (by decide +kernel) (by decide +kernel), by decide +kernel, by decide +kernel, by decide +kernel, by decide +kernel⟩
def mX10_notZeroOrOne : zM := (yX10_notZeroOrOne, cX10_notZeroOrOne, 1, (some .boolean))
theorem kX10_notZeroOrOne : zMs mX10_notZeroOrOne 1 := ⟨zwd 760 (by decide +kernel) (by decide +kernel), zwd 106 (by decide +kernel) (by decide +kernel), zwd 759 (by decide +kernel) (by decide +kernel), by decide +kernel, by decide +kernel, by decide +kernel, by decide +kernel⟩
def mX10_noSuchHeaps : zM := (yX10_noSuchHeaps, cX10_noSuchHeaps, 1, (some .boolean))
theorem kX10_noSuchHeaps : zMs mX10_noSuchHeaps 1 := ⟨zwd 763 (by decide +kernel) (by decide +kernel), zwd 106 (by decide +kernel) (by decide +kernel), zwd 762 (by decide +kernel) (by decide +kernel), by decide +kernel, by decide +kernel, by decide +kernel, by decide +kernel⟩
def mX10_refused : zM := (yX10_refused, cX10_refused, 3, (some .boolean))
theorem kX10_refused : zMi mX10_refused 2 := ⟨zwd 767 (by decide +kernel) (by decide +kernel), zwd 106 (by decide +kernel) (by decide +kernel), zwd 766 (by decide +kernel) (by decide +kernel), zwd 18 (by decide +kernel) (by decide +kernel), by decide +kernel, by decide +kernel, by decide +kernel, by decide +kernel⟩
def mX10_greedy : zM := (yX10_greedy, cX10_greedy, 3, (some .int))
theorem kX10_greedy : zMi mX10_greedy 2 := ⟨zwd 757 (by decide +kernel) (by decide +kernel), zwd 106 (by decide +kernel) (by decide +kernel), zwd 755 (by decide +kernel) (by decide +kernel), zwd 756 (by decide +kernel) (by decide +kernel), by decide +kernel, by decide +kernel, by decide +kernel, by decide +kernel⟩
def mX10_greedyOf : zM := (yX10_greedyOf, cX10_greedyOf, 3, (some .int))
theorem kX10_greedyOf : zMi mX10_greedyOf 2 := ⟨zwd 797 (by decide +kernel) (by decide +kernel), zwd 106 (by decide +kernel) (by decide +kernel), zwd 795 (by decide +kernel) (by decide +kernel), zwd 796 (by decide +kernel) (by decide +kernel), by decide +kernel, by decide +kernel, by decide +kernel, by decide +kernel⟩
def mX10_difference : zM := (yX10_difference, cX10_difference, 1, (some .int))
theorem kX10_difference : zMi mX10_difference 0 := ⟨zwd 801 (by decide +kernel) (by decide +kernel), zwd 106 (by decide +kernel) (by decide +kernel), zwd 799 (by decide +kernel) (by decide +kernel), zwd 800 (by decide +kernel) (by decide +kernel), by decide +kernel, by decide +kernel, by decide +kernel, by decide +kernel⟩
def mX10_sideOf : zM := (yX10_sideOf, cX10_sideOf, 2, (some .int))
theorem kX10_sideOf : zMs mX10_sideOf 2 := ⟨zwd 836 (by decide +kernel) (by decide +kernel), zwd 106 (by decide +kernel) (by decide +kernel), zwd 835 (by decide +kernel) (by decide +kernel), by decide +kernel, by decide +kernel, by decide +kernel, by decide +kernel⟩
def mX10_differenceOf : zM := (yX10_differenceOf, cX10_differenceOf, 2, (some .int))
theorem kX10_differenceOf : zMi mX10_differenceOf 1 := ⟨zwd 833 (by decide +kernel) (by decide +kernel), zwd 106 (by decide +kernel) (by decide +kernel), zwd 831 (by decide +kernel) (by decide +kernel), zwd 832 (by decide +kernel) (by decide +kernel), by decide +kernel, by decide +kernel, by decide +kernel, by decide +kernel⟩
def mX10_step : zM := (yX10_step, cX10_step, 3, (some .int))
theorem kX10_step : zMi mX10_step 2 := ⟨zwd 840 (by decide +kernel) (by decide +kernel), zwd 106 (by decide +kernel) (by decide +kernel), zwd 838 (by decide +kernel) (by decide +kernel), zwd 839 (by decide +kernel) (by decide +kernel), by decide +kernel, by decide +kernel, by decide +kernel, by decide +kernel⟩
def mX10_multi : zM := (yX10_multi, cX10_multi, 2, (some .int))
theorem kX10_multi : zMi mX10_multi 1 := ⟨zwd 844 (by decide +kernel) (by decide +kernel), zwd 106 (by decide +kernel) (by decide +kernel), zwd 842 (by decide +kernel) (by decide +kernel), zwd 843 (by decide +kernel) (by decide +kernel), by decide +kernel, by decide +kernel, by decide +kernel, by decide +kernel⟩
def mX10_multiOf : zM := (yX10_multiOf, cX10_multiOf, 3, (some .int))
theorem kX10_multiOf : zMi mX10_multiOf 2 := ⟨zwd 881 (by decide +kernel) (by decide +kernel), zwd 106 (by decide +kernel) (by decide +kernel), zwd 879 (by decide +kernel) (by decide +kernel), zwd 880 (by decide +kernel) (by decide +kernel), by decide +kernel, by decide +kernel, by decide +kernel, by decide +kernel⟩
def mX10_search : zM := (yX10_search, cX10_search, 2, (some .int))
theorem kX10_search : zMi mX10_search 1 := ⟨zwd 889 (by decide +kernel) (by decide +kernel), zwd 106 (by decide +kernel) (by decide +kernel), zwd 887 (by decide +kernel) (by decide +kernel), zwd 888 (by decide +kernel) (by decide +kernel), by decide +kernel, by decide +kernel, by decide +kernel, by decide +kernel⟩
def mX10_find : zM := (yX10_find, cX10_find, 3, (some .int))
theorem kX10_find : zMi mX10_find 2 := ⟨zwd 928 (by decide +kernel) (by decide +kernel), zwd 106 (by decide +kernel) (by decide +kernel), zwd 926 (by decide +kernel) (by decide +kernel), zwd 927 (by decide +kernel) (by decide +kernel), by decide +kernel, by decide +kernel, by decide +kernel, by decide +kernel⟩
def mX10_searchOf : zM := (yX10_searchOf, cX10_searchOf, 2, (some .int))
theorem kX10_searchOf : zMi mX10_searchOf 1 := ⟨zwd 932 (by decide +kernel) (by decide +kernel), zwd 106 (by decide +kernel) (by decide +kernel), zwd 930 (by decide +kernel) (by decide +kernel), zwd 931 (by decide +kernel) (by decide +kernel), by decide +kernel, by decide +kernel, by decide +kernel, by decide +kernel⟩
def mX10_bound : zM := (yX10_bound, cX10_bound, 3, (some .int))
theorem kX10_bound : zMi mX10_bound 1 := ⟨zwd 936 (by decide +kernel) (by decide +kernel), zwd 106 (by decide +kernel) (by decide +kernel), zwd 934 (by decide +kernel) (by decide +kernel), zwd 935 (by decide +kernel) (by decide +kernel), by decide +kernel, by decide +kernel, by decide +kernel, by decide +kernel⟩
def mX10_allRows : zM := (yX10_allRows, cX10_allRows, 2, (some (.object "NumberHeaps$Partings")))
theorem kX10_allRows : zMi mX10_allRows 1 := ⟨zwd 944 (by decide +kernel) (by decide +kernel), zwd 106 (by decide +kernel) (by decide +kernel), zwd 943 (by decide +kernel) (by decide +kernel), zwd 32 (by decide +kernel) (by decide +kernel), by decide +kernel, by decide +kernel, by decide +kernel, by decide +kernel⟩
def mX10_least : zM := (yX10_least, cX10_least, 4, (some .int))
theorem kX10_least : zMi mX10_least 2 := ⟨zwd 940 (by decide +kernel) (by decide +kernel), zwd 106 (by decide +kernel) (by decide +kernel), zwd 938 (by decide +kernel) (by decide +kernel), zwd 939 (by decide +kernel) (by decide +kernel), by decide +kernel, by decide +kernel, by decide +kernel, by decide +kernel⟩
def mX10_leastOf : zM := (yX10_leastOf, cX10_leastOf, 4, (some .int))
theorem kX10_leastOf : zMi mX10_leastOf 2 := ⟨zwd 994 (by decide +kernel) (by decide +kernel), zwd 106 (by decide +kernel) (by decide +kernel), zwd 992 (by decide +kernel) (by decide +kernel), zwd 993 (by decide +kernel) (by decide +kernel), by decide +kernel, by decide +kernel, by decide +kernel, by decide +kernel⟩
def mX10_flat : zM := (yX10_flat, cX10_flat, 3, (some .int))
theorem kX10_flat : zMi mX10_flat 1 := ⟨zwd 998 (by decide +kernel) (by decide +kernel), zwd 106 (by decide +kernel) (by decide +kernel), zwd 996 (by decide +kernel) (by decide +kernel), zwd 997 (by decide +kernel) (by decide +kernel), by decide +kernel, by decide +kernel, by decide +kernel, by decide +kernel⟩
def mX10_rows : zM := (yX10_rows, cX10_rows, 2, (some .int))
theorem kX10_rows : zMi mX10_rows 1 := ⟨zwd 1002 (by decide +kernel) (by decide +kernel), zwd 106 (by decide +kernel) (by decide +kernel), zwd 1000 (by decide +kernel) (by decide +kernel), zwd 1001 (by decide +kernel) (by decide +kernel), by decide +kernel, by decide +kernel, by decide +kernel, by decide +kernel⟩
def mX10_climb : zM := (yX10_climb, cX10_climb, 3, (some .int))
theorem kX10_climb : zMi mX10_climb 2 := ⟨zwd 1010 (by decide +kernel) (by decide +kernel), zwd 106 (by decide +kernel) (by decide +kernel), zwd 1008 (by decide +kernel) (by decide +kernel), zwd 1009 (by decide +kernel) (by decide +kernel), by decide +kernel, by decide +kernel, by decide +kernel, by decide +kernel⟩
def mX10_climbOf : zM := (yX10_climbOf, cX10_climbOf, 3, (some .int))
theorem kX10_climbOf : zMi mX10_climbOf 2 := ⟨zwd 1041 (by decide +kernel) (by decide +kernel), zwd 106 (by decide +kernel) (by decide +kernel), zwd 1039 (by decide +kernel) (by decide +kernel), zwd 1040 (by decide +kernel) (by decide +kernel), by decide +kernel, by decide +kernel, by decide +kernel, by decide +kernel⟩
def mX10_noSuchSum : zM := (yX10_noSuchSum, cX10_noSuchSum, 1, (some .boolean))
theorem kX10_noSuchSum : zMs mX10_noSuchSum 1 := ⟨zwd 1048 (by decide +kernel) (by decide +kernel), zwd 106 (by decide +kernel) (by decide +kernel), zwd 1047 (by decide +kernel) (by decide +kernel), by decide +kernel, by decide +kernel, by decide +kernel, by decide +kernel⟩
def mX10_ways : zM := (yX10_ways, cX10_ways, 2, (some .int))
theorem kX10_ways : zMi mX10_ways 1 := ⟨zwd 1045 (by decide +kernel) (by decide +kernel), zwd 106 (by decide +kernel) (by decide +kernel), zwd 1043 (by decide +kernel) (by decide +kernel), zwd 1044 (by decide +kernel) (by decide +kernel), by decide +kernel, by decide +kernel, by decide +kernel, by decide +kernel⟩
def mX10_chosen : zM := (yX10_chosen, cX10_chosen, 2, (some .int))
theorem kX10_chosen : zMi mX10_chosen 1 := ⟨zwd 1073 (by decide +kernel) (by decide +kernel), zwd 106 (by decide +kernel) (by decide +kernel), zwd 1071 (by decide +kernel) (by decide +kernel), zwd 1072 (by decide +kernel) (by decide +kernel), by decide +kernel, by decide +kernel, by decide +kernel, by decide +kernel⟩
def mX10_sums : zM := (yX10_sums, cX10_sums, 1, (some .int))
theorem kX10_sums : zMi mX10_sums 0 := ⟨zwd 1081 (by decide +kernel) (by decide +kernel), zwd 106 (by decide +kernel) (by decide +kernel), zwd 1079 (by decide +kernel) (by decide +kernel), zwd 1080 (by decide +kernel) (by decide +kernel), by decide +kernel, by decide +kernel, by decide +kernel, by decide +kernel⟩
def mX10_nearest : zM := (yX10_nearest, cX10_nearest, 2, (some .int))
theorem kX10_nearest : zMi mX10_nearest 1 := ⟨zwd 1089 (by decide +kernel) (by decide +kernel), zwd 106 (by decide +kernel) (by decide +kernel), zwd 1087 (by decide +kernel) (by decide +kernel), zwd 1088 (by decide +kernel) (by decide +kernel), by decide +kernel, by decide +kernel, by decide +kernel, by decide +kernel⟩
def mX10_noSuchValue : zM := (yX10_noSuchValue, cX10_noSuchValue, 1, (some .boolean))
theorem kX10_noSuchValue : zMs mX10_noSuchValue 1 := ⟨zwd 1100 (by decide +kernel) (by decide +kernel), zwd 106 (by decide +kernel) (by decide +kernel), zwd 1099 (by decide +kernel) (by decide +kernel), by decide +kernel, by decide +kernel, by decide +kernel, by decide +kernel⟩
def mX10_add : zM := (yX10_add, cX10_add, 2, (some .int))
theorem kX10_add : zMi mX10_add 1 := ⟨zwd 1097 (by decide +kernel) (by decide +kernel), zwd 106 (by decide +kernel) (by decide +kernel), zwd 1095 (by decide +kernel) (by decide +kernel), zwd 1096 (by decide +kernel) (by decide +kernel), by decide +kernel, by decide +kernel, by decide +kernel, by decide +kernel⟩
def mX10_drop : zM := (yX10_drop, cX10_drop, 3, (some .int))
theorem kX10_drop : zMi mX10_drop 1 := ⟨zwd 1111 (by decide +kernel) (by decide +kernel), zwd 106 (by decide +kernel) (by decide +kernel), zwd 1109 (by decide +kernel) (by decide +kernel), zwd 1110 (by decide +kernel) (by decide +kernel), by decide +kernel, by decide +kernel, by decide +kernel, by decide +kernel⟩
def mX10_become : zM := (yX10_become, cX10_become, 4, (some .int))
theorem kX10_become : zMi mX10_become 2 := ⟨zwd 1122 (by decide +kernel) (by decide +kernel), zwd 106 (by decide +kernel) (by decide +kernel), zwd 1120 (by decide +kernel) (by decide +kernel), zwd 1121 (by decide +kernel) (by decide +kernel), by decide +kernel, by decide +kernel, by decide +kernel, by decide +kernel⟩
def mX10_keepIn : zM := (yX10_keepIn, cX10_keepIn, 4, (some .int))
theorem kX10_keepIn : zMi mX10_keepIn 2 := ⟨zwd 1126 (by decide +kernel) (by decide +kernel), zwd 106 (by decide +kernel) (by decide +kernel), zwd 1124 (by decide +kernel) (by decide +kernel), zwd 1125 (by decide +kernel) (by decide +kernel), by decide +kernel, by decide +kernel, by decide +kernel, by decide +kernel⟩
def mX10_apart : zM := (yX10_apart, cX10_apart, 3, (some .int))
theorem kX10_apart : zMi mX10_apart 2 := ⟨zwd 1130 (by decide +kernel) (by decide +kernel), zwd 106 (by decide +kernel) (by decide +kernel), zwd 1128 (by decide +kernel) (by decide +kernel), zwd 1129 (by decide +kernel) (by decide +kernel), by decide +kernel, by decide +kernel, by decide +kernel, by decide +kernel⟩
def mX10_sort : zM := (yX10_sort, cX10_sort, 3, (some .int))
theorem kX10_sort : zMi mX10_sort 0 := ⟨zwd 1136 (by decide +kernel) (by decide +kernel), zwd 106 (by decide +kernel) (by decide +kernel), zwd 1134 (by decide +kernel) (by decide +kernel), zwd 1135 (by decide +kernel) (by decide +kernel), by decide +kernel, by decide +kernel, by decide +kernel, by decide +kernel⟩
def mX10_heaps : zM := (yX10_heaps, cX10_heaps, 3, (some .int))
theorem kX10_heaps : zMi mX10_heaps 1 := ⟨zwd 1145 (by decide +kernel) (by decide +kernel), zwd 106 (by decide +kernel) (by decide +kernel), zwd 1143 (by decide +kernel) (by decide +kernel), zwd 1144 (by decide +kernel) (by decide +kernel), by decide +kernel, by decide +kernel, by decide +kernel, by decide +kernel⟩
def mX10_undo : zM := (yX10_undo, cX10_undo, 1, (some .int))
theorem kX10_undo : zMi mX10_undo 0 := ⟨zwd 1149 (by decide +kernel) (by decide +kernel), zwd 106 (by decide +kernel) (by decide +kernel), zwd 1147 (by decide +kernel) (by decide +kernel), zwd 1148 (by decide +kernel) (by decide +kernel), by decide +kernel, by decide +kernel, by decide +kernel, by decide +kernel⟩
def mX10_image : zM := (yX10_image, cX10_image, 2, (some .boolean))
theorem kX10_image : zMi mX10_image 1 := ⟨zwd 1157 (by decide +kernel) (by decide +kernel), zwd 106 (by decide +kernel) (by decide +kernel), zwd 1155 (by decide +kernel) (by decide +kernel), zwd 1156 (by decide +kernel) (by decide +kernel), by decide +kernel, by decide +kernel, by decide +kernel, by decide +kernel⟩
def mX10_back : zM := (yX10_back, cX10_back, 2, (some .boolean))
theorem kX10_back : zMi mX10_back 1 := ⟨zwd 1161 (by decide +kernel) (by decide +kernel), zwd 106 (by decide +kernel) (by decide +kernel), zwd 1159 (by decide +kernel) (by decide +kernel), zwd 1160 (by decide +kernel) (by decide +kernel), by decide +kernel, by decide +kernel, by decide +kernel, by decide +kernel⟩
def mX10_putByte : zM := (yX10_putByte, cX10_putByte, 2, none)
theorem kX10_putByte : zMi mX10_putByte 1 := ⟨zwd 1169 (by decide +kernel) (by decide +kernel), zwd 106 (by decide +kernel) (by decide +kernel), zwd 1168 (by decide +kernel) (by decide +kernel), zwd 50 (by decide +kernel) (by decide +kernel), by decide +kernel, by decide +kernel, by decide +kernel, by decide +kernel⟩
def mX10_putNumber : zM := (yX10_putNumber, cX10_putNumber, 3, none)
theorem kX10_putNumber : zMi mX10_putNumber 1 := ⟨zwd 1177 (by decide +kernel) (by decide +kernel), zwd 106 (by decide +kernel) (by decide +kernel), zwd 1176 (by decide +kernel) (by decide +kernel), zwd 52 (by decide +kernel) (by decide +kernel), by decide +kernel, by decide +kernel, by decide +kernel, by decide +kernel⟩
def mX10_putHeap : zM := (yX10_putHeap, cX10_putHeap, 5, none)
theorem kX10_putHeap : zMi mX10_putHeap 2 := ⟨zwd 1173 (by decide +kernel) (by decide +kernel), zwd 106 (by decide +kernel) (by decide +kernel), zwd 1172 (by decide +kernel) (by decide +kernel), zwd 51 (by decide +kernel) (by decide +kernel), by decide +kernel, by decide +kernel, by decide +kernel, by decide +kernel⟩
def mX10_write : zM := (yX10_write, cX10_write, 3, (some .int))
theorem kX10_write : zMi mX10_write 0 := ⟨zwd 1165 (by decide +kernel) (by decide +kernel), zwd 106 (by decide +kernel) (by decide +kernel), zwd 1163 (by decide +kernel) (by decide +kernel), zwd 1164 (by decide +kernel) (by decide +kernel), by decide +kernel, by decide +kernel, by decide +kernel, by decide +kernel⟩
def mX10_octet : zM := (yX10_octet, cX10_octet, 2, (some .int))
theorem kX10_octet : zMi mX10_octet 1 := ⟨zwd 1193 (by decide +kernel) (by decide +kernel), zwd 106 (by decide +kernel) (by decide +kernel), zwd 1191 (by decide +kernel) (by decide +kernel), zwd 1192 (by decide +kernel) (by decide +kernel), by decide +kernel, by decide +kernel, by decide +kernel, by decide +kernel⟩
def mX10_bytes : zM := (yX10_bytes, cX10_bytes, 1, (some .int))
theorem kX10_bytes : zMi mX10_bytes 0 := ⟨zwd 1181 (by decide +kernel) (by decide +kernel), zwd 106 (by decide +kernel) (by decide +kernel), zwd 1179 (by decide +kernel) (by decide +kernel), zwd 1180 (by decide +kernel) (by decide +kernel), by decide +kernel, by decide +kernel, by decide +kernel, by decide +kernel⟩
def mX10_trouble : zM := (yX10_trouble, cX10_trouble, 1, (some .int))
theorem kX10_trouble : zMi mX10_trouble 0 := ⟨zwd 1185 (by decide +kernel) (by decide +kernel), zwd 106 (by decide +kernel) (by decide +kernel), zwd 1183 (by decide +kernel) (by decide +kernel), zwd 1184 (by decide +kernel) (by decide +kernel), by decide +kernel, by decide +kernel, by decide +kernel, by decide +kernel⟩
def mX11_init : zM := (yX11_init, cX11_init, 1, none)
theorem kX11_init : zMc mX11_init 0 := ⟨zwd 1259 (by decide +kernel) (by decide +kernel), zwd 117 (by decide +kernel) (by decide +kernel), zwd 1258 (by decide +kernel) (by decide +kernel), rfl, by decide +kernel, by decide +kernel, by decide +kernel, by decide +kernel⟩
def mX11_thrown : zM := (yX11_thrown, cX11_thrown, 1, (some .int))
theorem kX11_thrown : zMi mX11_thrown 0 := ⟨zwd 1421 (by decide +kernel) (by decide +kernel), zwd 117 (by decide +kernel) (by decide +kernel), zwd 1419 (by decide +kernel) (by decide +kernel), zwd 1420 (by decide +kernel) (by decide +kernel), by decide +kernel, by decide +kernel, by decide +kernel, by decide +kernel⟩
def mX11_refused : zM := (yX11_refused, cX11_refused, 2, (some .int))
theorem kX11_refused : zMi mX11_refused 1 := ⟨zwd 1444 (by decide +kernel) (by decide +kernel), zwd 117 (by decide +kernel) (by decide +kernel), zwd 1443 (by decide +kernel) (by decide +kernel), zwd 54 (by decide +kernel) (by decide +kernel), by decide +kernel, by decide +kernel, by decide +kernel, by decide +kernel⟩
def mX11_good : zM := (yX11_good, cX11_good, 2, (some .int))
theorem kX11_good : zMi mX11_good 1 := ⟨zwd 1507 (by decide +kernel) (by decide +kernel), zwd 117 (by decide +kernel) (by decide +kernel), zwd 1506 (by decide +kernel) (by decide +kernel), zwd 66 (by decide +kernel) (by decide +kernel), by decide +kernel, by decide +kernel, by decide +kernel, by decide +kernel⟩
def mX11_granted : zM := (yX11_granted, cX11_granted, 2, (some .boolean))
theorem kX11_granted : zMi mX11_granted 1 := ⟨zwd 1802 (by decide +kernel) (by decide +kernel), zwd 117 (by decide +kernel) (by decide +kernel), zwd 1801 (by decide +kernel) (by decide +kernel), zwd 102 (by decide +kernel) (by decide +kernel), by decide +kernel, by decide +kernel, by decide +kernel, by decide +kernel⟩
def mX11_in : zM := (yX11_in, cX11_in, 3, (some .boolean))
theorem kX11_in : zMs mX11_in 3 := ⟨zwd 1440 (by decide +kernel) (by decide +kernel), zwd 117 (by decide +kernel) (by decide +kernel), zwd 1439 (by decide +kernel) (by decide +kernel), by decide +kernel, by decide +kernel, by decide +kernel, by decide +kernel⟩
def mX11_has : zM := (yX11_has, cX11_has, 2, (some .boolean))
theorem kX11_has : zMs mX11_has 2 := ⟨zwd 1592 (by decide +kernel) (by decide +kernel), zwd 117 (by decide +kernel) (by decide +kernel), zwd 1591 (by decide +kernel) (by decide +kernel), by decide +kernel, by decide +kernel, by decide +kernel, by decide +kernel⟩
def mX11_bits : zM := (yX11_bits, cX11_bits, 3, (some .int))
theorem kX11_bits : zMs mX11_bits 1 := ⟨zwd 1738 (by decide +kernel) (by decide +kernel), zwd 117 (by decide +kernel) (by decide +kernel), zwd 1737 (by decide +kernel) (by decide +kernel), by decide +kernel, by decide +kernel, by decide +kernel, by decide +kernel⟩
def mX11_lowest : zM := (yX11_lowest, cX11_lowest, 2, (some .int))
theorem kX11_lowest : zMs mX11_lowest 1 := ⟨zwd 1589 (by decide +kernel) (by decide +kernel), zwd 117 (by decide +kernel) (by decide +kernel), zwd 1588 (by decide +kernel) (by decide +kernel), by decide +kernel, by decide +kernel, by decide +kernel, by decide +kernel⟩
def mX11_feed : zM := (yX11_feed, cX11_feed, 8, (some .int))
theorem kX11_feed : zMi mX11_feed 5 := ⟨zwd 1425 (by decide +kernel) (by decide +kernel), zwd 117 (by decide +kernel) (by decide +kernel), zwd 1423 (by decide +kernel) (by decide +kernel), zwd 1424 (by decide +kernel) (by decide +kernel), by decide +kernel, by decide +kernel, by decide +kernel, by decide +kernel⟩
def mX11_flaw : zM := (yX11_flaw, cX11_flaw, 2, none)
theorem kX11_flaw : zMi mX11_flaw 1 := ⟨zwd 1480 (by decide +kernel) (by decide +kernel), zwd 117 (by decide +kernel) (by decide +kernel), zwd 1479 (by decide +kernel) (by decide +kernel), zwd 61 (by decide +kernel) (by decide +kernel), by decide +kernel, by decide +kernel, by decide +kernel, by decide +kernel⟩
def mX11_isLetterAt : zM := (yX11_isLetterAt, cX11_isLetterAt, 2, (some .boolean))
theorem kX11_isLetterAt : zMi mX11_isLetterAt 1 := ⟨zwd 1452 (by decide +kernel) (by decide +kernel), zwd 117 (by decide +kernel) (by decide +kernel), zwd 1451 (by decide +kernel) (by decide +kernel), zwd 56 (by decide +kernel) (by decide +kernel), by decide +kernel, by decide +kernel, by decide +kernel, by decide +kernel⟩
def mX11_isDigitAt : zM := (yX11_isDigitAt, cX11_isDigitAt, 2, (some .boolean))
theorem kX11_isDigitAt : zMi mX11_isDigitAt 1 := ⟨zwd 1458 (by decide +kernel) (by decide +kernel), zwd 117 (by decide +kernel) (by decide +kernel), zwd 1457 (by decide +kernel) (by decide +kernel), zwd 57 (by decide +kernel) (by decide +kernel), by decide +kernel, by decide +kernel, by decide +kernel, by decide +kernel⟩
def mX11_goOn : zM := (yX11_goOn, cX11_goOn, 1, none)
theorem kX11_goOn : zMi mX11_goOn 0 := ⟨zwd 1448 (by decide +kernel) (by decide +kernel), zwd 117 (by decide +kernel) (by decide +kernel), zwd 1447 (by decide +kernel) (by decide +kernel), zwd 55 (by decide +kernel) (by decide +kernel), by decide +kernel, by decide +kernel, by decide +kernel, by decide +kernel⟩
def mX11_wordOf : zM := (yX11_wordOf, cX11_wordOf, 4, (some .long))
theorem kX11_wordOf : zMs mX11_wordOf 1 := ⟨zwd 1470 (by decide +kernel) (by decide +kernel), zwd 117 (by decide +kernel) (by decide +kernel), zwd 1469 (by decide +kernel) (by decide +kernel), by decide +kernel, by decide +kernel, by decide +kernel, by decide +kernel⟩
def mX11_isWord : zM := (yX11_isWord, cX11_isWord, 2, (some .boolean))
theorem kX11_isWord : zMi mX11_isWord 1 := ⟨zwd 1467 (by decide +kernel) (by decide +kernel), zwd 117 (by decide +kernel) (by decide +kernel), zwd 1466 (by decide +kernel) (by decide +kernel), zwd 59 (by decide +kernel) (by decide +kernel), by decide +kernel, by decide +kernel, by decide +kernel, by decide +kernel⟩
def mX11_isSign : zM := (yX11_isSign, cX11_isSign, 2, (some .boolean))
theorem kX11_isSign : zMi mX11_isSign 1 := ⟨zwd 1488 (by decide +kernel) (by decide +kernel), zwd 117 (by decide +kernel) (by decide +kernel), zwd 1487 (by decide +kernel) (by decide +kernel), zwd 63 (by decide +kernel) (by decide +kernel), by decide +kernel, by decide +kernel, by decide +kernel, by decide +kernel⟩
def mX11_fault : zM := (yX11_fault, cX11_fault, 1, (some .int))
theorem kX11_fault : zMi mX11_fault 0 := ⟨zwd 1429 (by decide +kernel) (by decide +kernel), zwd 117 (by decide +kernel) (by decide +kernel), zwd 1427 (by decide +kernel) (by decide +kernel), zwd 1428 (by decide +kernel) (by decide +kernel), by decide +kernel, by decide +kernel, by decide +kernel, by decide +kernel⟩
def mX11_where : zM := (yX11_where, cX11_where, 1, (some .int))
theorem kX11_where : zMi mX11_where 0 := ⟨zwd 1433 (by decide +kernel) (by decide +kernel), zwd 117 (by decide +kernel) (by decide +kernel), zwd 1431 (by decide +kernel) (by decide +kernel), zwd 1432 (by decide +kernel) (by decide +kernel), by decide +kernel, by decide +kernel, by decide +kernel, by decide +kernel⟩
def mX11_whole : zM := (yX11_whole, cX11_whole, 4, (some .int))
theorem kX11_whole : zMi mX11_whole 2 := ⟨zwd 1484 (by decide +kernel) (by decide +kernel), zwd 117 (by decide +kernel) (by decide +kernel), zwd 1483 (by decide +kernel) (by decide +kernel), zwd 62 (by decide +kernel) (by decide +kernel), by decide +kernel, by decide +kernel, by decide +kernel, by decide +kernel⟩
def mX11_readNumbers : zM := (yX11_readNumbers, cX11_readNumbers, 3, none)
theorem kX11_readNumbers : zMi mX11_readNumbers 0 := ⟨zwd 1476 (by decide +kernel) (by decide +kernel), zwd 117 (by decide +kernel) (by decide +kernel), zwd 1475 (by decide +kernel) (by decide +kernel), zwd 60 (by decide +kernel) (by decide +kernel), by decide +kernel, by decide +kernel, by decide +kernel, by decide +kernel⟩
def mX11_readKeep : zM := (yX11_readKeep, cX11_readKeep, 3, none)
theorem kX11_readKeep : zMi mX11_readKeep 0 := ⟨zwd 1494 (by decide +kernel) (by decide +kernel), zwd 117 (by decide +kernel) (by decide +kernel), zwd 1493 (by decide +kernel) (by decide +kernel), zwd 64 (by decide +kernel) (by decide +kernel), by decide +kernel, by decide +kernel, by decide +kernel, by decide +kernel⟩
def mX11_pairOf : zM := (yX11_pairOf, cX11_pairOf, 6, (some .int))
theorem kX11_pairOf : zMs mX11_pairOf 3 := ⟨zwd 1503 (by decide +kernel) (by decide +kernel), zwd 117 (by decide +kernel) (by decide +kernel), zwd 1502 (by decide +kernel) (by decide +kernel), by decide +kernel, by decide +kernel, by decide +kernel, by decide +kernel⟩
def mX11_readApart : zM := (yX11_readApart, cX11_readApart, 3, none)
theorem kX11_readApart : zMi mX11_readApart 0 := ⟨zwd 1500 (by decide +kernel) (by decide +kernel), zwd 117 (by decide +kernel) (by decide +kernel), zwd 1499 (by decide +kernel) (by decide +kernel), zwd 65 (by decide +kernel) (by decide +kernel), by decide +kernel, by decide +kernel, by decide +kernel, by decide +kernel⟩
def mX11_readLine : zM := (yX11_readLine, cX11_readLine, 1, none)
theorem kX11_readLine : zMi mX11_readLine 0 := ⟨zwd 1462 (by decide +kernel) (by decide +kernel), zwd 117 (by decide +kernel) (by decide +kernel), zwd 1461 (by decide +kernel) (by decide +kernel), zwd 58 (by decide +kernel) (by decide +kernel), by decide +kernel, by decide +kernel, by decide +kernel, by decide +kernel⟩
def mX11_text : zM := (yX11_text, cX11_text, 3, (some .int))
theorem kX11_text : zMi mX11_text 1 := ⟨zwd 1437 (by decide +kernel) (by decide +kernel), zwd 117 (by decide +kernel) (by decide +kernel), zwd 1435 (by decide +kernel) (by decide +kernel), zwd 1436 (by decide +kernel) (by decide +kernel), by decide +kernel, by decide +kernel, by decide +kernel, by decide +kernel⟩
def mX11_isNumber : zM := (yX11_isNumber, cX11_isNumber, 2, (some .boolean))
theorem kX11_isNumber : zMi mX11_isNumber 1 := ⟨zwd 1535 (by decide +kernel) (by decide +kernel), zwd 117 (by decide +kernel) (by decide +kernel), zwd 1534 (by decide +kernel) (by decide +kernel), zwd 71 (by decide +kernel) (by decide +kernel), by decide +kernel, by decide +kernel, by decide +kernel, by decide +kernel⟩
def mX11_isK : zM := (yX11_isK, cX11_isK, 1, (some .boolean))
theorem kX11_isK : zMs mX11_isK 1 := ⟨zwd 1550 (by decide +kernel) (by decide +kernel), zwd 117 (by decide +kernel) (by decide +kernel), zwd 1549 (by decide +kernel) (by decide +kernel), by decide +kernel, by decide +kernel, by decide +kernel, by decide +kernel⟩
def mX11_value : zM := (yX11_value, cX11_value, 2, (some .int))
theorem kX11_value : zMi mX11_value 1 := ⟨zwd 1519 (by decide +kernel) (by decide +kernel), zwd 117 (by decide +kernel) (by decide +kernel), zwd 1518 (by decide +kernel) (by decide +kernel), zwd 68 (by decide +kernel) (by decide +kernel), by decide +kernel, by decide +kernel, by decide +kernel, by decide +kernel⟩
def mX11_total : zM := (yX11_total, cX11_total, 3, (some .int))
theorem kX11_total : zMi mX11_total 0 := ⟨zwd 1515 (by decide +kernel) (by decide +kernel), zwd 117 (by decide +kernel) (by decide +kernel), zwd 1514 (by decide +kernel) (by decide +kernel), zwd 67 (by decide +kernel) (by decide +kernel), by decide +kernel, by decide +kernel, by decide +kernel, by decide +kernel⟩
def mX11_rank : zM := (yX11_rank, cX11_rank, 4, (some .int))
theorem kX11_rank : zMi mX11_rank 1 := ⟨zwd 1527 (by decide +kernel) (by decide +kernel), zwd 117 (by decide +kernel) (by decide +kernel), zwd 1526 (by decide +kernel) (by decide +kernel), zwd 70 (by decide +kernel) (by decide +kernel), by decide +kernel, by decide +kernel, by decide +kernel, by decide +kernel⟩
def mX11_ranked : zM := (yX11_ranked, cX11_ranked, 3, (some .int))
theorem kX11_ranked : zMi mX11_ranked 1 := ⟨zwd 1523 (by decide +kernel) (by decide +kernel), zwd 117 (by decide +kernel) (by decide +kernel), zwd 1522 (by decide +kernel) (by decide +kernel), zwd 69 (by decide +kernel) (by decide +kernel), by decide +kernel, by decide +kernel, by decide +kernel, by decide +kernel⟩
def mX11_about : zM := (yX11_about, cX11_about, 4, (some .int))
theorem kX11_about : zMi mX11_about 1 := ⟨zwd 1511 (by decide +kernel) (by decide +kernel), zwd 117 (by decide +kernel) (by decide +kernel), zwd 1509 (by decide +kernel) (by decide +kernel), zwd 1510 (by decide +kernel) (by decide +kernel), by decide +kernel, by decide +kernel, by decide +kernel, by decide +kernel⟩
def mX11_apartFrom : zM := (yX11_apartFrom, cX11_apartFrom, 4, (some .int))
theorem kX11_apartFrom : zMi mX11_apartFrom 1 := ⟨zwd 1539 (by decide +kernel) (by decide +kernel), zwd 117 (by decide +kernel) (by decide +kernel), zwd 1538 (by decide +kernel) (by decide +kernel), zwd 72 (by decide +kernel) (by decide +kernel), by decide +kernel, by decide +kernel, by decide +kernel, by decide +kernel⟩
def mX11_number : zM := (yX11_number, cX11_number, 3, (some .int))
theorem kX11_number : zMi mX11_number 2 := ⟨zwd 1531 (by decide +kernel) (by decide +kernel), zwd 117 (by decide +kernel) (by decide +kernel), zwd 1529 (by decide +kernel) (by decide +kernel), zwd 1530 (by decide +kernel) (by decide +kernel), by decide +kernel, by decide +kernel, by decide +kernel, by decide +kernel⟩
def mX11_sized : zM := (yX11_sized, cX11_sized, 2, (some .int))
theorem kX11_sized : zMi mX11_sized 1 := ⟨zwd 1543 (by decide +kernel) (by decide +kernel), zwd 117 (by decide +kernel) (by decide +kernel), zwd 1541 (by decide +kernel) (by decide +kernel), zwd 1542 (by decide +kernel) (by decide +kernel), by decide +kernel, by decide +kernel, by decide +kernel, by decide +kernel⟩
def mX11_sums0 : zM := (yX11_sums0, cX11_sums0, 3, none)
theorem kX11_sums0 : zMi mX11_sums0 1 := ⟨zwd 1711 (by decide +kernel) (by decide +kernel), zwd 117 (by decide +kernel) (by decide +kernel), zwd 1710 (by decide +kernel) (by decide +kernel), zwd 95 (by decide +kernel) (by decide +kernel), by decide +kernel, by decide +kernel, by decide +kernel, by decide +kernel⟩
def mX11_top : zM := (yX11_top, cX11_top, 4, (some .int))
theorem kX11_top : zMi mX11_top 1 := ⟨zwd 1562 (by decide +kernel) (by decide +kernel), zwd 117 (by decide +kernel) (by decide +kernel), zwd 1561 (by decide +kernel) (by decide +kernel), zwd 75 (by decide +kernel) (by decide +kernel), by decide +kernel, by decide +kernel, by decide +kernel, by decide +kernel⟩
def mX11_spread : zM := (yX11_spread, cX11_spread, 4, (some .int))
theorem kX11_spread : zMi mX11_spread 1 := ⟨zwd 1558 (by decide +kernel) (by decide +kernel), zwd 117 (by decide +kernel) (by decide +kernel), zwd 1557 (by decide +kernel) (by decide +kernel), zwd 74 (by decide +kernel) (by decide +kernel), by decide +kernel, by decide +kernel, by decide +kernel, by decide +kernel⟩
def mX11_fills : zM := (yX11_fills, cX11_fills, 6, none)
theorem kX11_fills : zMi mX11_fills 1 := ⟨zwd 1554 (by decide +kernel) (by decide +kernel), zwd 117 (by decide +kernel) (by decide +kernel), zwd 1553 (by decide +kernel) (by decide +kernel), zwd 73 (by decide +kernel) (by decide +kernel), by decide +kernel, by decide +kernel, by decide +kernel, by decide +kernel⟩
def mX11_greedy : zM := (yX11_greedy, cX11_greedy, 3, (some .int))
theorem kX11_greedy : zMi mX11_greedy 2 := ⟨zwd 1547 (by decide +kernel) (by decide +kernel), zwd 117 (by decide +kernel) (by decide +kernel), zwd 1545 (by decide +kernel) (by decide +kernel), zwd 1546 (by decide +kernel) (by decide +kernel), by decide +kernel, by decide +kernel, by decide +kernel, by decide +kernel⟩
def mX11_greedyOf : zM := (yX11_greedyOf, cX11_greedyOf, 3, (some .int))
theorem kX11_greedyOf : zMi mX11_greedyOf 2 := ⟨zwd 1566 (by decide +kernel) (by decide +kernel), zwd 117 (by decide +kernel) (by decide +kernel), zwd 1564 (by decide +kernel) (by decide +kernel), zwd 1565 (by decide +kernel) (by decide +kernel), by decide +kernel, by decide +kernel, by decide +kernel, by decide +kernel⟩
def mX11_isAhead : zM := (yX11_isAhead, cX11_isAhead, 4, (some .boolean))
theorem kX11_isAhead : zMi mX11_isAhead 3 := ⟨zwd 1586 (by decide +kernel) (by decide +kernel), zwd 117 (by decide +kernel) (by decide +kernel), zwd 1585 (by decide +kernel) (by decide +kernel), zwd 79 (by decide +kernel) (by decide +kernel), by decide +kernel, by decide +kernel, by decide +kernel, by decide +kernel⟩
def mX11_comes : zM := (yX11_comes, cX11_comes, 7, none)
theorem kX11_comes : zMi mX11_comes 4 := ⟨zwd 1582 (by decide +kernel) (by decide +kernel), zwd 117 (by decide +kernel) (by decide +kernel), zwd 1581 (by decide +kernel) (by decide +kernel), zwd 78 (by decide +kernel) (by decide +kernel), by decide +kernel, by decide +kernel, by decide +kernel, by decide +kernel⟩
def mX11_begins : zM := (yX11_begins, cX11_begins, 2, none)
theorem kX11_begins : zMi mX11_begins 0 := ⟨zwd 1578 (by decide +kernel) (by decide +kernel), zwd 117 (by decide +kernel) (by decide +kernel), zwd 1577 (by decide +kernel) (by decide +kernel), zwd 77 (by decide +kernel) (by decide +kernel), by decide +kernel, by decide +kernel, by decide +kernel, by decide +kernel⟩
def mX11_joins : zM := (yX11_joins, cX11_joins, 5, none)
theorem kX11_joins : zMi mX11_joins 2 := ⟨zwd 1596 (by decide +kernel) (by decide +kernel), zwd 117 (by decide +kernel) (by decide +kernel), zwd 1595 (by decide +kernel) (by decide +kernel), zwd 80 (by decide +kernel) (by decide +kernel), by decide +kernel, by decide +kernel, by decide +kernel, by decide +kernel⟩
def mX11_differs : zM := (yX11_differs, cX11_differs, 2, (some .int))
theorem kX11_differs : zMi mX11_differs 0 := ⟨zwd 1574 (by decide +kernel) (by decide +kernel), zwd 117 (by decide +kernel) (by decide +kernel), zwd 1573 (by decide +kernel) (by decide +kernel), zwd 76 (by decide +kernel) (by decide +kernel), by decide +kernel, by decide +kernel, by decide +kernel, by decide +kernel⟩
def mX11_difference : zM := (yX11_difference, cX11_difference, 2, (some .int))
theorem kX11_difference : zMi mX11_difference 0 := ⟨zwd 1570 (by decide +kernel) (by decide +kernel), zwd 117 (by decide +kernel) (by decide +kernel), zwd 1568 (by decide +kernel) (by decide +kernel), zwd 1569 (by decide +kernel) (by decide +kernel), by decide +kernel, by decide +kernel, by decide +kernel, by decide +kernel⟩
def mX11_sideOf : zM := (yX11_sideOf, cX11_sideOf, 2, (some .int))
theorem kX11_sideOf : zMs mX11_sideOf 2 := ⟨zwd 1603 (by decide +kernel) (by decide +kernel), zwd 117 (by decide +kernel) (by decide +kernel), zwd 1602 (by decide +kernel) (by decide +kernel), by decide +kernel, by decide +kernel, by decide +kernel, by decide +kernel⟩
def mX11_differenceOf : zM := (yX11_differenceOf, cX11_differenceOf, 3, (some .int))
theorem kX11_differenceOf : zMi mX11_differenceOf 1 := ⟨zwd 1600 (by decide +kernel) (by decide +kernel), zwd 117 (by decide +kernel) (by decide +kernel), zwd 1598 (by decide +kernel) (by decide +kernel), zwd 1599 (by decide +kernel) (by decide +kernel), by decide +kernel, by decide +kernel, by decide +kernel, by decide +kernel⟩
def mX11_step : zM := (yX11_step, cX11_step, 4, (some .int))
theorem kX11_step : zMi mX11_step 2 := ⟨zwd 1607 (by decide +kernel) (by decide +kernel), zwd 117 (by decide +kernel) (by decide +kernel), zwd 1605 (by decide +kernel) (by decide +kernel), zwd 1606 (by decide +kernel) (by decide +kernel), by decide +kernel, by decide +kernel, by decide +kernel, by decide +kernel⟩
def mX11_leaf : zM := (yX11_leaf, cX11_leaf, 5, none)
theorem kX11_leaf : zMi mX11_leaf 2 := ⟨zwd 1623 (by decide +kernel) (by decide +kernel), zwd 117 (by decide +kernel) (by decide +kernel), zwd 1622 (by decide +kernel) (by decide +kernel), zwd 83 (by decide +kernel) (by decide +kernel), by decide +kernel, by decide +kernel, by decide +kernel, by decide +kernel⟩
def mX11_visits : zM := (yX11_visits, cX11_visits, 5, none)
theorem kX11_visits : zMi mX11_visits 1 := ⟨zwd 1619 (by decide +kernel) (by decide +kernel), zwd 117 (by decide +kernel) (by decide +kernel), zwd 1618 (by decide +kernel) (by decide +kernel), zwd 82 (by decide +kernel) (by decide +kernel), by decide +kernel, by decide +kernel, by decide +kernel, by decide +kernel⟩
def mX11_searches : zM := (yX11_searches, cX11_searches, 1, none)
theorem kX11_searches : zMi mX11_searches 0 := ⟨zwd 1615 (by decide +kernel) (by decide +kernel), zwd 117 (by decide +kernel) (by decide +kernel), zwd 1614 (by decide +kernel) (by decide +kernel), zwd 81 (by decide +kernel) (by decide +kernel), by decide +kernel, by decide +kernel, by decide +kernel, by decide +kernel⟩
def mX11_search : zM := (yX11_search, cX11_search, 2, (some .int))
theorem kX11_search : zMi mX11_search 1 := ⟨zwd 1611 (by decide +kernel) (by decide +kernel), zwd 117 (by decide +kernel) (by decide +kernel), zwd 1609 (by decide +kernel) (by decide +kernel), zwd 1610 (by decide +kernel) (by decide +kernel), by decide +kernel, by decide +kernel, by decide +kernel, by decide +kernel⟩
def mX11_find : zM := (yX11_find, cX11_find, 3, (some .int))
theorem kX11_find : zMi mX11_find 2 := ⟨zwd 1627 (by decide +kernel) (by decide +kernel), zwd 117 (by decide +kernel) (by decide +kernel), zwd 1625 (by decide +kernel) (by decide +kernel), zwd 1626 (by decide +kernel) (by decide +kernel), by decide +kernel, by decide +kernel, by decide +kernel, by decide +kernel⟩
def mX11_searchOf : zM := (yX11_searchOf, cX11_searchOf, 2, (some .int))
theorem kX11_searchOf : zMi mX11_searchOf 1 := ⟨zwd 1631 (by decide +kernel) (by decide +kernel), zwd 117 (by decide +kernel) (by decide +kernel), zwd 1629 (by decide +kernel) (by decide +kernel), zwd 1630 (by decide +kernel) (by decide +kernel), by decide +kernel, by decide +kernel, by decide +kernel, by decide +kernel⟩
def mX11_setOf : zM := (yX11_setOf, cX11_setOf, 2, (some .int))
theorem kX11_setOf : zMi mX11_setOf 1 := ⟨zwd 1655 (by decide +kernel) (by decide +kernel), zwd 117 (by decide +kernel) (by decide +kernel), zwd 1654 (by decide +kernel) (by decide +kernel), zwd 88 (by decide +kernel) (by decide +kernel), by decide +kernel, by decide +kernel, by decide +kernel, by decide +kernel⟩
def mX11_width : zM := (yX11_width, cX11_width, 3, (some .int))
theorem kX11_width : zMi mX11_width 2 := ⟨zwd 1651 (by decide +kernel) (by decide +kernel), zwd 117 (by decide +kernel) (by decide +kernel), zwd 1650 (by decide +kernel) (by decide +kernel), zwd 87 (by decide +kernel) (by decide +kernel), by decide +kernel, by decide +kernel, by decide +kernel, by decide +kernel⟩
def mX11_isBefore : zM := (yX11_isBefore, cX11_isBefore, 3, (some .boolean))
theorem kX11_isBefore : zMi mX11_isBefore 2 := ⟨zwd 1647 (by decide +kernel) (by decide +kernel), zwd 117 (by decide +kernel) (by decide +kernel), zwd 1646 (by decide +kernel) (by decide +kernel), zwd 86 (by decide +kernel) (by decide +kernel), by decide +kernel, by decide +kernel, by decide +kernel, by decide +kernel⟩
def mX11_places : zM := (yX11_places, cX11_places, 7, none)
theorem kX11_places : zMi mX11_places 1 := ⟨zwd 1643 (by decide +kernel) (by decide +kernel), zwd 117 (by decide +kernel) (by decide +kernel), zwd 1642 (by decide +kernel) (by decide +kernel), zwd 85 (by decide +kernel) (by decide +kernel), by decide +kernel, by decide +kernel, by decide +kernel, by decide +kernel⟩
def mX11_multiplies : zM := (yX11_multiplies, cX11_multiplies, 4, none)
theorem kX11_multiplies : zMi mX11_multiplies 1 := ⟨zwd 1639 (by decide +kernel) (by decide +kernel), zwd 117 (by decide +kernel) (by decide +kernel), zwd 1638 (by decide +kernel) (by decide +kernel), zwd 84 (by decide +kernel) (by decide +kernel), by decide +kernel, by decide +kernel, by decide +kernel, by decide +kernel⟩
def mX11_multi : zM := (yX11_multi, cX11_multi, 2, (some .int))
theorem kX11_multi : zMi mX11_multi 1 := ⟨zwd 1635 (by decide +kernel) (by decide +kernel), zwd 117 (by decide +kernel) (by decide +kernel), zwd 1633 (by decide +kernel) (by decide +kernel), zwd 1634 (by decide +kernel) (by decide +kernel), by decide +kernel, by decide +kernel, by decide +kernel, by decide +kernel⟩
def mX11_multiOf : zM := (yX11_multiOf, cX11_multiOf, 4, (some .int))
theorem kX11_multiOf : zMi mX11_multiOf 2 := ⟨zwd 1659 (by decide +kernel) (by decide +kernel), zwd 117 (by decide +kernel) (by decide +kernel), zwd 1657 (by decide +kernel) (by decide +kernel), zwd 1658 (by decide +kernel) (by decide +kernel), by decide +kernel, by decide +kernel, by decide +kernel, by decide +kernel⟩
def mX11_bound : zM := (yX11_bound, cX11_bound, 5, (some .int))
theorem kX11_bound : zMi mX11_bound 1 := ⟨zwd 1663 (by decide +kernel) (by decide +kernel), zwd 117 (by decide +kernel) (by decide +kernel), zwd 1661 (by decide +kernel) (by decide +kernel), zwd 1662 (by decide +kernel) (by decide +kernel), by decide +kernel, by decide +kernel, by decide +kernel, by decide +kernel⟩
def mX11_mayLie : zM := (yX11_mayLie, cX11_mayLie, 6, (some .boolean))
theorem kX11_mayLie : zMi mX11_mayLie 2 := ⟨zwd 1679 (by decide +kernel) (by decide +kernel), zwd 117 (by decide +kernel) (by decide +kernel), zwd 1678 (by decide +kernel) (by decide +kernel), zwd 91 (by decide +kernel) (by decide +kernel), by decide +kernel, by decide +kernel, by decide +kernel, by decide +kernel⟩
def mX11_goes : zM := (yX11_goes, cX11_goes, 6, none)
theorem kX11_goes : zMi mX11_goes 2 := ⟨zwd 1675 (by decide +kernel) (by decide +kernel), zwd 117 (by decide +kernel) (by decide +kernel), zwd 1674 (by decide +kernel) (by decide +kernel), zwd 90 (by decide +kernel) (by decide +kernel), by decide +kernel, by decide +kernel, by decide +kernel, by decide +kernel⟩
def mX11_areRows : zM := (yX11_areRows, cX11_areRows, 3, (some .boolean))
theorem kX11_areRows : zMi mX11_areRows 1 := ⟨zwd 1671 (by decide +kernel) (by decide +kernel), zwd 117 (by decide +kernel) (by decide +kernel), zwd 1670 (by decide +kernel) (by decide +kernel), zwd 89 (by decide +kernel) (by decide +kernel), by decide +kernel, by decide +kernel, by decide +kernel, by decide +kernel⟩
def mX11_least : zM := (yX11_least, cX11_least, 3, (some .int))
theorem kX11_least : zMi mX11_least 2 := ⟨zwd 1667 (by decide +kernel) (by decide +kernel), zwd 117 (by decide +kernel) (by decide +kernel), zwd 1665 (by decide +kernel) (by decide +kernel), zwd 1666 (by decide +kernel) (by decide +kernel), by decide +kernel, by decide +kernel, by decide +kernel, by decide +kernel⟩
def mX11_leastOf : zM := (yX11_leastOf, cX11_leastOf, 3, (some .int))
theorem kX11_leastOf : zMi mX11_leastOf 2 := ⟨zwd 1683 (by decide +kernel) (by decide +kernel), zwd 117 (by decide +kernel) (by decide +kernel), zwd 1681 (by decide +kernel) (by decide +kernel), zwd 1682 (by decide +kernel) (by decide +kernel), by decide +kernel, by decide +kernel, by decide +kernel, by decide +kernel⟩
def mX11_flat : zM := (yX11_flat, cX11_flat, 2, (some .int))
theorem kX11_flat : zMi mX11_flat 1 := ⟨zwd 1687 (by decide +kernel) (by decide +kernel), zwd 117 (by decide +kernel) (by decide +kernel), zwd 1685 (by decide +kernel) (by decide +kernel), zwd 1686 (by decide +kernel) (by decide +kernel), by decide +kernel, by decide +kernel, by decide +kernel, by decide +kernel⟩
def mX11_rows : zM := (yX11_rows, cX11_rows, 3, (some .int))
theorem kX11_rows : zMi mX11_rows 1 := ⟨zwd 1691 (by decide +kernel) (by decide +kernel), zwd 117 (by decide +kernel) (by decide +kernel), zwd 1689 (by decide +kernel) (by decide +kernel), zwd 1690 (by decide +kernel) (by decide +kernel), by decide +kernel, by decide +kernel, by decide +kernel, by decide +kernel⟩
def mX11_spreadNow : zM := (yX11_spreadNow, cX11_spreadNow, 2, (some .int))
theorem kX11_spreadNow : zMi mX11_spreadNow 1 := ⟨zwd 1707 (by decide +kernel) (by decide +kernel), zwd 117 (by decide +kernel) (by decide +kernel), zwd 1706 (by decide +kernel) (by decide +kernel), zwd 94 (by decide +kernel) (by decide +kernel), by decide +kernel, by decide +kernel, by decide +kernel, by decide +kernel⟩
def mX11_exchanges : zM := (yX11_exchanges, cX11_exchanges, 4, none)
theorem kX11_exchanges : zMi mX11_exchanges 2 := ⟨zwd 1715 (by decide +kernel) (by decide +kernel), zwd 117 (by decide +kernel) (by decide +kernel), zwd 1714 (by decide +kernel) (by decide +kernel), zwd 96 (by decide +kernel) (by decide +kernel), by decide +kernel, by decide +kernel, by decide +kernel, by decide +kernel⟩
def mX11_climbs : zM := (yX11_climbs, cX11_climbs, 11, (some .boolean))
theorem kX11_climbs : zMi mX11_climbs 1 := ⟨zwd 1703 (by decide +kernel) (by decide +kernel), zwd 117 (by decide +kernel) (by decide +kernel), zwd 1702 (by decide +kernel) (by decide +kernel), zwd 93 (by decide +kernel) (by decide +kernel), by decide +kernel, by decide +kernel, by decide +kernel, by decide +kernel⟩
def mX11_climbsAll : zM := (yX11_climbsAll, cX11_climbsAll, 3, (some .int))
theorem kX11_climbsAll : zMi mX11_climbsAll 1 := ⟨zwd 1699 (by decide +kernel) (by decide +kernel), zwd 117 (by decide +kernel) (by decide +kernel), zwd 1698 (by decide +kernel) (by decide +kernel), zwd 92 (by decide +kernel) (by decide +kernel), by decide +kernel, by decide +kernel, by decide +kernel, by decide +kernel⟩
def mX11_climb : zM := (yX11_climb, cX11_climb, 4, (some .int))
theorem kX11_climb : zMi mX11_climb 2 := ⟨zwd 1695 (by decide +kernel) (by decide +kernel), zwd 117 (by decide +kernel) (by decide +kernel), zwd 1693 (by decide +kernel) (by decide +kernel), zwd 1694 (by decide +kernel) (by decide +kernel), by decide +kernel, by decide +kernel, by decide +kernel, by decide +kernel⟩
def mX11_climbOf : zM := (yX11_climbOf, cX11_climbOf, 4, (some .int))
theorem kX11_climbOf : zMi mX11_climbOf 2 := ⟨zwd 1719 (by decide +kernel) (by decide +kernel), zwd 117 (by decide +kernel) (by decide +kernel), zwd 1717 (by decide +kernel) (by decide +kernel), zwd 1718 (by decide +kernel) (by decide +kernel), by decide +kernel, by decide +kernel, by decide +kernel, by decide +kernel⟩
def mX11_laysSums : zM := (yX11_laysSums, cX11_laysSums, 3, (some .int))
theorem kX11_laysSums : zMi mX11_laysSums 0 := ⟨zwd 1731 (by decide +kernel) (by decide +kernel), zwd 117 (by decide +kernel) (by decide +kernel), zwd 1730 (by decide +kernel) (by decide +kernel), zwd 97 (by decide +kernel) (by decide +kernel), by decide +kernel, by decide +kernel, by decide +kernel, by decide +kernel⟩
def mX11_isSum : zM := (yX11_isSum, cX11_isSum, 1, (some .boolean))
theorem kX11_isSum : zMs mX11_isSum 1 := ⟨zwd 1726 (by decide +kernel) (by decide +kernel), zwd 117 (by decide +kernel) (by decide +kernel), zwd 1725 (by decide +kernel) (by decide +kernel), by decide +kernel, by decide +kernel, by decide +kernel, by decide +kernel⟩
def mX11_ways : zM := (yX11_ways, cX11_ways, 5, (some .int))
theorem kX11_ways : zMi mX11_ways 1 := ⟨zwd 1723 (by decide +kernel) (by decide +kernel), zwd 117 (by decide +kernel) (by decide +kernel), zwd 1721 (by decide +kernel) (by decide +kernel), zwd 1722 (by decide +kernel) (by decide +kernel), by decide +kernel, by decide +kernel, by decide +kernel, by decide +kernel⟩
def mX11_chosen : zM := (yX11_chosen, cX11_chosen, 5, (some .int))
theorem kX11_chosen : zMi mX11_chosen 1 := ⟨zwd 1735 (by decide +kernel) (by decide +kernel), zwd 117 (by decide +kernel) (by decide +kernel), zwd 1733 (by decide +kernel) (by decide +kernel), zwd 1734 (by decide +kernel) (by decide +kernel), by decide +kernel, by decide +kernel, by decide +kernel, by decide +kernel⟩
def mX11_isNew : zM := (yX11_isNew, cX11_isNew, 4, (some .boolean))
theorem kX11_isNew : zMi mX11_isNew 1 := ⟨zwd 1746 (by decide +kernel) (by decide +kernel), zwd 117 (by decide +kernel) (by decide +kernel), zwd 1745 (by decide +kernel) (by decide +kernel), zwd 98 (by decide +kernel) (by decide +kernel), by decide +kernel, by decide +kernel, by decide +kernel, by decide +kernel⟩
def mX11_sums : zM := (yX11_sums, cX11_sums, 4, (some .int))
theorem kX11_sums : zMi mX11_sums 0 := ⟨zwd 1742 (by decide +kernel) (by decide +kernel), zwd 117 (by decide +kernel) (by decide +kernel), zwd 1740 (by decide +kernel) (by decide +kernel), zwd 1741 (by decide +kernel) (by decide +kernel), by decide +kernel, by decide +kernel, by decide +kernel, by decide +kernel⟩
def mX11_nearest : zM := (yX11_nearest, cX11_nearest, 7, (some .int))
theorem kX11_nearest : zMi mX11_nearest 1 := ⟨zwd 1750 (by decide +kernel) (by decide +kernel), zwd 117 (by decide +kernel) (by decide +kernel), zwd 1748 (by decide +kernel) (by decide +kernel), zwd 1749 (by decide +kernel) (by decide +kernel), by decide +kernel, by decide +kernel, by decide +kernel, by decide +kernel⟩
def mX11_remembers : zM := (yX11_remembers, cX11_remembers, 2, none)
theorem kX11_remembers : zMi mX11_remembers 0 := ⟨zwd 1758 (by decide +kernel) (by decide +kernel), zwd 117 (by decide +kernel) (by decide +kernel), zwd 1757 (by decide +kernel) (by decide +kernel), zwd 99 (by decide +kernel) (by decide +kernel), by decide +kernel, by decide +kernel, by decide +kernel, by decide +kernel⟩
def mX11_add : zM := (yX11_add, cX11_add, 2, (some .int))
theorem kX11_add : zMi mX11_add 1 := ⟨zwd 1754 (by decide +kernel) (by decide +kernel), zwd 117 (by decide +kernel) (by decide +kernel), zwd 1752 (by decide +kernel) (by decide +kernel), zwd 1753 (by decide +kernel) (by decide +kernel), by decide +kernel, by decide +kernel, by decide +kernel, by decide +kernel⟩
def mX11_parts : zM := (yX11_parts, cX11_parts, 3, none)
theorem kX11_parts : zMi mX11_parts 1 := ⟨zwd 1766 (by decide +kernel) (by decide +kernel), zwd 117 (by decide +kernel) (by decide +kernel), zwd 1765 (by decide +kernel) (by decide +kernel), zwd 100 (by decide +kernel) (by decide +kernel), by decide +kernel, by decide +kernel, by decide +kernel, by decide +kernel⟩
def mX11_drop : zM := (yX11_drop, cX11_drop, 4, (some .int))
theorem kX11_drop : zMi mX11_drop 1 := ⟨zwd 1762 (by decide +kernel) (by decide +kernel), zwd 117 (by decide +kernel) (by decide +kernel), zwd 1760 (by decide +kernel) (by decide +kernel), zwd 1761 (by decide +kernel) (by decide +kernel), by decide +kernel, by decide +kernel, by decide +kernel, by decide +kernel⟩
def mX11_changes : zM := (yX11_changes, cX11_changes, 4, (some .int))
theorem kX11_changes : zMi mX11_changes 2 := ⟨zwd 1774 (by decide +kernel) (by decide +kernel), zwd 117 (by decide +kernel) (by decide +kernel), zwd 1773 (by decide +kernel) (by decide +kernel), zwd 101 (by decide +kernel) (by decide +kernel), by decide +kernel, by decide +kernel, by decide +kernel, by decide +kernel⟩
def mX11_become : zM := (yX11_become, cX11_become, 3, (some .int))
theorem kX11_become : zMi mX11_become 2 := ⟨zwd 1770 (by decide +kernel) (by decide +kernel), zwd 117 (by decide +kernel) (by decide +kernel), zwd 1768 (by decide +kernel) (by decide +kernel), zwd 1769 (by decide +kernel) (by decide +kernel), by decide +kernel, by decide +kernel, by decide +kernel, by decide +kernel⟩
def mX11_keepIn : zM := (yX11_keepIn, cX11_keepIn, 4, (some .int))
theorem kX11_keepIn : zMi mX11_keepIn 2 := ⟨zwd 1778 (by decide +kernel) (by decide +kernel), zwd 117 (by decide +kernel) (by decide +kernel), zwd 1776 (by decide +kernel) (by decide +kernel), zwd 1777 (by decide +kernel) (by decide +kernel), by decide +kernel, by decide +kernel, by decide +kernel, by decide +kernel⟩
def mX11_apart : zM := (yX11_apart, cX11_apart, 4, (some .int))
theorem kX11_apart : zMi mX11_apart 2 := ⟨zwd 1782 (by decide +kernel) (by decide +kernel), zwd 117 (by decide +kernel) (by decide +kernel), zwd 1780 (by decide +kernel) (by decide +kernel), zwd 1781 (by decide +kernel) (by decide +kernel), by decide +kernel, by decide +kernel, by decide +kernel, by decide +kernel⟩
def mX11_sort : zM := (yX11_sort, cX11_sort, 4, (some .int))
theorem kX11_sort : zMi mX11_sort 0 := ⟨zwd 1786 (by decide +kernel) (by decide +kernel), zwd 117 (by decide +kernel) (by decide +kernel), zwd 1784 (by decide +kernel) (by decide +kernel), zwd 1785 (by decide +kernel) (by decide +kernel), by decide +kernel, by decide +kernel, by decide +kernel, by decide +kernel⟩
def mX11_heaps : zM := (yX11_heaps, cX11_heaps, 2, (some .int))
theorem kX11_heaps : zMi mX11_heaps 1 := ⟨zwd 1790 (by decide +kernel) (by decide +kernel), zwd 117 (by decide +kernel) (by decide +kernel), zwd 1788 (by decide +kernel) (by decide +kernel), zwd 1789 (by decide +kernel) (by decide +kernel), by decide +kernel, by decide +kernel, by decide +kernel, by decide +kernel⟩
def mX11_undo : zM := (yX11_undo, cX11_undo, 2, (some .int))
theorem kX11_undo : zMi mX11_undo 0 := ⟨zwd 1794 (by decide +kernel) (by decide +kernel), zwd 117 (by decide +kernel) (by decide +kernel), zwd 1792 (by decide +kernel) (by decide +kernel), zwd 1793 (by decide +kernel) (by decide +kernel), by decide +kernel, by decide +kernel, by decide +kernel, by decide +kernel⟩
def mX11_image : zM := (yX11_image, cX11_image, 3, (some .boolean))
theorem kX11_image : zMi mX11_image 1 := ⟨zwd 1798 (by decide +kernel) (by decide +kernel), zwd 117 (by decide +kernel) (by decide +kernel), zwd 1796 (by decide +kernel) (by decide +kernel), zwd 1797 (by decide +kernel) (by decide +kernel), by decide +kernel, by decide +kernel, by decide +kernel, by decide +kernel⟩
def mX11_back : zM := (yX11_back, cX11_back, 3, (some .boolean))
theorem kX11_back : zMi mX11_back 1 := ⟨zwd 1806 (by decide +kernel) (by decide +kernel), zwd 117 (by decide +kernel) (by decide +kernel), zwd 1804 (by decide +kernel) (by decide +kernel), zwd 1805 (by decide +kernel) (by decide +kernel), by decide +kernel, by decide +kernel, by decide +kernel, by decide +kernel⟩
def mX11_writes : zM := (yX11_writes, cX11_writes, 2, none)
theorem kX11_writes : zMi mX11_writes 1 := ⟨zwd 1814 (by decide +kernel) (by decide +kernel), zwd 117 (by decide +kernel) (by decide +kernel), zwd 1813 (by decide +kernel) (by decide +kernel), zwd 103 (by decide +kernel) (by decide +kernel), by decide +kernel, by decide +kernel, by decide +kernel, by decide +kernel⟩
def mX11_writesNumber : zM := (yX11_writesNumber, cX11_writesNumber, 3, none)
theorem kX11_writesNumber : zMi mX11_writesNumber 1 := ⟨zwd 1818 (by decide +kernel) (by decide +kernel), zwd 117 (by decide +kernel) (by decide +kernel), zwd 1817 (by decide +kernel) (by decide +kernel), zwd 104 (by decide +kernel) (by decide +kernel), by decide +kernel, by decide +kernel, by decide +kernel, by decide +kernel⟩
def mX11_write : zM := (yX11_write, cX11_write, 4, (some .int))
theorem kX11_write : zMi mX11_write 0 := ⟨zwd 1810 (by decide +kernel) (by decide +kernel), zwd 117 (by decide +kernel) (by decide +kernel), zwd 1808 (by decide +kernel) (by decide +kernel), zwd 1809 (by decide +kernel) (by decide +kernel), by decide +kernel, by decide +kernel, by decide +kernel, by decide +kernel⟩
def mX11_octet : zM := (yX11_octet, cX11_octet, 2, (some .int))
theorem kX11_octet : zMi mX11_octet 1 := ⟨zwd 1822 (by decide +kernel) (by decide +kernel), zwd 117 (by decide +kernel) (by decide +kernel), zwd 1820 (by decide +kernel) (by decide +kernel), zwd 1821 (by decide +kernel) (by decide +kernel), by decide +kernel, by decide +kernel, by decide +kernel, by decide +kernel⟩
def mX11_bytes : zM := (yX11_bytes, cX11_bytes, 1, (some .int))
theorem kX11_bytes : zMi mX11_bytes 0 := ⟨zwd 1826 (by decide +kernel) (by decide +kernel), zwd 117 (by decide +kernel) (by decide +kernel), zwd 1824 (by decide +kernel) (by decide +kernel), zwd 1825 (by decide +kernel) (by decide +kernel), by decide +kernel, by decide +kernel, by decide +kernel, by decide +kernel⟩
def mX11_trouble : zM := (yX11_trouble, cX11_trouble, 1, (some .int))
theorem kX11_trouble : zMi mX11_trouble 0 := ⟨zwd 1830 (by decide +kernel) (by decide +kernel), zwd 117 (by decide +kernel) (by decide +kernel), zwd 1828 (by decide +kernel) (by decide +kernel), zwd 1829 (by decide +kernel) (by decide +kernel), by decide +kernel, by decide +kernel, by decide +kernel, by decide +kernel⟩
theorem cL_8 : Cond.classLink RL 8 "NumberHeaps" ∈ Wd := zwd 129 (by decide +kernel) (by decide +kernel)
theorem iX10 : Cond.instantiable RX10 15 ∈ Wd := zwd 130 (by decide +kernel) (by decide +kernel)
theorem lL_15 : Cond.methodLink RL 15 yX10_init ∈ Wd := zwd 131 (by decide +kernel) (by decide +kernel)
theorem lX10_1 : Cond.methodLink RX10 1 ⟨"java/lang/Object", "<init>", "()V"⟩ ∈ Wd := zwd 134 (by decide +kernel) (by decide +kernel)
theorem cX10_7 : Cond.classLink RX10 7 "NumberHeaps$Reader" ∈ Wd := zwd 137 (by decide +kernel) (by decide +kernel)
theorem iX6 : Cond.instantiable RX6 10 ∈ Wd := zwd 138 (by decide +kernel) (by decide +kernel)
theorem lX6_3 : Cond.methodLink RX6 3 ⟨"java/lang/Object", "<init>", "()V"⟩ ∈ Wd := zwd 142 (by decide +kernel) (by decide +kernel)
theorem cX6_15 : Cond.classLink RX6 15 "NumberHeaps$State" ∈ Wd := zwd 143 (by decide +kernel) (by decide +kernel)
theorem iX9 : Cond.instantiable RX9 6 ∈ Wd := zwd 144 (by decide +kernel) (by decide +kernel)
theorem lX9_3 : Cond.methodLink RX9 3 ⟨"java/lang/Object", "<init>", "()V"⟩ ∈ Wd := zwd 148 (by decide +kernel) (by decide +kernel)
theorem fX9_9 : Cond.fieldLink RX9 9 "NumberHeaps$State" "count" "I" ∈ Wd := zwd 149 (by decide +kernel) (by decide +kernel)
theorem fX4_33 : Cond.fieldLink RX4 33 "NumberHeaps$State" "count" "I" ∈ Wd := zwd 150 (by decide +kernel) (by decide +kernel)
theorem fX3_25 : Cond.fieldLink RX3 25 "NumberHeaps$State" "count" "I" ∈ Wd := zwd 151 (by decide +kernel) (by decide +kernel)
theorem fX0_29 : Cond.fieldLink RX0 29 "NumberHeaps$State" "count" "I" ∈ Wd := zwd 152 (by decide +kernel) (by decide +kernel)
theorem fX1_37 : Cond.fieldLink RX1 37 "NumberHeaps$State" "count" "I" ∈ Wd := zwd 153 (by decide +kernel) (by decide +kernel)
theorem fX8_25 : Cond.fieldLink RX8 25 "NumberHeaps$State" "count" "I" ∈ Wd := zwd 154 (by decide +kernel) (by decide +kernel)
theorem fX10_130 : Cond.fieldLink RX10 130 "NumberHeaps$State" "count" "I" ∈ Wd := zwd 155 (by decide +kernel) (by decide +kernel)
theorem fX5_63 : Cond.fieldLink RX5 63 "NumberHeaps$State" "count" "I" ∈ Wd := zwd 156 (by decide +kernel) (by decide +kernel)
theorem fX6_67 : Cond.fieldLink RX6 67 "NumberHeaps$State" "count" "I" ∈ Wd := zwd 157 (by decide +kernel) (by decide +kernel)
theorem fX9_15 : Cond.fieldLink RX9 15 "NumberHeaps$State" "heapCount" "I" ∈ Wd := zwd 158 (by decide +kernel) (by decide +kernel)
theorem fX10_140 : Cond.fieldLink RX10 140 "NumberHeaps$State" "heapCount" "I" ∈ Wd := zwd 159 (by decide +kernel) (by decide +kernel)
theorem fX6_106 : Cond.fieldLink RX6 106 "NumberHeaps$State" "heapCount" "I" ∈ Wd := zwd 160 (by decide +kernel) (by decide +kernel)
theorem fX9_18 : Cond.fieldLink RX9 18 "NumberHeaps$State" "values" "[I" ∈ Wd := zwd 161 (by decide +kernel) (by decide +kernel)
theorem fX3_28 : Cond.fieldLink RX3 28 "NumberHeaps$State" "values" "[I" ∈ Wd := zwd 162 (by decide +kernel) (by decide +kernel)
theorem fX8_30 : Cond.fieldLink RX8 30 "NumberHeaps$State" "values" "[I" ∈ Wd := zwd 163 (by decide +kernel) (by decide +kernel)
theorem fX4_38 : Cond.fieldLink RX4 38 "NumberHeaps$State" "values" "[I" ∈ Wd := zwd 164 (by decide +kernel) (by decide +kernel)
theorem fX1_49 : Cond.fieldLink RX1 49 "NumberHeaps$State" "values" "[I" ∈ Wd := zwd 165 (by decide +kernel) (by decide +kernel)
theorem fX5_90 : Cond.fieldLink RX5 90 "NumberHeaps$State" "values" "[I" ∈ Wd := zwd 166 (by decide +kernel) (by decide +kernel)
theorem fX10_156 : Cond.fieldLink RX10 156 "NumberHeaps$State" "values" "[I" ∈ Wd := zwd 167 (by decide +kernel) (by decide +kernel)
theorem fX9_22 : Cond.fieldLink RX9 22 "NumberHeaps$State" "keeper" "[I" ∈ Wd := zwd 168 (by decide +kernel) (by decide +kernel)
theorem fX5_66 : Cond.fieldLink RX5 66 "NumberHeaps$State" "keeper" "[I" ∈ Wd := zwd 169 (by decide +kernel) (by decide +kernel)
theorem fX10_169 : Cond.fieldLink RX10 169 "NumberHeaps$State" "keeper" "[I" ∈ Wd := zwd 170 (by decide +kernel) (by decide +kernel)
theorem fX6_109 : Cond.fieldLink RX6 109 "NumberHeaps$State" "keeper" "[I" ∈ Wd := zwd 171 (by decide +kernel) (by decide +kernel)
theorem fX9_25 : Cond.fieldLink RX9 25 "NumberHeaps$State" "foes" "[I" ∈ Wd := zwd 172 (by decide +kernel) (by decide +kernel)
theorem fX5_77 : Cond.fieldLink RX5 77 "NumberHeaps$State" "foes" "[I" ∈ Wd := zwd 173 (by decide +kernel) (by decide +kernel)
theorem fX10_172 : Cond.fieldLink RX10 172 "NumberHeaps$State" "foes" "[I" ∈ Wd := zwd 174 (by decide +kernel) (by decide +kernel)
theorem fX9_28 : Cond.fieldLink RX9 28 "NumberHeaps$State" "bySize" "[I" ∈ Wd := zwd 175 (by decide +kernel) (by decide +kernel)
theorem fX1_42 : Cond.fieldLink RX1 42 "NumberHeaps$State" "bySize" "[I" ∈ Wd := zwd 176 (by decide +kernel) (by decide +kernel)
theorem fX10_160 : Cond.fieldLink RX10 160 "NumberHeaps$State" "bySize" "[I" ∈ Wd := zwd 177 (by decide +kernel) (by decide +kernel)
theorem a_arrayClass_int : Cond.arrayClass FieldType.int ∈ Wd := zwd 191 (by decide +kernel) (by decide +kernel)
theorem fX6_9 : Cond.fieldLink RX6 9 "NumberHeaps$Reader" "taped" "I" ∈ Wd := zwd 192 (by decide +kernel) (by decide +kernel)
theorem fX10_94 : Cond.fieldLink RX10 94 "NumberHeaps$Reader" "taped" "I" ∈ Wd := zwd 193 (by decide +kernel) (by decide +kernel)
theorem fX6_18 : Cond.fieldLink RX6 18 "NumberHeaps$Reader" "told" "LNumberHeaps$State;" ∈ Wd := zwd 194 (by decide +kernel) (by decide +kernel)
theorem fX10_114 : Cond.fieldLink RX10 114 "NumberHeaps$Reader" "told" "LNumberHeaps$State;" ∈ Wd := zwd 195 (by decide +kernel) (by decide +kernel)
theorem fX6_22 : Cond.fieldLink RX6 22 "NumberHeaps$Reader" "faultFound" "I" ∈ Wd := zwd 196 (by decide +kernel) (by decide +kernel)
theorem fX10_108 : Cond.fieldLink RX10 108 "NumberHeaps$Reader" "faultFound" "I" ∈ Wd := zwd 197 (by decide +kernel) (by decide +kernel)
theorem fX6_25 : Cond.fieldLink RX6 25 "NumberHeaps$Reader" "start" "I" ∈ Wd := zwd 198 (by decide +kernel) (by decide +kernel)
theorem fX10_111 : Cond.fieldLink RX10 111 "NumberHeaps$Reader" "start" "I" ∈ Wd := zwd 199 (by decide +kernel) (by decide +kernel)
theorem fX6_28 : Cond.fieldLink RX6 28 "NumberHeaps$Reader" "tape" "[B" ∈ Wd := zwd 200 (by decide +kernel) (by decide +kernel)
theorem fX6_32 : Cond.fieldLink RX6 32 "NumberHeaps$Reader" "length" "I" ∈ Wd := zwd 201 (by decide +kernel) (by decide +kernel)
theorem fX6_35 : Cond.fieldLink RX6 35 "NumberHeaps$Reader" "at" "I" ∈ Wd := zwd 202 (by decide +kernel) (by decide +kernel)
theorem fX6_38 : Cond.fieldLink RX6 38 "NumberHeaps$Reader" "kind" "I" ∈ Wd := zwd 203 (by decide +kernel) (by decide +kernel)
theorem fX6_41 : Cond.fieldLink RX6 41 "NumberHeaps$Reader" "whole" "I" ∈ Wd := zwd 204 (by decide +kernel) (by decide +kernel)
theorem fX6_44 : Cond.fieldLink RX6 44 "NumberHeaps$Reader" "heapsTold" "Z" ∈ Wd := zwd 205 (by decide +kernel) (by decide +kernel)
theorem a_arrayClass_byte : Cond.arrayClass FieldType.byte ∈ Wd := zwd 227 (by decide +kernel) (by decide +kernel)
theorem cX10_16 : Cond.classLink RX10 16 "NumberHeaps$State" ∈ Wd := zwd 228 (by decide +kernel) (by decide +kernel)
theorem cX10_23 : Cond.classLink RX10 23 "NumberHeaps$History" ∈ Wd := zwd 230 (by decide +kernel) (by decide +kernel)
theorem iX2 : Cond.instantiable RX2 4 ∈ Wd := zwd 231 (by decide +kernel) (by decide +kernel)
theorem lX10_25 : Cond.methodLink RX10 25 yX2_init ∈ Wd := zwd 232 (by decide +kernel) (by decide +kernel)
theorem lX2_3 : Cond.methodLink RX2 3 ⟨"java/lang/Object", "<init>", "()V"⟩ ∈ Wd := zwd 235 (by decide +kernel) (by decide +kernel)
theorem cX2_9 : Cond.classLink RX2 9 "NumberHeaps$State" ∈ Wd := zwd 236 (by decide +kernel) (by decide +kernel)
theorem fX2_11 : Cond.fieldLink RX2 11 "NumberHeaps$History" "past" "[LNumberHeaps$State;" ∈ Wd := zwd 239 (by decide +kernel) (by decide +kernel)
theorem fX2_17 : Cond.fieldLink RX2 17 "NumberHeaps$History" "next" "I" ∈ Wd := zwd 240 (by decide +kernel) (by decide +kernel)
theorem fX2_21 : Cond.fieldLink RX2 21 "NumberHeaps$History" "acts" "I" ∈ Wd := zwd 241 (by decide +kernel) (by decide +kernel)
theorem fX10_153 : Cond.fieldLink RX10 153 "NumberHeaps$History" "acts" "I" ∈ Wd := zwd 242 (by decide +kernel) (by decide +kernel)
theorem fX2_24 : Cond.fieldLink RX2 24 "NumberHeaps$History" "images" "[LNumberHeaps$State;" ∈ Wd := zwd 243 (by decide +kernel) (by decide +kernel)
theorem fX10_333 : Cond.fieldLink RX10 333 "NumberHeaps$History" "images" "[LNumberHeaps$State;" ∈ Wd := zwd 244 (by decide +kernel) (by decide +kernel)
theorem cX10_34 : Cond.classLink RX10 34 "NumberHeaps$Filling" ∈ Wd := zwd 254 (by decide +kernel) (by decide +kernel)
theorem iX1 : Cond.instantiable RX1 8 ∈ Wd := zwd 255 (by decide +kernel) (by decide +kernel)
theorem lX1_3 : Cond.methodLink RX1 3 ⟨"java/lang/Object", "<init>", "()V"⟩ ∈ Wd := zwd 259 (by decide +kernel) (by decide +kernel)
theorem fX1_9 : Cond.fieldLink RX1 9 "NumberHeaps$Filling" "heapOf" "[I" ∈ Wd := zwd 260 (by decide +kernel) (by decide +kernel)
theorem fX10_195 : Cond.fieldLink RX10 195 "NumberHeaps$Filling" "heapOf" "[I" ∈ Wd := zwd 261 (by decide +kernel) (by decide +kernel)
theorem fX1_15 : Cond.fieldLink RX1 15 "NumberHeaps$Filling" "changes" "I" ∈ Wd := zwd 262 (by decide +kernel) (by decide +kernel)
theorem fX10_287 : Cond.fieldLink RX10 287 "NumberHeaps$Filling" "changes" "I" ∈ Wd := zwd 263 (by decide +kernel) (by decide +kernel)
theorem fX1_19 : Cond.fieldLink RX1 19 "NumberHeaps$Filling" "heapSums" "[I" ∈ Wd := zwd 264 (by decide +kernel) (by decide +kernel)
theorem fX1_22 : Cond.fieldLink RX1 22 "NumberHeaps$Filling" "k" "I" ∈ Wd := zwd 265 (by decide +kernel) (by decide +kernel)
theorem fX1_25 : Cond.fieldLink RX1 25 "NumberHeaps$Filling" "bestSpread" "I" ∈ Wd := zwd 266 (by decide +kernel) (by decide +kernel)
theorem fX1_28 : Cond.fieldLink RX1 28 "NumberHeaps$Filling" "bestNumber" "I" ∈ Wd := zwd 267 (by decide +kernel) (by decide +kernel)
theorem fX1_31 : Cond.fieldLink RX1 31 "NumberHeaps$Filling" "bestHeap" "I" ∈ Wd := zwd 268 (by decide +kernel) (by decide +kernel)
theorem fX1_34 : Cond.fieldLink RX1 34 "NumberHeaps$Filling" "bestOther" "I" ∈ Wd := zwd 269 (by decide +kernel) (by decide +kernel)
theorem cX10_41 : Cond.classLink RX10 41 "NumberHeaps$Differencing" ∈ Wd := zwd 287 (by decide +kernel) (by decide +kernel)
theorem iX0 : Cond.instantiable RX0 3 ∈ Wd := zwd 288 (by decide +kernel) (by decide +kernel)
theorem lX0_3 : Cond.methodLink RX0 3 ⟨"java/lang/Object", "<init>", "()V"⟩ ∈ Wd := zwd 292 (by decide +kernel) (by decide +kernel)
theorem cX0_9 : Cond.classLink RX0 9 "NumberHeaps$ItemRow" ∈ Wd := zwd 293 (by decide +kernel) (by decide +kernel)
theorem iX3 : Cond.instantiable RX3 4 ∈ Wd := zwd 294 (by decide +kernel) (by decide +kernel)
theorem lX3_3 : Cond.methodLink RX3 3 ⟨"java/lang/Object", "<init>", "()V"⟩ ∈ Wd := zwd 298 (by decide +kernel) (by decide +kernel)
theorem fX3_9 : Cond.fieldLink RX3 9 "NumberHeaps$ItemRow" "count" "I" ∈ Wd := zwd 299 (by decide +kernel) (by decide +kernel)
theorem fX7_68 : Cond.fieldLink RX7 68 "NumberHeaps$ItemRow" "count" "I" ∈ Wd := zwd 300 (by decide +kernel) (by decide +kernel)
theorem fX3_15 : Cond.fieldLink RX3 15 "NumberHeaps$ItemRow" "values" "[I" ∈ Wd := zwd 301 (by decide +kernel) (by decide +kernel)
theorem fX0_35 : Cond.fieldLink RX0 35 "NumberHeaps$ItemRow" "values" "[I" ∈ Wd := zwd 302 (by decide +kernel) (by decide +kernel)
theorem fX10_205 : Cond.fieldLink RX10 205 "NumberHeaps$ItemRow" "values" "[I" ∈ Wd := zwd 303 (by decide +kernel) (by decide +kernel)
theorem fX3_19 : Cond.fieldLink RX3 19 "NumberHeaps$ItemRow" "firsts" "[I" ∈ Wd := zwd 304 (by decide +kernel) (by decide +kernel)
theorem fX10_208 : Cond.fieldLink RX10 208 "NumberHeaps$ItemRow" "firsts" "[I" ∈ Wd := zwd 305 (by decide +kernel) (by decide +kernel)
theorem fX3_22 : Cond.fieldLink RX3 22 "NumberHeaps$ItemRow" "seconds" "[I" ∈ Wd := zwd 306 (by decide +kernel) (by decide +kernel)
theorem fX0_12 : Cond.fieldLink RX0 12 "NumberHeaps$Differencing" "row" "LNumberHeaps$ItemRow;" ∈ Wd := zwd 316 (by decide +kernel) (by decide +kernel)
theorem fX10_201 : Cond.fieldLink RX10 201 "NumberHeaps$Differencing" "row" "LNumberHeaps$ItemRow;" ∈ Wd := zwd 317 (by decide +kernel) (by decide +kernel)
theorem fX0_18 : Cond.fieldLink RX0 18 "NumberHeaps$Differencing" "greater" "[I" ∈ Wd := zwd 318 (by decide +kernel) (by decide +kernel)
theorem fX10_215 : Cond.fieldLink RX10 215 "NumberHeaps$Differencing" "greater" "[I" ∈ Wd := zwd 319 (by decide +kernel) (by decide +kernel)
theorem fX0_22 : Cond.fieldLink RX0 22 "NumberHeaps$Differencing" "lesser" "[I" ∈ Wd := zwd 320 (by decide +kernel) (by decide +kernel)
theorem fX10_218 : Cond.fieldLink RX10 218 "NumberHeaps$Differencing" "lesser" "[I" ∈ Wd := zwd 321 (by decide +kernel) (by decide +kernel)
theorem cX10_48 : Cond.classLink RX10 48 "NumberHeaps$Search" ∈ Wd := zwd 329 (by decide +kernel) (by decide +kernel)
theorem iX7 : Cond.instantiable RX7 11 ∈ Wd := zwd 330 (by decide +kernel) (by decide +kernel)
theorem lX10_50 : Cond.methodLink RX10 50 yX7_init ∈ Wd := zwd 331 (by decide +kernel) (by decide +kernel)
theorem lX7_3 : Cond.methodLink RX7 3 ⟨"java/lang/Object", "<init>", "()V"⟩ ∈ Wd := zwd 334 (by decide +kernel) (by decide +kernel)
theorem cX7_38 : Cond.classLink RX7 38 "NumberHeaps$ItemRow" ∈ Wd := zwd 335 (by decide +kernel) (by decide +kernel)
theorem fX7_9 : Cond.fieldLink RX7 9 "NumberHeaps$Search" "least" "I" ∈ Wd := zwd 338 (by decide +kernel) (by decide +kernel)
theorem fX10_231 : Cond.fieldLink RX10 231 "NumberHeaps$Search" "least" "I" ∈ Wd := zwd 339 (by decide +kernel) (by decide +kernel)
theorem fX7_15 : Cond.fieldLink RX7 15 "NumberHeaps$Search" "visited" "I" ∈ Wd := zwd 340 (by decide +kernel) (by decide +kernel)
theorem fX10_234 : Cond.fieldLink RX10 234 "NumberHeaps$Search" "visited" "I" ∈ Wd := zwd 341 (by decide +kernel) (by decide +kernel)
theorem fX7_18 : Cond.fieldLink RX7 18 "NumberHeaps$Search" "leaves" "I" ∈ Wd := zwd 342 (by decide +kernel) (by decide +kernel)
theorem fX10_237 : Cond.fieldLink RX10 237 "NumberHeaps$Search" "leaves" "I" ∈ Wd := zwd 343 (by decide +kernel) (by decide +kernel)
theorem fX7_21 : Cond.fieldLink RX7 21 "NumberHeaps$Search" "finds" "I" ∈ Wd := zwd 344 (by decide +kernel) (by decide +kernel)
theorem fX10_240 : Cond.fieldLink RX10 240 "NumberHeaps$Search" "finds" "I" ∈ Wd := zwd 345 (by decide +kernel) (by decide +kernel)
theorem fX7_24 : Cond.fieldLink RX7 24 "NumberHeaps$Search" "perfect" "Z" ∈ Wd := zwd 346 (by decide +kernel) (by decide +kernel)
theorem fX10_243 : Cond.fieldLink RX10 243 "NumberHeaps$Search" "perfect" "Z" ∈ Wd := zwd 347 (by decide +kernel) (by decide +kernel)
theorem fX7_28 : Cond.fieldLink RX7 28 "NumberHeaps$Search" "firstSide" "I" ∈ Wd := zwd 348 (by decide +kernel) (by decide +kernel)
theorem fX10_253 : Cond.fieldLink RX10 253 "NumberHeaps$Search" "firstSide" "I" ∈ Wd := zwd 349 (by decide +kernel) (by decide +kernel)
theorem fX7_31 : Cond.fieldLink RX7 31 "NumberHeaps$Search" "found" "[I" ∈ Wd := zwd 350 (by decide +kernel) (by decide +kernel)
theorem fX10_247 : Cond.fieldLink RX10 247 "NumberHeaps$Search" "found" "[I" ∈ Wd := zwd 351 (by decide +kernel) (by decide +kernel)
theorem fX7_35 : Cond.fieldLink RX7 35 "NumberHeaps$Search" "foundAt" "[I" ∈ Wd := zwd 352 (by decide +kernel) (by decide +kernel)
theorem fX10_250 : Cond.fieldLink RX10 250 "NumberHeaps$Search" "foundAt" "[I" ∈ Wd := zwd 353 (by decide +kernel) (by decide +kernel)
theorem fX7_40 : Cond.fieldLink RX7 40 "NumberHeaps$Search" "rowAt" "[LNumberHeaps$ItemRow;" ∈ Wd := zwd 354 (by decide +kernel) (by decide +kernel)
theorem fX7_44 : Cond.fieldLink RX7 44 "NumberHeaps$Search" "totalModuloTwo" "I" ∈ Wd := zwd 355 (by decide +kernel) (by decide +kernel)
theorem fX7_47 : Cond.fieldLink RX7 47 "NumberHeaps$Search" "madeFor" "I" ∈ Wd := zwd 356 (by decide +kernel) (by decide +kernel)
theorem cX10_55 : Cond.classLink RX10 55 "NumberHeaps$Multi" ∈ Wd := zwd 380 (by decide +kernel) (by decide +kernel)
theorem iX4 : Cond.instantiable RX4 6 ∈ Wd := zwd 381 (by decide +kernel) (by decide +kernel)
theorem lX4_3 : Cond.methodLink RX4 3 ⟨"java/lang/Object", "<init>", "()V"⟩ ∈ Wd := zwd 385 (by decide +kernel) (by decide +kernel)
theorem cX4_9 : Cond.classLink RX4 9 "[[I" ∈ Wd := zwd 386 (by decide +kernel) (by decide +kernel)
theorem fX4_11 : Cond.fieldLink RX4 11 "NumberHeaps$Multi" "values" "[[I" ∈ Wd := zwd 388 (by decide +kernel) (by decide +kernel)
theorem fX4_16 : Cond.fieldLink RX4 16 "NumberHeaps$Multi" "members" "[[I" ∈ Wd := zwd 389 (by decide +kernel) (by decide +kernel)
theorem fX4_19 : Cond.fieldLink RX4 19 "NumberHeaps$Multi" "gone" "[Z" ∈ Wd := zwd 390 (by decide +kernel) (by decide +kernel)
theorem fX4_23 : Cond.fieldLink RX4 23 "NumberHeaps$Multi" "items" "I" ∈ Wd := zwd 391 (by decide +kernel) (by decide +kernel)
theorem fX4_27 : Cond.fieldLink RX4 27 "NumberHeaps$Multi" "k" "I" ∈ Wd := zwd 392 (by decide +kernel) (by decide +kernel)
theorem fX4_30 : Cond.fieldLink RX4 30 "NumberHeaps$Multi" "last" "I" ∈ Wd := zwd 393 (by decide +kernel) (by decide +kernel)
theorem a_arrayClass_boolean : Cond.arrayClass FieldType.boolean ∈ Wd := zwd 407 (by decide +kernel) (by decide +kernel)
theorem cX10_62 : Cond.classLink RX10 62 "NumberHeaps$Partings" ∈ Wd := zwd 408 (by decide +kernel) (by decide +kernel)
theorem cX10_68 : Cond.classLink RX10 68 "NumberHeaps$SetSums" ∈ Wd := zwd 410 (by decide +kernel) (by decide +kernel)
theorem iX8 : Cond.instantiable RX8 4 ∈ Wd := zwd 411 (by decide +kernel) (by decide +kernel)
theorem lX8_3 : Cond.methodLink RX8 3 ⟨"java/lang/Object", "<init>", "()V"⟩ ∈ Wd := zwd 415 (by decide +kernel) (by decide +kernel)
theorem fX8_11 : Cond.fieldLink RX8 11 "NumberHeaps$SetSums" "keys" "[I" ∈ Wd := zwd 416 (by decide +kernel) (by decide +kernel)
theorem fX8_15 : Cond.fieldLink RX8 15 "NumberHeaps$SetSums" "spare" "[I" ∈ Wd := zwd 417 (by decide +kernel) (by decide +kernel)
theorem fX8_18 : Cond.fieldLink RX8 18 "NumberHeaps$SetSums" "sets" "I" ∈ Wd := zwd 418 (by decide +kernel) (by decide +kernel)
theorem fX8_22 : Cond.fieldLink RX8 22 "NumberHeaps$SetSums" "madeFor" "I" ∈ Wd := zwd 419 (by decide +kernel) (by decide +kernel)
theorem iX5 : Cond.instantiable RX5 13 ∈ Wd := zwd 429 (by decide +kernel) (by decide +kernel)
theorem lX10_91 : Cond.methodLink RX10 91 yX5_init ∈ Wd := zwd 430 (by decide +kernel) (by decide +kernel)
theorem lX5_3 : Cond.methodLink RX5 3 ⟨"java/lang/Object", "<init>", "()V"⟩ ∈ Wd := zwd 433 (by decide +kernel) (by decide +kernel)
theorem cX5_11 : Cond.constant RX5 11 (1000000 : Int32) ∈ Wd := zwd 434 (by decide +kernel) (by decide +kernel)
theorem fX5_12 : Cond.fieldLink RX5 12 "NumberHeaps$Partings" "spread" "I" ∈ Wd := zwd 435 (by decide +kernel) (by decide +kernel)
theorem fX10_269 : Cond.fieldLink RX10 269 "NumberHeaps$Partings" "spread" "I" ∈ Wd := zwd 436 (by decide +kernel) (by decide +kernel)
theorem fX5_16 : Cond.fieldLink RX5 16 "NumberHeaps$Partings" "times" "I" ∈ Wd := zwd 437 (by decide +kernel) (by decide +kernel)
theorem fX10_271 : Cond.fieldLink RX10 271 "NumberHeaps$Partings" "times" "I" ∈ Wd := zwd 438 (by decide +kernel) (by decide +kernel)
theorem fX5_19 : Cond.fieldLink RX5 19 "NumberHeaps$Partings" "flattest" "I" ∈ Wd := zwd 439 (by decide +kernel) (by decide +kernel)
theorem fX10_277 : Cond.fieldLink RX10 277 "NumberHeaps$Partings" "flattest" "I" ∈ Wd := zwd 440 (by decide +kernel) (by decide +kernel)
theorem fX5_22 : Cond.fieldLink RX5 22 "NumberHeaps$Partings" "theRow" "[I" ∈ Wd := zwd 441 (by decide +kernel) (by decide +kernel)
theorem fX10_274 : Cond.fieldLink RX10 274 "NumberHeaps$Partings" "theRow" "[I" ∈ Wd := zwd 442 (by decide +kernel) (by decide +kernel)
theorem fX5_51 : Cond.fieldLink RX5 51 "NumberHeaps$Partings" "k" "I" ∈ Wd := zwd 443 (by decide +kernel) (by decide +kernel)
theorem fX5_26 : Cond.fieldLink RX5 26 "NumberHeaps$Partings" "row" "[I" ∈ Wd := zwd 444 (by decide +kernel) (by decide +kernel)
theorem fX5_29 : Cond.fieldLink RX5 29 "NumberHeaps$Partings" "heapSums" "[I" ∈ Wd := zwd 445 (by decide +kernel) (by decide +kernel)
theorem fX5_32 : Cond.fieldLink RX5 32 "NumberHeaps$Partings" "members" "[I" ∈ Wd := zwd 446 (by decide +kernel) (by decide +kernel)
theorem fX5_35 : Cond.fieldLink RX5 35 "NumberHeaps$Partings" "named" "I" ∈ Wd := zwd 447 (by decide +kernel) (by decide +kernel)
theorem fX5_38 : Cond.fieldLink RX5 38 "NumberHeaps$Partings" "total" "I" ∈ Wd := zwd 448 (by decide +kernel) (by decide +kernel)
theorem fX5_41 : Cond.fieldLink RX5 41 "NumberHeaps$Partings" "counting" "Z" ∈ Wd := zwd 449 (by decide +kernel) (by decide +kernel)
theorem fX5_45 : Cond.fieldLink RX5 45 "NumberHeaps$Partings" "allowed" "I" ∈ Wd := zwd 450 (by decide +kernel) (by decide +kernel)
theorem fX5_48 : Cond.fieldLink RX5 48 "NumberHeaps$Partings" "madeFor" "I" ∈ Wd := zwd 451 (by decide +kernel) (by decide +kernel)
theorem fX10_10 : Cond.fieldLink RX10 10 "NumberHeaps" "reader" "LNumberHeaps$Reader;" ∈ Wd := zwd 479 (by decide +kernel) (by decide +kernel)
theorem fX10_19 : Cond.fieldLink RX10 19 "NumberHeaps" "state" "LNumberHeaps$State;" ∈ Wd := zwd 480 (by decide +kernel) (by decide +kernel)
theorem fX10_26 : Cond.fieldLink RX10 26 "NumberHeaps" "history" "LNumberHeaps$History;" ∈ Wd := zwd 481 (by decide +kernel) (by decide +kernel)
theorem fX10_30 : Cond.fieldLink RX10 30 "NumberHeaps" "version" "I" ∈ Wd := zwd 482 (by decide +kernel) (by decide +kernel)
theorem fX10_37 : Cond.fieldLink RX10 37 "NumberHeaps" "filling" "LNumberHeaps$Filling;" ∈ Wd := zwd 483 (by decide +kernel) (by decide +kernel)
theorem fX10_44 : Cond.fieldLink RX10 44 "NumberHeaps" "differencing" "LNumberHeaps$Differencing;" ∈ Wd := zwd 484 (by decide +kernel) (by decide +kernel)
theorem fX10_51 : Cond.fieldLink RX10 51 "NumberHeaps" "searching" "LNumberHeaps$Search;" ∈ Wd := zwd 485 (by decide +kernel) (by decide +kernel)
theorem fX10_58 : Cond.fieldLink RX10 58 "NumberHeaps" "several" "LNumberHeaps$Multi;" ∈ Wd := zwd 486 (by decide +kernel) (by decide +kernel)
theorem fX10_64 : Cond.fieldLink RX10 64 "NumberHeaps" "partings" "[LNumberHeaps$Partings;" ∈ Wd := zwd 487 (by decide +kernel) (by decide +kernel)
theorem fX10_71 : Cond.fieldLink RX10 71 "NumberHeaps" "setSums" "LNumberHeaps$SetSums;" ∈ Wd := zwd 488 (by decide +kernel) (by decide +kernel)
theorem fX10_75 : Cond.fieldLink RX10 75 "NumberHeaps" "written" "[B" ∈ Wd := zwd 489 (by decide +kernel) (by decide +kernel)
theorem fX10_79 : Cond.fieldLink RX10 79 "NumberHeaps" "writtenBytes" "I" ∈ Wd := zwd 490 (by decide +kernel) (by decide +kernel)
theorem fX10_82 : Cond.fieldLink RX10 82 "NumberHeaps" "troubleNumber" "I" ∈ Wd := zwd 491 (by decide +kernel) (by decide +kernel)
theorem fX10_85 : Cond.fieldLink RX10 85 "NumberHeaps" "faultNumber" "I" ∈ Wd := zwd 492 (by decide +kernel) (by decide +kernel)
theorem fX10_88 : Cond.fieldLink RX10 88 "NumberHeaps" "faultPlace" "I" ∈ Wd := zwd 493 (by decide +kernel) (by decide +kernel)
theorem lL_19 : Cond.methodLink RL 19 yX10_feed ∈ Wd := zwd 525 (by decide +kernel) (by decide +kernel)
theorem lX10_97 : Cond.methodLink RX10 97 yX6_putFour ∈ Wd := zwd 529 (by decide +kernel) (by decide +kernel)
theorem lL_24 : Cond.methodLink RL 24 yX10_text ∈ Wd := zwd 533 (by decide +kernel) (by decide +kernel)
theorem lX10_100 : Cond.methodLink RX10 100 yX10_refuse ∈ Wd := zwd 537 (by decide +kernel) (by decide +kernel)
theorem lX10_104 : Cond.methodLink RX10 104 yX6_readText ∈ Wd := zwd 541 (by decide +kernel) (by decide +kernel)
theorem lX6_48 : Cond.methodLink RX6 48 ⟨"java/lang/Math", "min", "(II)I"⟩ ∈ Wd := zwd 545 (by decide +kernel) (by decide +kernel)
theorem lX6_54 : Cond.methodLink RX6 54 yX9_empty ∈ Wd := zwd 548 (by decide +kernel) (by decide +kernel)
theorem lX6_57 : Cond.methodLink RX6 57 yX6_nextToken ∈ Wd := zwd 552 (by decide +kernel) (by decide +kernel)
theorem lX6_134 : Cond.methodLink RX6 134 yX6_isLetter ∈ Wd := zwd 556 (by decide +kernel) (by decide +kernel)
theorem lX6_137 : Cond.methodLink RX6 137 yX6_takeWord ∈ Wd := zwd 559 (by decide +kernel) (by decide +kernel)
theorem lX6_140 : Cond.methodLink RX6 140 yX6_isDigit ∈ Wd := zwd 563 (by decide +kernel) (by decide +kernel)
theorem lX6_143 : Cond.methodLink RX6 143 yX6_takeWhole ∈ Wd := zwd 566 (by decide +kernel) (by decide +kernel)
theorem lX6_146 : Cond.methodLink RX6 146 yX6_takeSign ∈ Wd := zwd 570 (by decide +kernel) (by decide +kernel)
theorem lX6_60 : Cond.methodLink RX6 60 yX6_readLines ∈ Wd := zwd 574 (by decide +kernel) (by decide +kernel)
theorem lX6_64 : Cond.methodLink RX6 64 yX6_readLine ∈ Wd := zwd 578 (by decide +kernel) (by decide +kernel)
theorem lX6_76 : Cond.methodLink RX6 76 yX6_isWord ∈ Wd := zwd 583 (by decide +kernel) (by decide +kernel)
theorem lX6_126 : Cond.methodLink RX6 126 ⟨"java/lang/String", "length", "()I"⟩ ∈ Wd := zwd 587 (by decide +kernel) (by decide +kernel)
theorem lX6_130 : Cond.methodLink RX6 130 ⟨"java/lang/String", "charAt", "(I)C"⟩ ∈ Wd := zwd 597 (by decide +kernel) (by decide +kernel)
theorem lX6_80 : Cond.methodLink RX6 80 yX6_readNumbers ∈ Wd := zwd 635 (by decide +kernel) (by decide +kernel)
theorem lX6_98 : Cond.methodLink RX6 98 yX6_wholeWithin ∈ Wd := zwd 639 (by decide +kernel) (by decide +kernel)
theorem lX6_70 : Cond.methodLink RX6 70 yX6_stop ∈ Wd := zwd 643 (by decide +kernel) (by decide +kernel)
theorem lX6_102 : Cond.methodLink RX6 102 yX9_append ∈ Wd := zwd 647 (by decide +kernel) (by decide +kernel)
theorem lX6_85 : Cond.methodLink RX6 85 yX6_readHeaps ∈ Wd := zwd 652 (by decide +kernel) (by decide +kernel)
theorem lX6_90 : Cond.methodLink RX6 90 yX6_readKeep ∈ Wd := zwd 657 (by decide +kernel) (by decide +kernel)
theorem lX6_95 : Cond.methodLink RX6 95 yX6_readApart ∈ Wd := zwd 663 (by decide +kernel) (by decide +kernel)
theorem lX6_115 : Cond.methodLink RX6 115 yX9_pairs ∈ Wd := zwd 667 (by decide +kernel) (by decide +kernel)
theorem lX9_45 : Cond.methodLink RX9 45 ⟨"java/lang/Integer", "bitCount", "(I)I"⟩ ∈ Wd := zwd 671 (by decide +kernel) (by decide +kernel)
theorem lX6_119 : Cond.methodLink RX6 119 yX9_areApart ∈ Wd := zwd 677 (by decide +kernel) (by decide +kernel)
theorem lX6_122 : Cond.methodLink RX6 122 yX9_toggleApart ∈ Wd := zwd 681 (by decide +kernel) (by decide +kernel)
theorem lX10_117 : Cond.methodLink RX10 117 yX9_copyFrom ∈ Wd := zwd 685 (by decide +kernel) (by decide +kernel)
theorem lX9_31 : Cond.methodLink RX9 31 ⟨"java/lang/System", "arraycopy", "(Ljava/lang/Object;ILjava/lang/Object;II)V"⟩ ∈ Wd := zwd 689 (by decide +kernel) (by decide +kernel)
theorem lX10_121 : Cond.methodLink RX10 121 yX2_forgetActs ∈ Wd := zwd 692 (by decide +kernel) (by decide +kernel)
theorem lX10_124 : Cond.methodLink RX10 124 yX2_forgetImages ∈ Wd := zwd 696 (by decide +kernel) (by decide +kernel)
theorem lX2_38 : Cond.methodLink RX2 38 yX9_empty ∈ Wd := zwd 700 (by decide +kernel) (by decide +kernel)
theorem lX10_127 : Cond.methodLink RX10 127 yX10_changed ∈ Wd := zwd 701 (by decide +kernel) (by decide +kernel)
theorem lX10_351 : Cond.methodLink RX10 351 yX9_orderBySize ∈ Wd := zwd 705 (by decide +kernel) (by decide +kernel)
theorem lX10_133 : Cond.methodLink RX10 133 yX10_answer ∈ Wd := zwd 709 (by decide +kernel) (by decide +kernel)
theorem lL_28 : Cond.methodLink RL 28 yX10_fault ∈ Wd := zwd 713 (by decide +kernel) (by decide +kernel)
theorem lL_33 : Cond.methodLink RL 33 yX10_where ∈ Wd := zwd 717 (by decide +kernel) (by decide +kernel)
theorem lL_37 : Cond.methodLink RL 37 yX10_about ∈ Wd := zwd 721 (by decide +kernel) (by decide +kernel)
theorem lX10_136 : Cond.methodLink RX10 136 yX10_noText ∈ Wd := zwd 725 (by decide +kernel) (by decide +kernel)
theorem lX10_143 : Cond.methodLink RX10 143 yX9_total ∈ Wd := zwd 729 (by decide +kernel) (by decide +kernel)
theorem lX10_147 : Cond.methodLink RX10 147 yX9_keptCount ∈ Wd := zwd 733 (by decide +kernel) (by decide +kernel)
theorem lX10_150 : Cond.methodLink RX10 150 yX9_pairs ∈ Wd := zwd 737 (by decide +kernel) (by decide +kernel)
theorem lL_41 : Cond.methodLink RL 41 yX10_number ∈ Wd := zwd 738 (by decide +kernel) (by decide +kernel)
theorem lX10_163 : Cond.methodLink RX10 163 yX10_noNumber ∈ Wd := zwd 742 (by decide +kernel) (by decide +kernel)
theorem lX10_166 : Cond.methodLink RX10 166 yX9_placeBySize ∈ Wd := zwd 746 (by decide +kernel) (by decide +kernel)
theorem lL_46 : Cond.methodLink RL 46 yX10_sized ∈ Wd := zwd 750 (by decide +kernel) (by decide +kernel)
theorem lL_50 : Cond.methodLink RL 50 yX10_greedy ∈ Wd := zwd 754 (by decide +kernel) (by decide +kernel)
theorem lX10_175 : Cond.methodLink RX10 175 yX10_notZeroOrOne ∈ Wd := zwd 758 (by decide +kernel) (by decide +kernel)
theorem lX10_178 : Cond.methodLink RX10 178 yX10_noSuchHeaps ∈ Wd := zwd 761 (by decide +kernel) (by decide +kernel)
theorem lX10_181 : Cond.methodLink RX10 181 yX10_refused ∈ Wd := zwd 764 (by decide +kernel) (by decide +kernel)
theorem lX10_185 : Cond.methodLink RX10 185 yX1_fillBySize ∈ Wd := zwd 768 (by decide +kernel) (by decide +kernel)
theorem lX1_45 : Cond.methodLink RX1 45 yX1_leastHeap ∈ Wd := zwd 772 (by decide +kernel) (by decide +kernel)
theorem lX10_189 : Cond.methodLink RX10 189 yX1_spread ∈ Wd := zwd 776 (by decide +kernel) (by decide +kernel)
theorem lX10_256 : Cond.methodLink RX10 256 ⟨"java/lang/Math", "max", "(II)I"⟩ ∈ Wd := zwd 783 (by decide +kernel) (by decide +kernel)
theorem lX10_348 : Cond.methodLink RX10 348 ⟨"java/lang/Math", "min", "(II)I"⟩ ∈ Wd := zwd 789 (by decide +kernel) (by decide +kernel)
theorem lX10_192 : Cond.methodLink RX10 192 yX1_greatest ∈ Wd := zwd 790 (by decide +kernel) (by decide +kernel)
theorem lL_54 : Cond.methodLink RL 54 yX10_greedyOf ∈ Wd := zwd 794 (by decide +kernel) (by decide +kernel)
theorem lL_58 : Cond.methodLink RL 58 yX10_difference ∈ Wd := zwd 798 (by decide +kernel) (by decide +kernel)
theorem lX10_198 : Cond.methodLink RX10 198 yX0_run ∈ Wd := zwd 802 (by decide +kernel) (by decide +kernel)
theorem lX0_25 : Cond.methodLink RX0 25 yX3_takeNumbers ∈ Wd := zwd 806 (by decide +kernel) (by decide +kernel)
theorem lX3_29 : Cond.methodLink RX3 29 yX3_insert ∈ Wd := zwd 810 (by decide +kernel) (by decide +kernel)
theorem lX3_46 : Cond.methodLink RX3 46 yX3_goesAhead ∈ Wd := zwd 817 (by decide +kernel) (by decide +kernel)
theorem lX0_38 : Cond.methodLink RX0 38 yX3_differenceFirstTwo ∈ Wd := zwd 821 (by decide +kernel) (by decide +kernel)
theorem lX3_39 : Cond.methodLink RX3 39 yX3_mergeFirstTwo ∈ Wd := zwd 825 (by decide +kernel) (by decide +kernel)
theorem lX3_33 : Cond.methodLink RX3 33 ⟨"java/lang/System", "arraycopy", "(Ljava/lang/Object;ILjava/lang/Object;II)V"⟩ ∈ Wd := zwd 829 (by decide +kernel) (by decide +kernel)
theorem lL_62 : Cond.methodLink RL 62 yX10_differenceOf ∈ Wd := zwd 830 (by decide +kernel) (by decide +kernel)
theorem lX10_211 : Cond.methodLink RX10 211 yX10_sideOf ∈ Wd := zwd 834 (by decide +kernel) (by decide +kernel)
theorem lL_66 : Cond.methodLink RL 66 yX10_step ∈ Wd := zwd 837 (by decide +kernel) (by decide +kernel)
theorem lL_70 : Cond.methodLink RL 70 yX10_multi ∈ Wd := zwd 841 (by decide +kernel) (by decide +kernel)
theorem lX10_221 : Cond.methodLink RX10 221 yX4_run ∈ Wd := zwd 845 (by decide +kernel) (by decide +kernel)
theorem lX4_41 : Cond.methodLink RX4 41 yX4_firstItemBut ∈ Wd := zwd 849 (by decide +kernel) (by decide +kernel)
theorem lX4_52 : Cond.methodLink RX4 52 yX4_itemGoesAhead ∈ Wd := zwd 853 (by decide +kernel) (by decide +kernel)
theorem lX4_49 : Cond.methodLink RX4 49 yX4_width ∈ Wd := zwd 857 (by decide +kernel) (by decide +kernel)
theorem lX4_56 : Cond.methodLink RX4 56 yX4_allMembers ∈ Wd := zwd 861 (by decide +kernel) (by decide +kernel)
theorem lX4_45 : Cond.methodLink RX4 45 yX4_join ∈ Wd := zwd 866 (by decide +kernel) (by decide +kernel)
theorem lX4_62 : Cond.methodLink RX4 62 yX4_orderParts ∈ Wd := zwd 870 (by decide +kernel) (by decide +kernel)
theorem lX10_223 : Cond.methodLink RX10 223 yX4_lastWidth ∈ Wd := zwd 874 (by decide +kernel) (by decide +kernel)
theorem lL_74 : Cond.methodLink RL 74 yX10_multiOf ∈ Wd := zwd 878 (by decide +kernel) (by decide +kernel)
theorem lX10_226 : Cond.methodLink RX10 226 yX4_heapOf ∈ Wd := zwd 882 (by decide +kernel) (by decide +kernel)
theorem lL_78 : Cond.methodLink RL 78 yX10_search ∈ Wd := zwd 886 (by decide +kernel) (by decide +kernel)
theorem lX10_228 : Cond.methodLink RX10 228 yX7_prepare ∈ Wd := zwd 890 (by decide +kernel) (by decide +kernel)
theorem lX7_51 : Cond.methodLink RX7 51 yX9_total ∈ Wd := zwd 894 (by decide +kernel) (by decide +kernel)
theorem lX7_57 : Cond.methodLink RX7 57 yX3_takeNumbers ∈ Wd := zwd 895 (by decide +kernel) (by decide +kernel)
theorem lX7_61 : Cond.methodLink RX7 61 yX7_visit ∈ Wd := zwd 896 (by decide +kernel) (by decide +kernel)
theorem lX7_65 : Cond.methodLink RX7 65 yX3_firstLessOthers ∈ Wd := zwd 900 (by decide +kernel) (by decide +kernel)
theorem lX7_71 : Cond.methodLink RX7 71 yX7_takeLeaf ∈ Wd := zwd 904 (by decide +kernel) (by decide +kernel)
theorem lX7_89 : Cond.methodLink RX7 89 yX3_leafFirstSide ∈ Wd := zwd 908 (by decide +kernel) (by decide +kernel)
theorem lX7_75 : Cond.methodLink RX7 75 yX7_visitBelow ∈ Wd := zwd 912 (by decide +kernel) (by decide +kernel)
theorem lX7_79 : Cond.methodLink RX7 79 yX3_copyFrom ∈ Wd := zwd 916 (by decide +kernel) (by decide +kernel)
theorem lX7_83 : Cond.methodLink RX7 83 yX3_addFirstTwo ∈ Wd := zwd 920 (by decide +kernel) (by decide +kernel)
theorem lX7_86 : Cond.methodLink RX7 86 yX3_differenceFirstTwo ∈ Wd := zwd 924 (by decide +kernel) (by decide +kernel)
theorem lL_82 : Cond.methodLink RL 82 yX10_find ∈ Wd := zwd 925 (by decide +kernel) (by decide +kernel)
theorem lL_86 : Cond.methodLink RL 86 yX10_searchOf ∈ Wd := zwd 929 (by decide +kernel) (by decide +kernel)
theorem lL_90 : Cond.methodLink RL 90 yX10_bound ∈ Wd := zwd 933 (by decide +kernel) (by decide +kernel)
theorem lL_94 : Cond.methodLink RL 94 yX10_least ∈ Wd := zwd 937 (by decide +kernel) (by decide +kernel)
theorem lX10_261 : Cond.methodLink RX10 261 yX10_allRows ∈ Wd := zwd 941 (by decide +kernel) (by decide +kernel)
theorem lX10_265 : Cond.methodLink RX10 265 yX5_findLeast ∈ Wd := zwd 945 (by decide +kernel) (by decide +kernel)
theorem lX5_54 : Cond.methodLink RX5 54 yX5_begin ∈ Wd := zwd 949 (by decide +kernel) (by decide +kernel)
theorem lX5_58 : Cond.methodLink RX5 58 yX9_total ∈ Wd := zwd 953 (by decide +kernel) (by decide +kernel)
theorem lX5_69 : Cond.methodLink RX5 69 yX5_place ∈ Wd := zwd 954 (by decide +kernel) (by decide +kernel)
theorem lX5_73 : Cond.methodLink RX5 73 yX5_takeRow ∈ Wd := zwd 958 (by decide +kernel) (by decide +kernel)
theorem lX5_110 : Cond.methodLink RX5 110 ⟨"java/lang/Math", "min", "(II)I"⟩ ∈ Wd := zwd 964 (by decide +kernel) (by decide +kernel)
theorem lX5_119 : Cond.methodLink RX5 119 ⟨"java/lang/System", "arraycopy", "(Ljava/lang/Object;ILjava/lang/Object;II)V"⟩ ∈ Wd := zwd 965 (by decide +kernel) (by decide +kernel)
theorem lX5_80 : Cond.methodLink RX5 80 yX5_placeAnywhere ∈ Wd := zwd 966 (by decide +kernel) (by decide +kernel)
theorem lX5_83 : Cond.methodLink RX5 83 yX5_hopeful ∈ Wd := zwd 970 (by decide +kernel) (by decide +kernel)
theorem lX5_116 : Cond.methodLink RX5 116 ⟨"java/lang/Math", "max", "(II)I"⟩ ∈ Wd := zwd 974 (by decide +kernel) (by decide +kernel)
theorem lX5_87 : Cond.methodLink RX5 87 yX5_placeInEach ∈ Wd := zwd 975 (by decide +kernel) (by decide +kernel)
theorem lX5_93 : Cond.methodLink RX5 93 yX5_isNameless ∈ Wd := zwd 979 (by decide +kernel) (by decide +kernel)
theorem lX5_96 : Cond.methodLink RX5 96 yX5_mayLie ∈ Wd := zwd 983 (by decide +kernel) (by decide +kernel)
theorem lX5_100 : Cond.methodLink RX5 100 yX5_namelessHeaps ∈ Wd := zwd 987 (by decide +kernel) (by decide +kernel)
theorem lL_98 : Cond.methodLink RL 98 yX10_leastOf ∈ Wd := zwd 991 (by decide +kernel) (by decide +kernel)
theorem lL_102 : Cond.methodLink RL 102 yX10_flat ∈ Wd := zwd 995 (by decide +kernel) (by decide +kernel)
theorem lL_106 : Cond.methodLink RL 106 yX10_rows ∈ Wd := zwd 999 (by decide +kernel) (by decide +kernel)
theorem lX10_280 : Cond.methodLink RX10 280 yX5_countAllowed ∈ Wd := zwd 1003 (by decide +kernel) (by decide +kernel)
theorem lL_110 : Cond.methodLink RL 110 yX10_climb ∈ Wd := zwd 1007 (by decide +kernel) (by decide +kernel)
theorem lX10_284 : Cond.methodLink RX10 284 yX1_improve ∈ Wd := zwd 1011 (by decide +kernel) (by decide +kernel)
theorem lX1_59 : Cond.methodLink RX1 59 yX1_fillBySize ∈ Wd := zwd 1015 (by decide +kernel) (by decide +kernel)
theorem cX1_63 : Cond.constant RX1 63 (1000000 : Int32) ∈ Wd := zwd 1016 (by decide +kernel) (by decide +kernel)
theorem lX1_64 : Cond.methodLink RX1 64 yX1_spread ∈ Wd := zwd 1017 (by decide +kernel) (by decide +kernel)
theorem lX1_67 : Cond.methodLink RX1 67 yX1_tryMoves ∈ Wd := zwd 1018 (by decide +kernel) (by decide +kernel)
theorem lX1_77 : Cond.methodLink RX1 77 yX1_consider ∈ Wd := zwd 1022 (by decide +kernel) (by decide +kernel)
theorem lX1_81 : Cond.methodLink RX1 81 yX1_shift ∈ Wd := zwd 1026 (by decide +kernel) (by decide +kernel)
theorem lX1_71 : Cond.methodLink RX1 71 yX1_tryExchanges ∈ Wd := zwd 1030 (by decide +kernel) (by decide +kernel)
theorem lX1_74 : Cond.methodLink RX1 74 yX1_makeBest ∈ Wd := zwd 1034 (by decide +kernel) (by decide +kernel)
theorem lL_114 : Cond.methodLink RL 114 yX10_climbOf ∈ Wd := zwd 1038 (by decide +kernel) (by decide +kernel)
theorem lL_118 : Cond.methodLink RL 118 yX10_ways ∈ Wd := zwd 1042 (by decide +kernel) (by decide +kernel)
theorem lX10_290 : Cond.methodLink RX10 290 yX10_noSuchSum ∈ Wd := zwd 1046 (by decide +kernel) (by decide +kernel)
theorem cX10_347 : Cond.constant RX10 347 (99999 : Int32) ∈ Wd := zwd 1049 (by decide +kernel) (by decide +kernel)
theorem lX10_293 : Cond.methodLink RX10 293 yX8_prepare ∈ Wd := zwd 1050 (by decide +kernel) (by decide +kernel)
theorem lX8_33 : Cond.methodLink RX8 33 yX8_mergeWith ∈ Wd := zwd 1054 (by decide +kernel) (by decide +kernel)
theorem lX10_294 : Cond.methodLink RX10 294 yX8_setsWith ∈ Wd := zwd 1058 (by decide +kernel) (by decide +kernel)
theorem lX8_41 : Cond.methodLink RX8 41 yX8_firstFrom ∈ Wd := zwd 1062 (by decide +kernel) (by decide +kernel)
theorem lX8_37 : Cond.methodLink RX8 37 yX8_sumAt ∈ Wd := zwd 1066 (by decide +kernel) (by decide +kernel)
theorem lL_122 : Cond.methodLink RL 122 yX10_chosen ∈ Wd := zwd 1070 (by decide +kernel) (by decide +kernel)
theorem lX10_297 : Cond.methodLink RX10 297 yX8_leastSetWith ∈ Wd := zwd 1074 (by decide +kernel) (by decide +kernel)
theorem lL_126 : Cond.methodLink RL 126 yX10_sums ∈ Wd := zwd 1078 (by decide +kernel) (by decide +kernel)
theorem lX10_300 : Cond.methodLink RX10 300 yX8_unlikeSums ∈ Wd := zwd 1082 (by decide +kernel) (by decide +kernel)
theorem lL_130 : Cond.methodLink RL 130 yX10_nearest ∈ Wd := zwd 1086 (by decide +kernel) (by decide +kernel)
theorem lX10_303 : Cond.methodLink RX10 303 yX8_sumNextTo ∈ Wd := zwd 1090 (by decide +kernel) (by decide +kernel)
theorem lL_134 : Cond.methodLink RL 134 yX10_add ∈ Wd := zwd 1094 (by decide +kernel) (by decide +kernel)
theorem lX10_306 : Cond.methodLink RX10 306 yX10_noSuchValue ∈ Wd := zwd 1098 (by decide +kernel) (by decide +kernel)
theorem lX10_309 : Cond.methodLink RX10 309 yX2_keepAct ∈ Wd := zwd 1101 (by decide +kernel) (by decide +kernel)
theorem lX2_28 : Cond.methodLink RX2 28 yX9_copyFrom ∈ Wd := zwd 1105 (by decide +kernel) (by decide +kernel)
theorem lX2_32 : Cond.methodLink RX2 32 ⟨"java/lang/Math", "min", "(II)I"⟩ ∈ Wd := zwd 1106 (by decide +kernel) (by decide +kernel)
theorem lX10_313 : Cond.methodLink RX10 313 yX9_append ∈ Wd := zwd 1107 (by decide +kernel) (by decide +kernel)
theorem lL_138 : Cond.methodLink RL 138 yX10_drop ∈ Wd := zwd 1108 (by decide +kernel) (by decide +kernel)
theorem lX10_316 : Cond.methodLink RX10 316 yX9_remove ∈ Wd := zwd 1112 (by decide +kernel) (by decide +kernel)
theorem lX9_37 : Cond.methodLink RX9 37 yX9_withoutBit ∈ Wd := zwd 1116 (by decide +kernel) (by decide +kernel)
theorem lL_142 : Cond.methodLink RL 142 yX10_become ∈ Wd := zwd 1119 (by decide +kernel) (by decide +kernel)
theorem lL_146 : Cond.methodLink RL 146 yX10_keepIn ∈ Wd := zwd 1123 (by decide +kernel) (by decide +kernel)
theorem lL_150 : Cond.methodLink RL 150 yX10_apart ∈ Wd := zwd 1127 (by decide +kernel) (by decide +kernel)
theorem lX10_319 : Cond.methodLink RX10 319 yX9_areApart ∈ Wd := zwd 1131 (by decide +kernel) (by decide +kernel)
theorem lX10_323 : Cond.methodLink RX10 323 yX9_toggleApart ∈ Wd := zwd 1132 (by decide +kernel) (by decide +kernel)
theorem lL_154 : Cond.methodLink RL 154 yX10_sort ∈ Wd := zwd 1133 (by decide +kernel) (by decide +kernel)
theorem lX10_327 : Cond.methodLink RX10 327 yX9_layBySize ∈ Wd := zwd 1137 (by decide +kernel) (by decide +kernel)
theorem lX9_41 : Cond.methodLink RX9 41 yX9_areApart ∈ Wd := zwd 1141 (by decide +kernel) (by decide +kernel)
theorem lL_158 : Cond.methodLink RL 158 yX10_heaps ∈ Wd := zwd 1142 (by decide +kernel) (by decide +kernel)
theorem lL_162 : Cond.methodLink RL 162 yX10_undo ∈ Wd := zwd 1146 (by decide +kernel) (by decide +kernel)
theorem lX10_330 : Cond.methodLink RX10 330 yX2_takeBack ∈ Wd := zwd 1150 (by decide +kernel) (by decide +kernel)
theorem lL_166 : Cond.methodLink RL 166 yX10_image ∈ Wd := zwd 1154 (by decide +kernel) (by decide +kernel)
theorem lL_171 : Cond.methodLink RL 171 yX10_back ∈ Wd := zwd 1158 (by decide +kernel) (by decide +kernel)
theorem lL_175 : Cond.methodLink RL 175 yX10_write ∈ Wd := zwd 1162 (by decide +kernel) (by decide +kernel)
theorem lX10_337 : Cond.methodLink RX10 337 yX10_putByte ∈ Wd := zwd 1166 (by decide +kernel) (by decide +kernel)
theorem lX10_340 : Cond.methodLink RX10 340 yX10_putHeap ∈ Wd := zwd 1170 (by decide +kernel) (by decide +kernel)
theorem lX10_354 : Cond.methodLink RX10 354 yX10_putNumber ∈ Wd := zwd 1174 (by decide +kernel) (by decide +kernel)
theorem lL_188 : Cond.methodLink RL 188 yX10_bytes ∈ Wd := zwd 1178 (by decide +kernel) (by decide +kernel)
theorem lL_192 : Cond.methodLink RL 192 yX10_trouble ∈ Wd := zwd 1182 (by decide +kernel) (by decide +kernel)
theorem lL_179 : Cond.methodLink RL 179 yL_octet ∈ Wd := zwd 1186 (by decide +kernel) (by decide +kernel)
theorem cL_13 : Cond.classLink RL 13 "java/util/NoSuchElementException" ∈ Wd := zwd 1189 (by decide +kernel) (by decide +kernel)
theorem lL_7 : Cond.methodLink RL 7 yX10_octet ∈ Wd := zwd 1190 (by decide +kernel) (by decide +kernel)
theorem cX10_344 : Cond.classLink RX10 344 "java/util/NoSuchElementException" ∈ Wd := zwd 1194 (by decide +kernel) (by decide +kernel)
theorem lX10_346 : Cond.methodLink RX10 346 ⟨"java/util/NoSuchElementException", "<init>", "()V"⟩ ∈ Wd := zwd 1233 (by decide +kernel) (by decide +kernel)
theorem cL_16 : Cond.classLink RL 16 "NumberHeapsModel" ∈ Wd := zwd 1255 (by decide +kernel) (by decide +kernel)
theorem iX11 : Cond.instantiable RX11 52 ∈ Wd := zwd 1256 (by decide +kernel) (by decide +kernel)
theorem lL_18 : Cond.methodLink RL 18 yX11_init ∈ Wd := zwd 1257 (by decide +kernel) (by decide +kernel)
theorem lX11_1 : Cond.methodLink RX11 1 ⟨"java/lang/Object", "<init>", "()V"⟩ ∈ Wd := zwd 1260 (by decide +kernel) (by decide +kernel)
theorem fX11_87 : Cond.fieldLink RX11 87 "NumberHeapsModel" "thrown" "I" ∈ Wd := zwd 1261 (by decide +kernel) (by decide +kernel)
theorem fX11_90 : Cond.fieldLink RX11 90 "NumberHeapsModel" "trouble" "I" ∈ Wd := zwd 1262 (by decide +kernel) (by decide +kernel)
theorem fX11_9 : Cond.fieldLink RX11 9 "NumberHeapsModel" "wrongAt" "I" ∈ Wd := zwd 1263 (by decide +kernel) (by decide +kernel)
theorem fX11_13 : Cond.fieldLink RX11 13 "NumberHeapsModel" "tape" "[I" ∈ Wd := zwd 1264 (by decide +kernel) (by decide +kernel)
theorem fX11_97 : Cond.fieldLink RX11 97 "NumberHeapsModel" "taped" "I" ∈ Wd := zwd 1265 (by decide +kernel) (by decide +kernel)
theorem fX11_109 : Cond.fieldLink RX11 109 "NumberHeapsModel" "size" "I" ∈ Wd := zwd 1266 (by decide +kernel) (by decide +kernel)
theorem fX11_116 : Cond.fieldLink RX11 116 "NumberHeapsModel" "spot" "I" ∈ Wd := zwd 1267 (by decide +kernel) (by decide +kernel)
theorem fX11_100 : Cond.fieldLink RX11 100 "NumberHeapsModel" "fault" "I" ∈ Wd := zwd 1268 (by decide +kernel) (by decide +kernel)
theorem fX11_106 : Cond.fieldLink RX11 106 "NumberHeapsModel" "faultAt" "I" ∈ Wd := zwd 1269 (by decide +kernel) (by decide +kernel)
theorem fX11_119 : Cond.fieldLink RX11 119 "NumberHeapsModel" "token" "I" ∈ Wd := zwd 1270 (by decide +kernel) (by decide +kernel)
theorem fX11_103 : Cond.fieldLink RX11 103 "NumberHeapsModel" "at" "I" ∈ Wd := zwd 1271 (by decide +kernel) (by decide +kernel)
theorem fX11_140 : Cond.fieldLink RX11 140 "NumberHeapsModel" "sign" "I" ∈ Wd := zwd 1272 (by decide +kernel) (by decide +kernel)
theorem fX11_137 : Cond.fieldLink RX11 137 "NumberHeapsModel" "told" "I" ∈ Wd := zwd 1273 (by decide +kernel) (by decide +kernel)
theorem fX11_126 : Cond.fieldLink RX11 126 "NumberHeapsModel" "word" "J" ∈ Wd := zwd 1274 (by decide +kernel) (by decide +kernel)
theorem fX11_17 : Cond.fieldLink RX11 17 "NumberHeapsModel" "now" "[I" ∈ Wd := zwd 1275 (by decide +kernel) (by decide +kernel)
theorem fX11_20 : Cond.fieldLink RX11 20 "NumberHeapsModel" "read" "[I" ∈ Wd := zwd 1276 (by decide +kernel) (by decide +kernel)
theorem fX11_23 : Cond.fieldLink RX11 23 "NumberHeapsModel" "past" "[I" ∈ Wd := zwd 1277 (by decide +kernel) (by decide +kernel)
theorem fX11_26 : Cond.fieldLink RX11 26 "NumberHeapsModel" "images" "[I" ∈ Wd := zwd 1278 (by decide +kernel) (by decide +kernel)
theorem fX11_29 : Cond.fieldLink RX11 29 "NumberHeapsModel" "kept" "[Z" ∈ Wd := zwd 1279 (by decide +kernel) (by decide +kernel)
theorem fX11_211 : Cond.fieldLink RX11 211 "NumberHeapsModel" "hasText" "Z" ∈ Wd := zwd 1280 (by decide +kernel) (by decide +kernel)
theorem fX11_187 : Cond.fieldLink RX11 187 "NumberHeapsModel" "hasHeaps" "Z" ∈ Wd := zwd 1281 (by decide +kernel) (by decide +kernel)
theorem fX11_208 : Cond.fieldLink RX11 208 "NumberHeapsModel" "acts" "I" ∈ Wd := zwd 1282 (by decide +kernel) (by decide +kernel)
theorem fX11_33 : Cond.fieldLink RX11 33 "NumberHeapsModel" "row" "[I" ∈ Wd := zwd 1283 (by decide +kernel) (by decide +kernel)
theorem fX11_36 : Cond.fieldLink RX11 36 "NumberHeapsModel" "sum" "[I" ∈ Wd := zwd 1284 (by decide +kernel) (by decide +kernel)
theorem fX11_39 : Cond.fieldLink RX11 39 "NumberHeapsModel" "bestRow" "[I" ∈ Wd := zwd 1285 (by decide +kernel) (by decide +kernel)
theorem fX11_42 : Cond.fieldLink RX11 42 "NumberHeapsModel" "many" "[I" ∈ Wd := zwd 1286 (by decide +kernel) (by decide +kernel)
theorem fX11_45 : Cond.fieldLink RX11 45 "NumberHeapsModel" "worth" "[I" ∈ Wd := zwd 1287 (by decide +kernel) (by decide +kernel)
theorem fX11_48 : Cond.fieldLink RX11 48 "NumberHeapsModel" "first" "[I" ∈ Wd := zwd 1288 (by decide +kernel) (by decide +kernel)
theorem fX11_51 : Cond.fieldLink RX11 51 "NumberHeapsModel" "second" "[I" ∈ Wd := zwd 1289 (by decide +kernel) (by decide +kernel)
theorem fX11_54 : Cond.fieldLink RX11 54 "NumberHeapsModel" "stepA" "[I" ∈ Wd := zwd 1290 (by decide +kernel) (by decide +kernel)
theorem fX11_57 : Cond.fieldLink RX11 57 "NumberHeapsModel" "stepB" "[I" ∈ Wd := zwd 1291 (by decide +kernel) (by decide +kernel)
theorem fX11_60 : Cond.fieldLink RX11 60 "NumberHeapsModel" "findOf" "[I" ∈ Wd := zwd 1292 (by decide +kernel) (by decide +kernel)
theorem fX11_63 : Cond.fieldLink RX11 63 "NumberHeapsModel" "findAt" "[I" ∈ Wd := zwd 1293 (by decide +kernel) (by decide +kernel)
theorem fX11_289 : Cond.fieldLink RX11 289 "NumberHeapsModel" "leastLeaf" "I" ∈ Wd := zwd 1294 (by decide +kernel) (by decide +kernel)
theorem fX11_273 : Cond.fieldLink RX11 273 "NumberHeapsModel" "visited" "I" ∈ Wd := zwd 1295 (by decide +kernel) (by decide +kernel)
theorem fX11_283 : Cond.fieldLink RX11 283 "NumberHeapsModel" "leaves" "I" ∈ Wd := zwd 1296 (by decide +kernel) (by decide +kernel)
theorem fX11_286 : Cond.fieldLink RX11 286 "NumberHeapsModel" "finds" "I" ∈ Wd := zwd 1297 (by decide +kernel) (by decide +kernel)
theorem fX11_292 : Cond.fieldLink RX11 292 "NumberHeapsModel" "foundSide" "I" ∈ Wd := zwd 1298 (by decide +kernel) (by decide +kernel)
theorem fX11_270 : Cond.fieldLink RX11 270 "NumberHeapsModel" "isPerfect" "Z" ∈ Wd := zwd 1299 (by decide +kernel) (by decide +kernel)
theorem fX11_66 : Cond.fieldLink RX11 66 "NumberHeapsModel" "partWorth" "[I" ∈ Wd := zwd 1300 (by decide +kernel) (by decide +kernel)
theorem fX11_69 : Cond.fieldLink RX11 69 "NumberHeapsModel" "partSet" "[I" ∈ Wd := zwd 1301 (by decide +kernel) (by decide +kernel)
theorem fX11_72 : Cond.fieldLink RX11 72 "NumberHeapsModel" "newWorth" "[I" ∈ Wd := zwd 1302 (by decide +kernel) (by decide +kernel)
theorem fX11_75 : Cond.fieldLink RX11 75 "NumberHeapsModel" "newSet" "[I" ∈ Wd := zwd 1303 (by decide +kernel) (by decide +kernel)
theorem fX11_301 : Cond.fieldLink RX11 301 "NumberHeapsModel" "items" "I" ∈ Wd := zwd 1304 (by decide +kernel) (by decide +kernel)
theorem fX11_316 : Cond.fieldLink RX11 316 "NumberHeapsModel" "rowsAllowed" "I" ∈ Wd := zwd 1305 (by decide +kernel) (by decide +kernel)
theorem fX11_322 : Cond.fieldLink RX11 322 "NumberHeapsModel" "leastSpread" "I" ∈ Wd := zwd 1306 (by decide +kernel) (by decide +kernel)
theorem fX11_325 : Cond.fieldLink RX11 325 "NumberHeapsModel" "leastMany" "I" ∈ Wd := zwd 1307 (by decide +kernel) (by decide +kernel)
theorem fX11_319 : Cond.fieldLink RX11 319 "NumberHeapsModel" "leastTop" "I" ∈ Wd := zwd 1308 (by decide +kernel) (by decide +kernel)
theorem fX11_78 : Cond.fieldLink RX11 78 "NumberHeapsModel" "sumOf" "[I" ∈ Wd := zwd 1309 (by decide +kernel) (by decide +kernel)
theorem fX11_81 : Cond.fieldLink RX11 81 "NumberHeapsModel" "other" "[I" ∈ Wd := zwd 1310 (by decide +kernel) (by decide +kernel)
theorem fX11_84 : Cond.fieldLink RX11 84 "NumberHeapsModel" "ink" "[I" ∈ Wd := zwd 1311 (by decide +kernel) (by decide +kernel)
theorem fX11_377 : Cond.fieldLink RX11 377 "NumberHeapsModel" "inked" "I" ∈ Wd := zwd 1312 (by decide +kernel) (by decide +kernel)
theorem lL_185 : Cond.methodLink RL 185 yX11_thrown ∈ Wd := zwd 1418 (by decide +kernel) (by decide +kernel)
theorem lL_23 : Cond.methodLink RL 23 yX11_feed ∈ Wd := zwd 1422 (by decide +kernel) (by decide +kernel)
theorem lL_32 : Cond.methodLink RL 32 yX11_fault ∈ Wd := zwd 1426 (by decide +kernel) (by decide +kernel)
theorem lL_36 : Cond.methodLink RL 36 yX11_where ∈ Wd := zwd 1430 (by decide +kernel) (by decide +kernel)
theorem lL_27 : Cond.methodLink RL 27 yX11_text ∈ Wd := zwd 1434 (by decide +kernel) (by decide +kernel)
theorem lX11_112 : Cond.methodLink RX11 112 yX11_in ∈ Wd := zwd 1438 (by decide +kernel) (by decide +kernel)
theorem lX11_201 : Cond.methodLink RX11 201 yX11_refused ∈ Wd := zwd 1441 (by decide +kernel) (by decide +kernel)
theorem lX11_161 : Cond.methodLink RX11 161 yX11_goOn ∈ Wd := zwd 1445 (by decide +kernel) (by decide +kernel)
theorem lX11_122 : Cond.methodLink RX11 122 yX11_isLetterAt ∈ Wd := zwd 1449 (by decide +kernel) (by decide +kernel)
theorem cX11_130 : Cond.constantLong RX11 130 (32 : Int64) ∈ Wd := zwd 1453 (by decide +kernel) (by decide +kernel)
theorem cX11_132 : Cond.constantLong RX11 132 (97 : Int64) ∈ Wd := zwd 1454 (by decide +kernel) (by decide +kernel)
theorem lX11_134 : Cond.methodLink RX11 134 yX11_isDigitAt ∈ Wd := zwd 1455 (by decide +kernel) (by decide +kernel)
theorem lX11_205 : Cond.methodLink RX11 205 yX11_readLine ∈ Wd := zwd 1459 (by decide +kernel) (by decide +kernel)
theorem lX11_172 : Cond.methodLink RX11 172 yX11_isWord ∈ Wd := zwd 1464 (by decide +kernel) (by decide +kernel)
theorem lX11_153 : Cond.methodLink RX11 153 yX11_wordOf ∈ Wd := zwd 1468 (by decide +kernel) (by decide +kernel)
theorem lX11_143 : Cond.methodLink RX11 143 ⟨"java/lang/String", "length", "()I"⟩ ∈ Wd := zwd 1471 (by decide +kernel) (by decide +kernel)
theorem lX11_149 : Cond.methodLink RX11 149 ⟨"java/lang/String", "charAt", "(I)C"⟩ ∈ Wd := zwd 1472 (by decide +kernel) (by decide +kernel)
theorem lX11_182 : Cond.methodLink RX11 182 yX11_readNumbers ∈ Wd := zwd 1473 (by decide +kernel) (by decide +kernel)
theorem lX11_157 : Cond.methodLink RX11 157 yX11_flaw ∈ Wd := zwd 1477 (by decide +kernel) (by decide +kernel)
theorem lX11_164 : Cond.methodLink RX11 164 yX11_whole ∈ Wd := zwd 1481 (by decide +kernel) (by decide +kernel)
theorem lX11_168 : Cond.methodLink RX11 168 yX11_isSign ∈ Wd := zwd 1485 (by decide +kernel) (by decide +kernel)
theorem lX11_193 : Cond.methodLink RX11 193 yX11_readKeep ∈ Wd := zwd 1491 (by decide +kernel) (by decide +kernel)
theorem lX11_198 : Cond.methodLink RX11 198 yX11_readApart ∈ Wd := zwd 1497 (by decide +kernel) (by decide +kernel)
theorem lX11_176 : Cond.methodLink RX11 176 yX11_pairOf ∈ Wd := zwd 1501 (by decide +kernel) (by decide +kernel)
theorem lX11_214 : Cond.methodLink RX11 214 yX11_good ∈ Wd := zwd 1504 (by decide +kernel) (by decide +kernel)
theorem lL_40 : Cond.methodLink RL 40 yX11_about ∈ Wd := zwd 1508 (by decide +kernel) (by decide +kernel)
theorem lX11_223 : Cond.methodLink RX11 223 yX11_total ∈ Wd := zwd 1512 (by decide +kernel) (by decide +kernel)
theorem lX11_217 : Cond.methodLink RX11 217 yX11_value ∈ Wd := zwd 1516 (by decide +kernel) (by decide +kernel)
theorem lX11_226 : Cond.methodLink RX11 226 yX11_ranked ∈ Wd := zwd 1520 (by decide +kernel) (by decide +kernel)
theorem lX11_220 : Cond.methodLink RX11 220 yX11_rank ∈ Wd := zwd 1524 (by decide +kernel) (by decide +kernel)
theorem lL_45 : Cond.methodLink RL 45 yX11_number ∈ Wd := zwd 1528 (by decide +kernel) (by decide +kernel)
theorem lX11_229 : Cond.methodLink RX11 229 yX11_isNumber ∈ Wd := zwd 1532 (by decide +kernel) (by decide +kernel)
theorem lX11_232 : Cond.methodLink RX11 232 yX11_apartFrom ∈ Wd := zwd 1536 (by decide +kernel) (by decide +kernel)
theorem lL_49 : Cond.methodLink RL 49 yX11_sized ∈ Wd := zwd 1540 (by decide +kernel) (by decide +kernel)
theorem lL_53 : Cond.methodLink RL 53 yX11_greedy ∈ Wd := zwd 1544 (by decide +kernel) (by decide +kernel)
theorem lX11_238 : Cond.methodLink RX11 238 yX11_isK ∈ Wd := zwd 1548 (by decide +kernel) (by decide +kernel)
theorem lX11_241 : Cond.methodLink RX11 241 yX11_fills ∈ Wd := zwd 1551 (by decide +kernel) (by decide +kernel)
theorem lX11_244 : Cond.methodLink RX11 244 yX11_spread ∈ Wd := zwd 1555 (by decide +kernel) (by decide +kernel)
theorem lX11_235 : Cond.methodLink RX11 235 yX11_top ∈ Wd := zwd 1559 (by decide +kernel) (by decide +kernel)
theorem lL_57 : Cond.methodLink RL 57 yX11_greedyOf ∈ Wd := zwd 1563 (by decide +kernel) (by decide +kernel)
theorem lL_61 : Cond.methodLink RL 61 yX11_difference ∈ Wd := zwd 1567 (by decide +kernel) (by decide +kernel)
theorem lX11_264 : Cond.methodLink RX11 264 yX11_differs ∈ Wd := zwd 1571 (by decide +kernel) (by decide +kernel)
theorem lX11_257 : Cond.methodLink RX11 257 yX11_begins ∈ Wd := zwd 1575 (by decide +kernel) (by decide +kernel)
theorem lX11_253 : Cond.methodLink RX11 253 yX11_comes ∈ Wd := zwd 1579 (by decide +kernel) (by decide +kernel)
theorem lX11_250 : Cond.methodLink RX11 250 yX11_isAhead ∈ Wd := zwd 1583 (by decide +kernel) (by decide +kernel)
theorem lX11_247 : Cond.methodLink RX11 247 yX11_lowest ∈ Wd := zwd 1587 (by decide +kernel) (by decide +kernel)
theorem lX11_93 : Cond.methodLink RX11 93 yX11_has ∈ Wd := zwd 1590 (by decide +kernel) (by decide +kernel)
theorem lX11_260 : Cond.methodLink RX11 260 yX11_joins ∈ Wd := zwd 1593 (by decide +kernel) (by decide +kernel)
theorem lL_65 : Cond.methodLink RL 65 yX11_differenceOf ∈ Wd := zwd 1597 (by decide +kernel) (by decide +kernel)
theorem lX11_267 : Cond.methodLink RX11 267 yX11_sideOf ∈ Wd := zwd 1601 (by decide +kernel) (by decide +kernel)
theorem lL_69 : Cond.methodLink RL 69 yX11_step ∈ Wd := zwd 1604 (by decide +kernel) (by decide +kernel)
theorem lL_81 : Cond.methodLink RL 81 yX11_search ∈ Wd := zwd 1608 (by decide +kernel) (by decide +kernel)
theorem lX11_295 : Cond.methodLink RX11 295 yX11_searches ∈ Wd := zwd 1612 (by decide +kernel) (by decide +kernel)
theorem lX11_280 : Cond.methodLink RX11 280 yX11_visits ∈ Wd := zwd 1616 (by decide +kernel) (by decide +kernel)
theorem lX11_276 : Cond.methodLink RX11 276 yX11_leaf ∈ Wd := zwd 1620 (by decide +kernel) (by decide +kernel)
theorem lL_85 : Cond.methodLink RL 85 yX11_find ∈ Wd := zwd 1624 (by decide +kernel) (by decide +kernel)
theorem lL_89 : Cond.methodLink RL 89 yX11_searchOf ∈ Wd := zwd 1628 (by decide +kernel) (by decide +kernel)
theorem lL_73 : Cond.methodLink RL 73 yX11_multi ∈ Wd := zwd 1632 (by decide +kernel) (by decide +kernel)
theorem lX11_313 : Cond.methodLink RX11 313 yX11_multiplies ∈ Wd := zwd 1636 (by decide +kernel) (by decide +kernel)
theorem lX11_310 : Cond.methodLink RX11 310 yX11_places ∈ Wd := zwd 1640 (by decide +kernel) (by decide +kernel)
theorem lX11_298 : Cond.methodLink RX11 298 yX11_isBefore ∈ Wd := zwd 1644 (by decide +kernel) (by decide +kernel)
theorem lX11_304 : Cond.methodLink RX11 304 yX11_width ∈ Wd := zwd 1648 (by decide +kernel) (by decide +kernel)
theorem lX11_307 : Cond.methodLink RX11 307 yX11_setOf ∈ Wd := zwd 1652 (by decide +kernel) (by decide +kernel)
theorem lL_77 : Cond.methodLink RL 77 yX11_multiOf ∈ Wd := zwd 1656 (by decide +kernel) (by decide +kernel)
theorem lL_93 : Cond.methodLink RL 93 yX11_bound ∈ Wd := zwd 1660 (by decide +kernel) (by decide +kernel)
theorem lL_97 : Cond.methodLink RL 97 yX11_least ∈ Wd := zwd 1664 (by decide +kernel) (by decide +kernel)
theorem lX11_334 : Cond.methodLink RX11 334 yX11_areRows ∈ Wd := zwd 1668 (by decide +kernel) (by decide +kernel)
theorem lX11_331 : Cond.methodLink RX11 331 yX11_goes ∈ Wd := zwd 1672 (by decide +kernel) (by decide +kernel)
theorem lX11_328 : Cond.methodLink RX11 328 yX11_mayLie ∈ Wd := zwd 1676 (by decide +kernel) (by decide +kernel)
theorem lL_101 : Cond.methodLink RL 101 yX11_leastOf ∈ Wd := zwd 1680 (by decide +kernel) (by decide +kernel)
theorem lL_105 : Cond.methodLink RL 105 yX11_flat ∈ Wd := zwd 1684 (by decide +kernel) (by decide +kernel)
theorem lL_109 : Cond.methodLink RL 109 yX11_rows ∈ Wd := zwd 1688 (by decide +kernel) (by decide +kernel)
theorem lL_113 : Cond.methodLink RL 113 yX11_climb ∈ Wd := zwd 1692 (by decide +kernel) (by decide +kernel)
theorem lX11_349 : Cond.methodLink RX11 349 yX11_climbsAll ∈ Wd := zwd 1696 (by decide +kernel) (by decide +kernel)
theorem lX11_346 : Cond.methodLink RX11 346 yX11_climbs ∈ Wd := zwd 1700 (by decide +kernel) (by decide +kernel)
theorem lX11_340 : Cond.methodLink RX11 340 yX11_spreadNow ∈ Wd := zwd 1704 (by decide +kernel) (by decide +kernel)
theorem lX11_337 : Cond.methodLink RX11 337 yX11_sums0 ∈ Wd := zwd 1708 (by decide +kernel) (by decide +kernel)
theorem lX11_343 : Cond.methodLink RX11 343 yX11_exchanges ∈ Wd := zwd 1712 (by decide +kernel) (by decide +kernel)
theorem lL_117 : Cond.methodLink RL 117 yX11_climbOf ∈ Wd := zwd 1716 (by decide +kernel) (by decide +kernel)
theorem lL_121 : Cond.methodLink RL 121 yX11_ways ∈ Wd := zwd 1720 (by decide +kernel) (by decide +kernel)
theorem lX11_353 : Cond.methodLink RX11 353 yX11_isSum ∈ Wd := zwd 1724 (by decide +kernel) (by decide +kernel)
theorem cX11_352 : Cond.constant RX11 352 (99999 : Int32) ∈ Wd := zwd 1727 (by decide +kernel) (by decide +kernel)
theorem lX11_356 : Cond.methodLink RX11 356 yX11_laysSums ∈ Wd := zwd 1728 (by decide +kernel) (by decide +kernel)
theorem lL_125 : Cond.methodLink RL 125 yX11_chosen ∈ Wd := zwd 1732 (by decide +kernel) (by decide +kernel)
theorem lX11_359 : Cond.methodLink RX11 359 yX11_bits ∈ Wd := zwd 1736 (by decide +kernel) (by decide +kernel)
theorem lL_129 : Cond.methodLink RL 129 yX11_sums ∈ Wd := zwd 1739 (by decide +kernel) (by decide +kernel)
theorem lX11_362 : Cond.methodLink RX11 362 yX11_isNew ∈ Wd := zwd 1743 (by decide +kernel) (by decide +kernel)
theorem lL_133 : Cond.methodLink RL 133 yX11_nearest ∈ Wd := zwd 1747 (by decide +kernel) (by decide +kernel)
theorem lL_137 : Cond.methodLink RL 137 yX11_add ∈ Wd := zwd 1751 (by decide +kernel) (by decide +kernel)
theorem lX11_365 : Cond.methodLink RX11 365 yX11_remembers ∈ Wd := zwd 1755 (by decide +kernel) (by decide +kernel)
theorem lL_141 : Cond.methodLink RL 141 yX11_drop ∈ Wd := zwd 1759 (by decide +kernel) (by decide +kernel)
theorem lX11_368 : Cond.methodLink RX11 368 yX11_parts ∈ Wd := zwd 1763 (by decide +kernel) (by decide +kernel)
theorem lL_145 : Cond.methodLink RL 145 yX11_become ∈ Wd := zwd 1767 (by decide +kernel) (by decide +kernel)
theorem lX11_371 : Cond.methodLink RX11 371 yX11_changes ∈ Wd := zwd 1771 (by decide +kernel) (by decide +kernel)
theorem lL_149 : Cond.methodLink RL 149 yX11_keepIn ∈ Wd := zwd 1775 (by decide +kernel) (by decide +kernel)
theorem lL_153 : Cond.methodLink RL 153 yX11_apart ∈ Wd := zwd 1779 (by decide +kernel) (by decide +kernel)
theorem lL_157 : Cond.methodLink RL 157 yX11_sort ∈ Wd := zwd 1783 (by decide +kernel) (by decide +kernel)
theorem lL_161 : Cond.methodLink RL 161 yX11_heaps ∈ Wd := zwd 1787 (by decide +kernel) (by decide +kernel)
theorem lL_165 : Cond.methodLink RL 165 yX11_undo ∈ Wd := zwd 1791 (by decide +kernel) (by decide +kernel)
theorem lL_170 : Cond.methodLink RL 170 yX11_image ∈ Wd := zwd 1795 (by decide +kernel) (by decide +kernel)
theorem lX11_374 : Cond.methodLink RX11 374 yX11_granted ∈ Wd := zwd 1799 (by decide +kernel) (by decide +kernel)
theorem lL_174 : Cond.methodLink RL 174 yX11_back ∈ Wd := zwd 1803 (by decide +kernel) (by decide +kernel)
theorem lL_178 : Cond.methodLink RL 178 yX11_write ∈ Wd := zwd 1807 (by decide +kernel) (by decide +kernel)
theorem lX11_380 : Cond.methodLink RX11 380 yX11_writes ∈ Wd := zwd 1811 (by decide +kernel) (by decide +kernel)
theorem lX11_383 : Cond.methodLink RX11 383 yX11_writesNumber ∈ Wd := zwd 1815 (by decide +kernel) (by decide +kernel)
theorem lL_184 : Cond.methodLink RL 184 yX11_octet ∈ Wd := zwd 1819 (by decide +kernel) (by decide +kernel)
theorem lL_191 : Cond.methodLink RL 191 yX11_bytes ∈ Wd := zwd 1823 (by decide +kernel) (by decide +kernel)
theorem lL_195 : Cond.methodLink RL 195 yX11_trouble ∈ Wd := zwd 1827 (by decide +kernel) (by decide +kernel)
theorem a_arrayClass_long : Cond.arrayClass FieldType.long ∈ Wd := zwd 1831 (by decide +kernel) (by decide +kernel)
/-- links between nest mates: they hold of a state, not of the tables alone -/
def zNs : List (String × Nat × MethodName) := [(RX10, 9, yX6_init), (RX6, 17, yX9_init), (RX10, 18, yX9_init), (RX2, 27, yX9_init), (RX10, 36, yX1_init), (RX10, 43, yX0_init), (RX0, 11, yX3_init), (RX7, 50, yX3_init), (RX10, 57, yX4_init), (RX10, 70, yX8_init), (RX1, 52, yX10_greatestAmong), (RX1, 56, yX10_leastAmong), (RX3, 42, yX10_leastMember), (RX4, 59, yX10_leastMember), (RX5, 103, yX10_greatestAmong), (RX5, 107, yX10_leastAmong)]
theorem zNs_tbl : ∀ q ∈ zNs, Cond.methodLinkNest q.1 q.2.1 q.2.2 "NumberHeaps" ∈ lw_tbl := by decide +kernel
theorem nX10_9 : (RX10, 9, yX6_init) ∈ zNs := List.mem_of_getElem? (i := 0) rfl
theorem nX6_17 : (RX6, 17, yX9_init) ∈ zNs := List.mem_of_getElem? (i := 1) rfl
theorem nX10_18 : (RX10, 18, yX9_init) ∈ zNs := List.mem_of_getElem? (i := 2) rfl
theorem nX2_27 : (RX2, 27, yX9_init) ∈ zNs := List.mem_of_getElem? (i := 3) rfl
theorem nX10_36 : (RX10, 36, yX1_init) ∈ zNs := List.mem_of_getElem? (i := 4) rfl
theorem nX10_43 : (RX10, 43, yX0_init) ∈ zNs := List.mem_of_getElem? (i := 5) rfl
theorem nX0_11 : (RX0, 11, yX3_init) ∈ zNs := List.mem_of_getElem? (i := 6) rfl
theorem nX7_50 : (RX7, 50, yX3_init) ∈ zNs := List.mem_of_getElem? (i := 7) rfl
theorem nX10_57 : (RX10, 57, yX4_init) ∈ zNs := List.mem_of_getElem? (i := 8) rfl
theorem nX10_70 : (RX10, 70, yX8_init) ∈ zNs := List.mem_of_getElem? (i := 9) rfl
theorem nX1_52 : (RX1, 52, yX10_greatestAmong) ∈ zNs := List.mem_of_getElem? (i := 10) rfl
theorem nX1_56 : (RX1, 56, yX10_leastAmong) ∈ zNs := List.mem_of_getElem? (i := 11) rfl
theorem nX3_42 : (RX3, 42, yX10_leastMember) ∈ zNs := List.mem_of_getElem? (i := 12) rfl
theorem nX4_59 : (RX4, 59, yX10_leastMember) ∈ zNs := List.mem_of_getElem? (i := 13) rfl
theorem nX5_103 : (RX5, 103, yX10_greatestAmong) ∈ zNs := List.mem_of_getElem? (i := 14) rfl
theorem nX5_107 : (RX5, 107, yX10_leastAmong) ∈ zNs := List.mem_of_getElem? (i := 15) rfl
theorem inW0 : ∀ w ∈ u_ws RX0 TX0 3, w ∈ Wd := fun w h => List.mem_filter.mpr ⟨(by decide +kernel : ∀ w ∈ u_ws RX0 TX0 3, w ∈ lw_tbl) w h, (by decide +kernel : ∀ w ∈ u_ws RX0 TX0 3, goodWord w = true) w h⟩
theorem inW1 : ∀ w ∈ u_ws RX1 TX1 8, w ∈ Wd := fun w h => List.mem_filter.mpr ⟨(by decide +kernel : ∀ w ∈ u_ws RX1 TX1 8, w ∈ lw_tbl) w h, (by decide +kernel : ∀ w ∈ u_ws RX1 TX1 8, goodWord w = true) w h⟩
theorem inW2 : ∀ w ∈ u_ws RX2 TX2 4, w ∈ Wd := fun w h => List.mem_filter.mpr ⟨(by decide +kernel : ∀ w ∈ u_ws RX2 TX2 4, w ∈ lw_tbl) w h, (by decide +kernel : ∀ w ∈ u_ws RX2 TX2 4, goodWord w = true) w h⟩
theorem inW3 : ∀ w ∈ u_ws RX3 TX3 4, w ∈ Wd := fun w h => List.mem_filter.mpr ⟨(by decide +kernel : ∀ w ∈ u_ws RX3 TX3 4, w ∈ lw_tbl) w h, (by decide +kernel : ∀ w ∈ u_ws RX3 TX3 4, goodWord w = true) w h⟩
theorem inW4 : ∀ w ∈ u_ws RX4 TX4 6, w ∈ Wd := fun w h => List.mem_filter.mpr ⟨(by decide +kernel : ∀ w ∈ u_ws RX4 TX4 6, w ∈ lw_tbl) w h, (by decide +kernel : ∀ w ∈ u_ws RX4 TX4 6, goodWord w = true) w h⟩
theorem inW5 : ∀ w ∈ u_ws RX5 TX5 13, w ∈ Wd := fun w h => List.mem_filter.mpr ⟨(by decide +kernel : ∀ w ∈ u_ws RX5 TX5 13, w ∈ lw_tbl) w h, (by decide +kernel : ∀ w ∈ u_ws RX5 TX5 13, goodWord w = true) w h⟩
theorem inW6 : ∀ w ∈ u_ws RX6 TX6 10, w ∈ Wd := fun w h => List.mem_filter.mpr ⟨(by decide +kernel : ∀ w ∈ u_ws RX6 TX6 10, w ∈ lw_tbl) w h, (by decide +kernel : ∀ w ∈ u_ws RX6 TX6 10, goodWord w = true) w h⟩
theorem inW7 : ∀ w ∈ u_ws RX7 TX7 11, w ∈ Wd := fun w h => List.mem_filter.mpr ⟨(by decide +kernel : ∀ w ∈ u_ws RX7 TX7 11, w ∈ lw_tbl) w h, (by decide +kernel : ∀ w ∈ u_ws RX7 TX7 11, goodWord w = true) w h⟩
theorem inW8 : ∀ w ∈ u_ws RX8 TX8 4, w ∈ Wd := fun w h => List.mem_filter.mpr ⟨(by decide +kernel : ∀ w ∈ u_ws RX8 TX8 4, w ∈ lw_tbl) w h, (by decide +kernel : ∀ w ∈ u_ws RX8 TX8 4, goodWord w = true) w h⟩
theorem inW9 : ∀ w ∈ u_ws RX9 TX9 6, w ∈ Wd := fun w h => List.mem_filter.mpr ⟨(by decide +kernel : ∀ w ∈ u_ws RX9 TX9 6, w ∈ lw_tbl) w h, (by decide +kernel : ∀ w ∈ u_ws RX9 TX9 6, goodWord w = true) w h⟩
theorem inW10 : ∀ w ∈ u_ws RX10 TX10 15, w ∈ Wd := fun w h => List.mem_filter.mpr ⟨(by decide +kernel : ∀ w ∈ u_ws RX10 TX10 15, w ∈ lw_tbl) w h, (by decide +kernel : ∀ w ∈ u_ws RX10 TX10 15, goodWord w = true) w h⟩
theorem inW11 : ∀ w ∈ u_ws RX11 TX11 52, w ∈ Wd := fun w h => List.mem_filter.mpr ⟨(by decide +kernel : ∀ w ∈ u_ws RX11 TX11 52, w ∈ lw_tbl) w h, (by decide +kernel : ∀ w ∈ u_ws RX11 TX11 52, goodWord w = true) w h⟩
end
section
/-! THE WORLD OF THE LAW'S RUN AS ONE MEMORY: every cell that the run makes has a place 0, 1, ..; a cell's kind and length by its place are fixed (zSH); its ints, references, longs are functions of place and slot. -/
abbrev zI : Type := Nat → Nat → Int32
abbrev zR : Type := Nat → Nat → Option Nat
abbrev zJ : Type := Nat → Nat → Int64
/-- kinds: 0 int[], 1 byte[], 2 boolean[], 3 long[], 4 State[], 5 ItemRow[], 6 Partings[], 7 int[][]; 20 + c an object of class c -/
def zSHl : List (Nat × Nat) := [(30, 15), (26, 10), (29, 6), (0, 10), (0, 10), (0, 10), (0, 10), (1, 300), (29, 6), (0, 10), (0, 10), (0, 10), (0, 10), (22, 4), (4, 10), (4, 2), (29, 6), (0, 10), (0, 10), (0, 10), (0, 10), (29, 6), (0, 10), (0, 10), (0, 10), (0, 10), (29, 6), (0, 10), (0, 10), (0, 10), (0, 10), (29, 6), (0, 10), (0, 10), (0, 10), (0, 10), (29, 6), (0, 10), (0, 10), (0, 10), (0, 10), (29, 6), (0, 10), (0, 10), (0, 10), (0, 10), (29, 6), (0, 10), (0, 10), (0, 10), (0, 10), (29, 6), (0, 10), (0, 10), (0, 10), (0, 10), (29, 6), (0, 10), (0, 10), (0, 10), (0, 10), (29, 6), (0, 10), (0, 10), (0, 10), (0, 10), (29, 6), (0, 10), (0, 10), (0, 10), (0, 10), (29, 6), (0, 10), (0, 10), (0, 10), (0, 10), (21, 8), (0, 10), (0, 4), (20, 3), (23, 4), (0, 10), (0, 10), (0, 10), (0, 10), (0, 10), (27, 11), (0, 512), (0, 512), (5, 10), (23, 4), (0, 10), (0, 10), (0, 10), (23, 4), (0, 10), (0, 10), (0, 10), (23, 4), (0, 10), (0, 10), (0, 10), (23, 4), (0, 10), (0, 10), (0, 10), (23, 4), (0, 10), (0, 10), (0, 10), (23, 4), (0, 10), (0, 10), (0, 10), (23, 4), (0, 10), (0, 10), (0, 10), (23, 4), (0, 10), (0, 10), (0, 10), (23, 4), (0, 10), (0, 10), (0, 10), (23, 4), (0, 10), (0, 10), (0, 10), (24, 6), (7, 10), (0, 4), (0, 4), (0, 4), (0, 4), (0, 4), (0, 4), (0, 4), (0, 4), (0, 4), (0, 4), (7, 10), (0, 4), (0, 4), (0, 4), (0, 4), (0, 4), (0, 4), (0, 4), (0, 4), (0, 4), (0, 4), (2, 10), (6, 3), (28, 4), (0, 1024), (0, 1024), (1, 64), (25, 13), (0, 10), (0, 10), (0, 4), (0, 4), (25, 13), (0, 10), (0, 10), (0, 4), (0, 4), (25, 13), (0, 10), (0, 10), (0, 4), (0, 4), (31, 52), (0, 300), (0, 35), (0, 35), (0, 350), (0, 70), (2, 2), (0, 10), (0, 4), (0, 10), (0, 12), (0, 120), (0, 120), (0, 120), (0, 10), (0, 10), (0, 600), (0, 600), (0, 40), (0, 40), (0, 4), (0, 4), (0, 1024), (0, 35), (0, 80), (3, 1)]
def zSH (i : Nat) : Nat × Nat := zSHl.getD i (99, 0)
def zSL (n : Nat) : Nat := ((zSHl.take n).map (fun q => q.2)).sum
def zcv (ad : Nat → Nat) : Value → Value
  | .ref i => .ref (ad i)
  | v => v
def zty (ci : Nat) : Nat → FieldType := match ci with
  | 0 => tyX0
  | 1 => tyX1
  | 2 => tyX2
  | 3 => tyX3
  | 4 => tyX4
  | 5 => tyX5
  | 6 => tyX6
  | 7 => tyX7
  | 8 => tyX8
  | 9 => tyX9
  | 10 => tyX10
  | _ => tyX11
def zkf : FieldType → Nat
  | .long => 1
  | .object _ => 2
  | .array _ => 2
  | _ => 0
def zFv (ad : Nat → Nat) (iv : zI) (rv : zR) (lv : zJ) (i k : Nat) (t : Nat) : Value := match t with
  | 0 => .int (iv i k)
  | 1 => .long (lv i k)
  | _ => va_rf ((rv i k).map ad)
def zEk (dA : Nat → ClassId) (ad : Nat → Nat) (iv : zI) (rv : zR) (lv : zJ) (i t n : Nat) : va_E :=
  if t < 3 then .inl (dA t, n, .inl (iv i))
  else if t = 3 then .inl (dA 3, n, .inr (.inl (lv i)))
  else if t < 20 then .inl (dA t, n, .inr (.inr (.inr (.inr (fun j => (rv i j).map ad)))))
  else .inr (t - 20, (List.range n).map (fun k => zFv ad iv rv lv i k (zkf (zty (t - 20) k))))
def zE (dA : Nat → ClassId) (ad : Nat → Nat) (iv : zI) (rv : zR) (lv : zJ) (i : Nat) : va_E := zEk dA ad iv rv lv i (zSH i).1 (zSH i).2
def zW (dA : Nat → ClassId) (ad : Nat → Nat) (n : Nat) (iv : zI) (rv : zR) (lv : zJ) : va_W := (List.range n).map (fun i => (ad i, zE dA ad iv rv lv i))
theorem zW_at {dA : Nat → ClassId} {ad : Nat → Nat} {n : Nat} {iv : zI} {rv : zR} {lv : zJ} {i : Nat} (h : i < n) : (zW dA ad n iv rv lv)[i]? = some (ad i, zE dA ad iv rv lv i) := by
  simp [zW, h]
theorem zW_len {dA : Nat → ClassId} {ad : Nat → Nat} {n : Nat} {iv : zI} {rv : zR} {lv : zJ} : (zW dA ad n iv rv lv).length = n := by
  simp [zW]
theorem zW_lt {dA : Nat → ClassId} {ad : Nat → Nat} {n : Nat} {iv : zI} {rv : zR} {lv : zJ} {i : Nat} {q : Nat × va_E} (h : (zW dA ad n iv rv lv)[i]? = some q) : i < n ∧ q = (ad i, zE dA ad iv rv lv i) := by
  have hi : i < n := by
    have := (List.getElem?_eq_some_iff.mp h).1
    rwa [zW_len] at this
  rw [zW_at hi] at h
  exact ⟨hi, (Option.some.inj h).symm⟩
theorem zW_set {dA : Nat → ClassId} {ad : Nat → Nat} {n : Nat} {iv iv' : zI} {rv rv' : zR} {lv lv' : zJ} {i : Nat} {x : va_E} (hx : zE dA ad iv' rv' lv' i = x) (ho : ∀ j, j ≠ i → zE dA ad iv' rv' lv' j = zE dA ad iv rv lv j) : (zW dA ad n iv rv lv).set i (ad i, x) = zW dA ad n iv' rv' lv' := by
  subst hx
  apply List.ext_getElem?
  intro j
  rw [List.getElem?_set]
  by_cases hij : i = j
  · subst hij
    by_cases hi : i < n
    · simp [zW, hi]
    · simp [zW, hi]
  · rw [if_neg hij]
    by_cases hj : j < n
    · rw [zW_at hj, zW_at hj, ho j (fun e => hij e.symm)]
    · simp [zW, hj]
/-- one slot of one cell becomes x -/
def zu {α : Type} (f : Nat → Nat → α) (o k : Nat) (x : α) : Nat → Nat → α := fun a b => if a = o ∧ b = k then x else f a b
theorem zu_eq {α : Type} {f : Nat → Nat → α} {o k : Nat} {x : α} : zu f o k x o k = x := by simp [zu]
theorem zu_o {α : Type} {f : Nat → Nat → α} {o k a b : Nat} {x : α} (h : a ≠ o) : zu f o k x a b = f a b := by simp [zu, h]
theorem zu_k {α : Type} {f : Nat → Nat → α} {o k a b : Nat} {x : α} (h : b ≠ k) : zu f o k x a b = f a b := by simp [zu, h]
theorem zu_row {α : Type} {f : Nat → Nat → α} {o k a : Nat} {x : α} (h : a ≠ o) : zu f o k x a = f a := by funext b; simp [zu, h]
theorem zu_upd {f : zI} {o k : Nat} {x : Int32} : zu f o k x o = upd (f o) k x := by funext b; simp [zu, upd]
theorem zu_updL {f : zJ} {o k : Nat} {x : Int64} : zu f o k x o = vp_updL (f o) k x := by funext b; simp [zu, vp_updL]
theorem zE_i {dA : Nat → ClassId} {ad : Nat → Nat} {iv iv' : zI} {rv : zR} {lv : zJ} {j : Nat} (h : iv' j = iv j) : zE dA ad iv' rv lv j = zE dA ad iv rv lv j := by
  simp only [zE, zEk, zFv, h]
theorem zE_r {dA : Nat → ClassId} {ad : Nat → Nat} {iv : zI} {rv rv' : zR} {lv : zJ} {j : Nat} (h : rv' j = rv j) : zE dA ad iv rv' lv j = zE dA ad iv rv lv j := by
  simp only [zE, zEk, zFv, h]
theorem zE_l {dA : Nat → ClassId} {ad : Nat → Nat} {iv : zI} {rv : zR} {lv lv' : zJ} {j : Nat} (h : lv' j = lv j) : zE dA ad iv rv lv' j = zE dA ad iv rv lv j := by
  simp only [zE, zEk, zFv, h]
def zAT (t : Nat) : FieldType := match t with
  | 0 => .int
  | 1 => .byte
  | 2 => .boolean
  | 3 => .long
  | 4 => .object RX9
  | 5 => .object RX3
  | 6 => .object RX5
  | _ => .array .int
def zTy (dA : Nat → ClassId) : List (ClassId × FieldType) := [(dA 0, .int), (dA 1, .byte), (dA 2, .boolean), (dA 3, .long), (dA 4, .object RX9), (dA 5, .object RX3), (dA 6, .object RX5), (dA 7, .array .int)]
/-- what a method may write: the cells that were there when it began, and new ones -/
def zA (ad : Nat → Nat) (n sz : Nat) : Nat → Prop := fun q => (∃ i, i < n ∧ q = ad i) ∨ sz ≤ q
/-- new places alone have new addresses -/
def zAg (n n' : Nat) (ad ad' : Nat → Nat) : Prop := ∀ i, i < n ∨ n' ≤ i → ad' i = ad i
theorem zAg.rf {n n' : Nat} {ad : Nat → Nat} : zAg n n' ad ad := fun _ _ => rfl
theorem zAg.same {n : Nat} {ad ad' : Nat → Nat} (h : zAg n n ad ad') : ad' = ad := funext fun i => h i (by omega)
theorem zAg.trans {a b c : Nat} {ad ad1 ad2 : Nat → Nat} (hab : a ≤ b) (hbc : b ≤ c) (h1 : zAg a b ad ad1) (h2 : zAg b c ad1 ad2) : zAg a c ad ad2 := fun i hi => by
  rw [h2 i (by omega), h1 i (by omega)]
/-- the String constants: their places are 1,000,000 and on -/
def zSl : List Nat := [6, 5, 4, 2, 5]
def zSb : List (List Int32) := [[110, 117, 109, 98, 101, 114], [104, 101, 97, 112, 115], [107, 101, 101, 112], [105, 110], [97, 112, 97, 114, 116]]
/-- 'arrayOver' of a state -/
def zAO (t : FieldType) (U : State) : Prop := (Cond.arrayOver t).before #[] U = true
theorem zAO.moved {t : FieldType} {u U : State} (hvm : u.vm.Alike U.vm) (h : zAO t u) : zAO t U := by
  have h1 : va_Nw (.arrayOver t) (u.setVm U.vm) := by
    unfold va_Nw
    rw [Cond.arrayOver_setVmC hvm]
    exact h
  exact h1
def zNp (U : State) : Prop := ∀ q ∈ zNs, va_Nw (.methodLinkNest q.1 q.2.1 q.2.2 "NumberHeaps") U
theorem zNp.same {u U : State} (h : u.vm = U.vm) (hZ : zNp u) : zNp U := fun q hq => (hZ q hq).same rfl h
theorem zNp.warm {s U : State} (hW : s.WarmedH U.vm) (hZ : zNp s) : zNp U := fun q hq => (hZ q hq).warmM hW
/-- what is said of states' tables beside the words -/
def zTb (U : State) : Prop := zNp U ∧ va_AO RX9 U ∧ va_AO RX3 U ∧ va_AO RX5 U ∧ zAO (.array .int) U
theorem zTb.same {u U : State} (h : u.vm = U.vm) (hZ : zTb u) : zTb U := by
  have hvm : u.vm.Alike U.vm := by rw [h]; exact Vm.Alike.refl _
  exact ⟨hZ.1.same h, hZ.2.1.moved hvm, hZ.2.2.1.moved hvm, hZ.2.2.2.1.moved hvm, hZ.2.2.2.2.moved hvm⟩
theorem zTb.warm {s U : State} (hW : s.WarmedH U.vm) (hZ : zTb s) : zTb U := ⟨hZ.1.warm hW, hZ.2.1.moved hW.alike, hZ.2.2.1.moved hW.alike, hZ.2.2.2.1.moved hW.alike, hZ.2.2.2.2.moved hW.alike⟩
def zX (ad adV : Nat → Nat) (A : Nat → Prop) (U : State) (H : Heap) : Prop :=
  vk_S 5 zSl zSb (fun i => ad (1000000 + i)) adV A U H ∧
  (vk_R RX6 74 "number" (ad 1000000) U ∧ vk_R RX6 83 "heaps" (ad 1000001) U ∧ vk_R RX6 88 "keep" (ad 1000002) U ∧ vk_R RX6 113 "in" (ad 1000003) U ∧ vk_R RX6 93 "apart" (ad 1000004) U) ∧
  (vk_R RX11 180 "number" (ad 1000000) U ∧ vk_R RX11 185 "heaps" (ad 1000001) U ∧ vk_R RX11 191 "keep" (ad 1000002) U ∧ vk_R RX11 171 "in" (ad 1000003) U ∧ vk_R RX11 196 "apart" (ad 1000004) U) ∧
  va_Z "java/lang/String" "COMPACT_STRINGS" "Z" (.int 1) A U H ∧ va_Zq "jdk/internal/util/Preconditions" "SIOOBE_FORMATTER" "Ljava/util/function/BiFunction;" A U H ∧ zTb U
theorem zX.same {ad adV : Nat → Nat} {A : Nat → Prop} {u U : State} {H : Heap} (hv : U.vm = u.vm) (h : zX ad adV A u H) : zX ad adV A U H := by
  obtain ⟨h1, ⟨a1, a2, a3, a4, a5⟩, ⟨b1, b2, b3, b4, b5⟩, h4, h5, h6⟩ := h
  have hvm : u.vm.Alike U.vm := by rw [hv]; exact Vm.Alike.refl _
  exact ⟨h1.moved hvm, ⟨a1.same hv, a2.same hv, a3.same hv, a4.same hv, a5.same hv⟩, ⟨b1.same hv, b2.same hv, b3.same hv, b4.same hv, b5.same hv⟩, va_Z.moved hvm h4, va_Zq.moved hvm h5, h6.same hv.symm⟩
theorem zX.warm {ad adV : Nat → Nat} {A : Nat → Prop} {s U : State} {H : Heap} (hW : s.WarmedH U.vm) (h : zX ad adV A s H) : zX ad adV A U H := by
  obtain ⟨h1, ⟨a1, a2, a3, a4, a5⟩, ⟨b1, b2, b3, b4, b5⟩, h4, h5, h6⟩ := h
  exact ⟨h1.moved hW.alike, ⟨a1.warm hW, a2.warm hW, a3.warm hW, a4.warm hW, a5.warm hW⟩, ⟨b1.warm hW, b2.warm hW, b3.warm hW, b4.warm hW, b5.warm hW⟩, va_Z.moved hW.alike h4, va_Zq.moved hW.alike h5, h6.warm hW⟩
theorem zX.kept {ad adV : Nat → Nat} {A : Nat → Prop} {U : State} {H H1 : Heap} (h : zX ad adV A U H) (hq : ∀ a : Nat, a < H.size → ¬ A a → H1[a]? = H[a]?) : zX ad adV A U H1 := by
  obtain ⟨h1, h2, h3, h4, h5, h6⟩ := h
  exact ⟨h1.kept hq, h2, h3, h4.kept hq, h5.kept hq, h6⟩
theorem zX.narrow {ad adV : Nat → Nat} {A B : Nat → Prop} {U : State} {H : Heap} (h : zX ad adV A U H) (hAB : ∀ q, B q → A q) : zX ad adV B U H := by
  obtain ⟨h1, h2, h3, h4, h5, h6⟩ := h
  exact ⟨h1.narrow hAB, h2, h3, h4.narrow hAB, h5.narrow hAB, h6⟩
theorem zX.ad {ad ad' adV : Nat → Nat} {A : Nat → Prop} {U : State} {H : Heap} (h : zX ad adV A U H) (e : ∀ i, 1000000 ≤ i → ad' i = ad i) : zX ad' adV A U H := by
  have e2 : (fun i => ad' (1000000 + i)) = fun i => ad (1000000 + i) := funext fun i => e _ (by omega)
  unfold zX
  rw [e2, e 1000000 (by omega), e 1000001 (by omega), e 1000002 (by omega), e 1000003 (by omega), e 1000004 (by omega)]
  exact h
end
section
/-! THE JUDGEMENT Z: a method M of its own frame, at pc, with these locals, this stack, this memory, comes back with Q. B = (depth left, places at its start, places at its end, further cells left, what else is known of the start). -/
abbrev zB : Type := Nat × Nat × Nat × Nat × ((Nat → Prop) → Launch → State → (Nat → Nat) → Prop)
def zK0 : (Nat → Prop) → Launch → State → (Nat → Nat) → Prop := fun _ _ _ _ => True
abbrev zQ : Type := Option Value → zI → zR → zJ → Prop
def zL (ls : Array Slot) (nL : Nat) (ad : Nat → Nat) (loc : List (Option Value)) : Prop := ls.size = nL ∧ lv_wf ls ∧ ∀ (i : Nat) (v : Value), loc[i]? = some (some v) → ls[i]? = some (.val (zcv ad v))
def zCx (M : zM) (B : zB) (l : Launch) (p : Program) (R : Room) (s : State) (m : MethodId) (args : Array Value) (meth : Method) (c : Code) (D : va_G) (dA : Nat → ClassId) (ad0 adV : Nat → Nat) (xc xs : Nat) : Prop :=
  p.tables.exec = Jvm.exec ∧ c.code = M.2.1 ∧ c.maxLocals = M.2.2.1 ∧ s.vm.findClass M.1.cls = some m.cls ∧ (∀ w ∈ Wd, w.before args s = true) ∧ va_K D vwCl (zTy dA) s ∧ meth.name = M.1.name ∧ (B.1 ≤ R.frames ∧ 64 * B.1 ≤ R.locals) ∧ (B.2.2.1 - B.2.1 + xc + B.2.2.2.1 ≤ R.cells ∧ zSL B.2.2.1 - zSL B.2.1 + xs + 8 * B.2.2.2.1 ≤ R.slots) ∧ zX ad0 adV (zA ad0 B.2.1 s.heap.size) s s.heap ∧ B.2.2.1 ≤ 1000000 ∧ B.2.2.2.2 (zA ad0 B.2.1 s.heap.size) l s ad0
/-- the instruction with which it comes back -/
def zDec (M : zM) (pc : Nat) (r : Option Value) : Prop :=
  (r = none ∧ M.2.2.2 = none ∧ decode M.2.1 pc = .ok (.return_, 1)) ∨
  (∃ (v : Int32) (ty : FieldType), r = some (.int v) ∧ M.2.2.2 = some ty ∧ narrow ty (.int v) = .int v ∧ decode M.2.1 pc = .ok (.ireturn, 1)) ∨
  (∃ v : Int64, r = some (.long v) ∧ M.2.2.2 = some .long ∧ decode M.2.1 pc = .ok (.lreturn, 1)) ∨
  (∃ (a : Nat) (n : String), r = some (.ref a) ∧ M.2.2.2 = some (.object n) ∧ decode M.2.1 pc = .ok (.areturn, 1))
def zRt (M : zM) (B : zB) (l : Launch) (p : Program) (e : Env) (R : Room) (s : State) (m : MethodId) (args : Array Value) (below : List Frame) (meth : Method) (c : Code) (D : va_G) (dA : Nat → ClassId) (ad0 : Nat → Nat) (xc xs : Nat) (Q : zQ) (Qm : State → Prop) : Prop :=
  ∀ (r : Option Value) (iv : zI) (rv : zR) (lv : zJ) (ad : Nat → Nat) (H : Heap) (locs : List Loc) (pc : Nat) (ls : Array Slot), Q r iv rv lv → zDec M pc r → zAg B.2.1 B.2.2.1 ad0 ad → va_P D vwCl (zW dA ad B.2.2.1 iv rv lv) H → va_D (zA ad0 B.2.1 s.heap.size) (zW dA ad B.2.2.1 iv rv lv) → va_S (zA ad0 B.2.1 s.heap.size) s.heap H locs →
    W p l e R s m args below meth c H locs (B.2.2.1 - B.2.1 + xc) (zSL B.2.2.1 - zSL B.2.1 + xs) Qm (F0 m pc ls (r.toList.map (zcv ad)))
def Z (M : zM) (B : zB) (pc : Nat) (loc : List (Option Value)) (st : List Value) (n : Nat) (iv : zI) (rv : zR) (lv : zJ) (Q : zQ) : Prop :=
  ∀ (l : Launch) (p : Program) (e : Env) (R : Room) (s : State) (m : MethodId) (args : Array Value) (below : List Frame) (meth : Method) (c : Code) (D : va_G) (dA : Nat → ClassId) (ad0 adV : Nat → Nat) (xc xs : Nat) (Qm : State → Prop), zCx M B l p R s m args meth c D dA ad0 adV xc xs → zRt M B l p e R s m args below meth c D dA ad0 xc xs Q Qm →
  ∀ (ad : Nat → Nat) (H : Heap) (locs : List Loc) (ls : Array Slot), zAg B.2.1 n ad0 ad → zL ls M.2.2.1 ad loc → va_P D vwCl (zW dA ad n iv rv lv) H → va_D (zA ad0 B.2.1 s.heap.size) (zW dA ad n iv rv lv) → va_S (zA ad0 B.2.1 s.heap.size) s.heap H locs → B.2.1 ≤ n → n ≤ B.2.2.1 →
    W p l e R s m args below meth c H locs (n - B.2.1 + xc) (zSL n - zSL B.2.1 + xs) Qm (F0 m pc ls (st.map (zcv ad)))
/-- a contract: M at these arguments and this memory, depth d, comes back with Q; n1 places then -/
def zws (M : zM) : List Cond := Cond.code M.1 M.2.1 M.2.2.1 M.2.2.2 :: Wd
def zrm (d n n1 : Nat) : Room := { frames := d, cells := n1 - n, slots := zSL n1 - zSL n, locals := 64 * d }
def zIn (D : va_G) (dA : Nat → ClassId) (ad adV : Nat → Nat) (n : Nat) (iv : zI) (rv : zR) (lv : zJ) (sz : Nat) (U : State) : Prop :=
  U.heap.size = sz ∧ va_P D vwCl (zW dA ad n iv rv lv) U.heap ∧ va_K D vwCl (zTy dA) U ∧ va_D (fun _ => True) (zW dA ad n iv rv lv) ∧ zX ad adV (zA ad n sz) U U.heap
def zOut (D : va_G) (dA : Nat → ClassId) (ad : Nat → Nat) (n n1 sz : Nat) (Q : zQ) : Array Value → State → Outcome → State → Prop := fun _ st oc t =>
  (∃ (r : Option Value) (iv : zI) (rv : zR) (lv : zJ) (ad' : Nat → Nat), oc = .returned (r.map (zcv ad')) ∧ Q r iv rv lv ∧ zAg n n1 ad ad' ∧ va_P D vwCl (zW dA ad' n1 iv rv lv) t.heap ∧ va_K D vwCl (zTy dA) t ∧ va_D (zA ad n sz) (zW dA ad' n1 iv rv lv)) ∧ va_F (zA ad n sz) st t
def Mw (M : zM) (d n1 : Nat) (as : List Value) (n : Nat) (iv : zI) (rv : zR) (lv : zJ) (Q : zQ) : Prop :=
  ∀ (l : Launch) (D : va_G) (dA : Nat → ClassId) (ad adV : Nat → Nat) (sz : Nat),
    Met l M.1 (zws M) (zrm d n n1) (va_Pc (as.map (zcv ad)) (zIn D dA ad adV n iv rv lv sz)) (zOut D dA ad n n1 sz Q) (n1 - n) (zSL n1 - zSL n) (zA ad n sz)
theorem zL_args {as : List Value} {nL : Nat} {ad : Nat → Nat} {loc : List (Option Value)} (hcat : ∀ v ∈ as, v.category = 1) (hlen : as.length ≤ nL) (hloc : as.map some ++ List.replicate (nL - as.length) none = loc) :
    zL ((lg_sl (as.map (zcv ad)) ++ List.replicate (nL - (lg_sl (as.map (zcv ad))).length) Slot.unset).toArray) nL ad loc := by
  have hc : ∀ v : Value, (zcv ad v).category = v.category := fun v => by cases v <;> rfl
  have hsl : ∀ vs : List Value, (∀ v ∈ vs, v.category = 1) → lg_sl (vs.map (zcv ad)) = vs.map (fun v => Slot.val (zcv ad v)) := by
    intro vs
    induction vs with
    | nil => intro _; rfl
    | cons v t ih =>
      intro h
      have h1 : (zcv ad v).category ≠ 2 := by rw [hc, h v List.mem_cons_self]; decide
      have h2 := ih (fun w hw => h w (List.mem_cons_of_mem _ hw))
      unfold lg_sl at h2 ⊢
      rw [List.map_cons, List.flatMap_cons, if_neg h1, h2]
      rfl
  have hl2 : (lg_sl (as.map (zcv ad))).length = as.length := by rw [hsl as hcat]; simp
  obtain ⟨a1, a2, -⟩ := lv_entry (as.map (zcv ad)) (n := nL) (by rw [hl2]; exact hlen)
  refine ⟨a1, a2, ?_⟩
  intro i v hi
  rw [hl2, hsl as hcat]
  subst hloc
  by_cases h : i < as.length
  · rw [List.getElem?_append_left (by simpa using h)] at hi
    rw [List.getElem?_toArray, List.getElem?_append_left (by simpa using h)]
    simp only [List.getElem?_map] at hi ⊢
    cases ha : as[i]? with
    | none => rw [ha] at hi; simp at hi
    | some w =>
      rw [ha] at hi
      simp at hi
      subst hi
      rfl
  · rw [List.getElem?_append_right (by simpa using Nat.le_of_not_lt h)] at hi
    rw [List.getElem?_replicate] at hi
    split at hi <;> simp at hi
theorem zK_mv {D : va_G} {dA : Nat → ClassId} {u U : State} (hvm : u.vm.Alike U.vm) (h : va_K D vwCl (zTy dA) u) : va_K D vwCl (zTy dA) U := va_K.moved hvm h
set_option maxHeartbeats 1000000 in
/-- a method's contract out of its walk -/
theorem Mw.of {M : zM} {d n1 : Nat} {as : List Value} {n : Nat} {iv : zI} {rv : zR} {lv : zJ} {Q : zQ} {loc : List (Option Value)} (hp : plainName M.1.cls = true) (hcat : ∀ v ∈ as, v.category = 1) (hlen : as.length ≤ M.2.2.1) (hloc : as.map some ++ List.replicate (M.2.2.1 - as.length) none = loc) (hn : n ≤ n1) (hn1 : n1 ≤ 1000000)
    (hz : Z M (d, n, n1, 0, zK0) 0 loc [] n iv rv lv Q) : Mw M d n1 as n iv rv lv Q := by
  intro l D dA ad adV sz
  refine Met.ofW (cc := M.2.1) (maxL := M.2.2.1) (ret := M.2.2.2) hp rfl ?_
  intro p e s m args below meth c s₁ Bd hml hv
  obtain ⟨rfl, hsz, hP, hK, hD0, hX⟩ := hv
  subst hsz
  have hts := atoms_spec (ws := zws M) Bd.pre
  have hlocks := Bd.notSynchronized
  have hret := Bd.returns
  have hD : va_D (zA ad n s.heap.size) (zW dA ad n iv rv lv) := ⟨hD0.1, fun k q hk => by
    obtain ⟨h1, rfl⟩ := zW_lt hk
    exact Or.inl ⟨k, h1, rfl⟩⟩
  rw [lg_entry_eq]
  have hw := hz l p e (headSpec (zws M) (zrm d n n1)).room s m _ below meth c D dA ad adV 0 0 (MQ below (zOut D dA ad n n1 s.heap.size Q) _ s (n1 - n) (zSL n1 - zSL n) (zA ad n s.heap.size)) ⟨Bd.exec, Bd.bytes, hml, findClass_of_methodNamed Bd.named, fun w h => hts w (List.mem_cons_of_mem _ h), hK, (name_of_methodNamed Bd.named Bd.method).1, ⟨Nat.le_refl _, Nat.le_refl _⟩, ⟨Nat.le_refl _, Nat.le_refl _⟩, hX, hn1, trivial⟩
    (by
      intro r iv' rv' lv' ad' H locs pc ls hq hdec hag hP' hD' hS'
      have hpost : ∀ t : State, t.heap = H → s.WarmedH t.vm → zOut D dA ad n n1 s.heap.size Q (as.map (zcv ad)).toArray s (.returned (r.map (zcv ad'))) t := fun t ht hW => ⟨⟨r, iv', rv', lv', ad', rfl, hq, hag, by rw [ht]; exact hP', zK_mv hW.alike hK, hD'⟩, hS'.F ht⟩
      rcases hdec with ⟨rfl, hr, hd⟩ | ⟨v, ty, rfl, hr, hnw, hd⟩ | ⟨v, rfl, hr, hd⟩ | ⟨a, nm, rfl, hr, hd⟩
      · exact W.vret Bd.exec Bd.bytes (by rw [hret, hr]) hpost hS'.2.2 hd
      · exact W.zret Bd.exec Bd.bytes (by rw [hret, hr]) hnw hpost hS'.2.2 hd
      · exact W.lret Bd.exec Bd.bytes (by rw [hret, hr]) hpost hS'.2.2 hd
      · exact W.aret Bd.exec Bd.bytes (by rw [hret, hr]) (Or.inl ⟨_, rfl⟩) (Or.inr ⟨_, rfl⟩) hpost hS'.2.2 hd)
    ad s.heap [] _ zAg.rf (zL_args hcat hlen hloc) hP hD va_S.rf (Nat.le_refl _) hn
  simpa using hw
end
section
/-! THE ROWS OF Z: an instruction a row, out of the kit's rows. -/
theorem Z.pure {M : zM} {B : zB} {pc pc2 : Nat} {loc : List (Option Value)} {st st2 : List Value} {n : Nat} {iv : zI} {rv : zR} {lv : zJ} {Q : zQ}
    (h : ∀ {p : Program} {l : Launch} {e : Env} {R : Room} {s : State} {m : MethodId} {args : Array Value} {below : List Frame} {meth : Method} {c : Code} {H : Heap} {locs : List Loc} {cells slots : Nat} {Qm : State → Prop} {ls : Array Slot} {ad : Nat → Nat}, p.tables.exec = Jvm.exec → c.code = M.2.1 → zL ls M.2.2.1 ad loc → W p l e R s m args below meth c H locs cells slots Qm (F0 m pc2 ls (st2.map (zcv ad))) → W p l e R s m args below meth c H locs cells slots Qm (F0 m pc ls (st.map (zcv ad))))
    (k : Z M B pc2 loc st2 n iv rv lv Q) : Z M B pc loc st n iv rv lv Q := by
  intro l p e R s m args below meth c D dA ad0 adV xc xs Qm hC hR ad H locs ls h1 h2 h3 h4 h5 h6 h7
  exact h hC.1 hC.2.1 h2 (k l p e R s m args below meth c D dA ad0 adV xc xs Qm hC hR ad H locs ls h1 h2 h3 h4 h5 h6 h7)
def zlk (loc : List (Option Value)) (i : Nat) : Bool := match i with
  | 0 => true
  | j + 1 => match loc[j]? with
    | some (some v) => v.category == 1
    | _ => true
def zlv (ad : Nat → Nat) (loc : List (Option Value)) : List (Nat × Value) := (List.range loc.length).filterMap (fun j => match loc[j]? with
    | some (some v) => some (j, zcv ad v)
    | _ => none)
theorem zlv_mem {ad : Nat → Nat} {loc : List (Option Value)} {q : Nat × Value} (h : q ∈ zlv ad loc) : ∃ v, loc[q.1]? = some (some v) ∧ q.2 = zcv ad v := by
  obtain ⟨j, -, hj⟩ := List.mem_filterMap.mp h
  split at hj
  · next v hv =>
    cases hj
    exact ⟨v, hv, rfl⟩
  · cases hj
theorem zlv_in {ad : Nat → Nat} {loc : List (Option Value)} {j : Nat} {v : Value} (h : loc[j]? = some (some v)) : (j, zcv ad v) ∈ zlv ad loc := by
  refine List.mem_filterMap.mpr ⟨j, List.mem_range.mpr (List.getElem?_eq_some_iff.mp h).1, ?_⟩
  rw [h]
theorem zL.has {ls : Array Slot} {nL : Nat} {ad : Nat → Nat} {loc : List (Option Value)} (h : zL ls nL ad loc) : lv_has ls nL (zlv ad loc) := ⟨h.1, h.2.1, fun q hq => by
  obtain ⟨v, hv, e⟩ := zlv_mem hq
  rw [e]
  exact h.2.2 _ _ hv⟩
theorem zcv_cat (ad : Nat → Nat) (v : Value) : (zcv ad v).category = v.category := by cases v <;> rfl
theorem zL.set1 {ls' : Array Slot} {nL i : Nat} {ad : Nat → Nat} {loc : List (Option Value)} {v w : Value} (hw : w = zcv ad v) (h : lv_has ls' nL ((i, w) :: (zlv ad loc).filter (fun q => !(q.1 == i) && !(q.1 + 1 == i && q.2.category == 2)))) (hok : zlk loc i = true) : zL ls' nL ad (loc.set i (some v)) := by
  refine ⟨h.1, h.2.1, fun j u hj => ?_⟩
  rw [List.getElem?_set] at hj
  by_cases e : i = j
  · subst e
    rw [if_pos rfl] at hj
    split at hj
    · cases hj
      rw [← hw]
      exact h.2.2 _ List.mem_cons_self
    · cases hj
  · rw [if_neg e] at hj
    refine h.2.2 (j, zcv ad u) (List.mem_cons_of_mem _ (List.mem_filter.mpr ⟨zlv_in hj, ?_⟩))
    have e1 : (j == i) = false := by simpa using fun q : j = i => e q.symm
    rw [e1]
    by_cases e2 : j + 1 = i
    · subst e2
      have hu : (u.category == 1) = true := by
        have := hok
        simp only [zlk, hj] at this
        exact this
      have hu2 : u.category = 1 := by simpa using hu
      simp [zcv_cat, hu2]
    · simp [e2]
theorem zL.set2 {ls' : Array Slot} {nL i : Nat} {ad : Nat → Nat} {loc : List (Option Value)} {v w : Value} (hw : w = zcv ad v) (h : lv_has ls' nL ((i, w) :: (zlv ad loc).filter (fun q => !(q.1 == i) && (!(q.1 == i + 1) && !(q.1 + 1 == i && q.2.category == 2))))) (hok : zlk loc i = true) : zL ls' nL ad ((loc.set i (some v)).set (i + 1) none) := by
  refine ⟨h.1, h.2.1, fun j u hj => ?_⟩
  rw [List.getElem?_set] at hj
  by_cases e0 : i + 1 = j
  · rw [if_pos e0] at hj
    split at hj <;> cases hj
  rw [if_neg e0, List.getElem?_set] at hj
  by_cases e : i = j
  · subst e
    rw [if_pos rfl] at hj
    split at hj
    · cases hj
      rw [← hw]
      exact h.2.2 _ List.mem_cons_self
    · cases hj
  · rw [if_neg e] at hj
    refine h.2.2 (j, zcv ad u) (List.mem_cons_of_mem _ (List.mem_filter.mpr ⟨zlv_in hj, ?_⟩))
    have e1 : (j == i) = false := by simpa using fun q : j = i => e q.symm
    have e3 : (j == i + 1) = false := by simpa using fun q : j = i + 1 => e0 q.symm
    rw [e1]
    by_cases e2 : j + 1 = i
    · subst e2
      have hu : (u.category == 1) = true := by
        have := hok
        simp only [zlk, hj] at this
        exact this
      have hu2 : u.category = 1 := by simpa using hu
      simp [zcv_cat, hu2]
      omega
    · simp [e2]
      omega
theorem Z_iconst {M : zM} {B : zB} {pc q : Nat} {loc : List (Option Value)} {rest : List Value} {n : Nat} {iv : zI} {rv : zR} {lv : zJ} {Q : zQ} {a : Int} {v : Int32} (hd : decode M.2.1 pc = .ok (.iconst a, 1)) (hv : Int32.ofInt a = v) (hq : pc + 1 = q) (k : Z M B q loc (.int v :: rest) n iv rv lv Q) : Z M B pc loc rest n iv rv lv Q := by
  subst hq
  exact Z.pure (st := rest) (st2 := .int v :: rest) (fun hx hb _ k => lv_iconst hx hb hd hv k) k
theorem Z_bipush {M : zM} {B : zB} {pc q : Nat} {loc : List (Option Value)} {rest : List Value} {n : Nat} {iv : zI} {rv : zR} {lv : zJ} {Q : zQ} {a : Int} {v : Int32} (hd : decode M.2.1 pc = .ok (.bipush a, 2)) (hv : (Int8.ofInt a).toInt32 = v) (hq : pc + 2 = q) (k : Z M B q loc (.int v :: rest) n iv rv lv Q) : Z M B pc loc rest n iv rv lv Q := by
  subst hq
  exact Z.pure (st := rest) (st2 := .int v :: rest) (fun hx hb _ k => lv_bipush hx hb hd hv k) k
theorem Z_sipush {M : zM} {B : zB} {pc q : Nat} {loc : List (Option Value)} {rest : List Value} {n : Nat} {iv : zI} {rv : zR} {lv : zJ} {Q : zQ} {a : Int} {v : Int32} (hd : decode M.2.1 pc = .ok (.sipush a, 3)) (hv : (Int16.ofInt a).toInt32 = v) (hq : pc + 3 = q) (k : Z M B q loc (.int v :: rest) n iv rv lv Q) : Z M B pc loc rest n iv rv lv Q := by
  subst hq
  exact Z.pure (st := rest) (st2 := .int v :: rest) (fun hx hb _ k => lv_sipush hx hb hd hv k) k
theorem Z_lconst {M : zM} {B : zB} {pc q : Nat} {loc : List (Option Value)} {rest : List Value} {n : Nat} {iv : zI} {rv : zR} {lv : zJ} {Q : zQ} {a : Fin 2} {v : Int64} (hd : decode M.2.1 pc = .ok (.lconst a, 1)) (hv : Int64.ofNat a.val = v) (hq : pc + 1 = q) (k : Z M B q loc (.long v :: rest) n iv rv lv Q) : Z M B pc loc rest n iv rv lv Q := by
  subst hq
  exact Z.pure (st := rest) (st2 := .long v :: rest) (fun hx hb _ k => lv_lconst hx hb hd hv k) k
theorem Z_iload_n {M : zM} {B : zB} {pc q : Nat} {loc : List (Option Value)} {rest : List Value} {n : Nat} {iv : zI} {rv : zR} {lv : zJ} {Q : zQ} {a : Fin 4} {x : Int32} (hd : decode M.2.1 pc = .ok (.iload_n a, 1)) (hl : loc[a.val]? = some (some (.int x))) (hq : pc + 1 = q) (k : Z M B q loc (.int x :: rest) n iv rv lv Q) : Z M B pc loc rest n iv rv lv Q := by
  subst hq
  exact Z.pure (st := rest) (st2 := .int x :: rest) (fun hx hb hz k => lv_iload_n hx hb hd rfl (hz.2.2 _ _ hl) k) k
theorem Z_aload_n {M : zM} {B : zB} {pc q : Nat} {loc : List (Option Value)} {rest : List Value} {n : Nat} {iv : zI} {rv : zR} {lv : zJ} {Q : zQ} {a : Fin 4} {x : Nat} (hd : decode M.2.1 pc = .ok (.aload_n a, 1)) (hl : loc[a.val]? = some (some (.ref x))) (hq : pc + 1 = q) (k : Z M B q loc (.ref x :: rest) n iv rv lv Q) : Z M B pc loc rest n iv rv lv Q := by
  subst hq
  exact Z.pure (st := rest) (st2 := .ref x :: rest) (fun hx hb hz k => lv_aload_n hx hb hd rfl (hz.2.2 _ _ hl) k) k
theorem Z_lload_n {M : zM} {B : zB} {pc q : Nat} {loc : List (Option Value)} {rest : List Value} {n : Nat} {iv : zI} {rv : zR} {lv : zJ} {Q : zQ} {a : Fin 4} {x : Int64} (hd : decode M.2.1 pc = .ok (.lload_n a, 1)) (hl : loc[a.val]? = some (some (.long x))) (hq : pc + 1 = q) (k : Z M B q loc (.long x :: rest) n iv rv lv Q) : Z M B pc loc rest n iv rv lv Q := by
  subst hq
  exact Z.pure (st := rest) (st2 := .long x :: rest) (fun hx hb hz k => lv_lload_n hx hb hd rfl (hz.2.2 _ _ hl) k) k
theorem Z_iload {M : zM} {B : zB} {pc q : Nat} {loc : List (Option Value)} {rest : List Value} {n : Nat} {iv : zI} {rv : zR} {lv : zJ} {Q : zQ} {a : Nat} {x : Int32} (hd : decode M.2.1 pc = .ok (.iload a, 2)) (hl : loc[a]? = some (some (.int x))) (hq : pc + 2 = q) (k : Z M B q loc (.int x :: rest) n iv rv lv Q) : Z M B pc loc rest n iv rv lv Q := by
  subst hq
  exact Z.pure (st := rest) (st2 := .int x :: rest) (fun hx hb hz k => lv_iload hx hb hd (hz.2.2 _ _ hl) k) k
theorem Z_aload {M : zM} {B : zB} {pc q : Nat} {loc : List (Option Value)} {rest : List Value} {n : Nat} {iv : zI} {rv : zR} {lv : zJ} {Q : zQ} {a : Nat} {x : Nat} (hd : decode M.2.1 pc = .ok (.aload a, 2)) (hl : loc[a]? = some (some (.ref x))) (hq : pc + 2 = q) (k : Z M B q loc (.ref x :: rest) n iv rv lv Q) : Z M B pc loc rest n iv rv lv Q := by
  subst hq
  exact Z.pure (st := rest) (st2 := .ref x :: rest) (fun hx hb hz k => lv_aload hx hb hd (hz.2.2 _ _ hl) k) k
theorem Z_istore_n {M : zM} {B : zB} {pc q : Nat} {loc : List (Option Value)} {rest : List Value} {n : Nat} {iv : zI} {rv : zR} {lv : zJ} {Q : zQ} {a : Fin 4} {x : Int32} {loc2 : List (Option Value)} (hd : decode M.2.1 pc = .ok (.istore_n a, 1)) (hi : a.val < M.2.2.1) (hok : zlk loc a.val = true) (hl : loc.set a.val (some (.int x)) = loc2) (hq : pc + 1 = q) (k : Z M B q loc2 rest n iv rv lv Q) : Z M B pc loc (.int x :: rest) n iv rv lv Q := by
  subst hq
  subst hl
  intro l p e R s m args below meth c D dA ad0 adV xc xs Qm hC hR ad H locs ls h1 h2 h3 h4 h5 h6 h7
  exact lv_istore_n hC.1 hC.2.1 hd rfl h2.has hi rfl (fun ls' hl' => k l p e R s m args below meth c D dA ad0 adV xc xs Qm hC hR ad H locs ls' h1 (zL.set1 (v := .int x) rfl hl' hok) h3 h4 h5 h6 h7)
theorem Z_istore {M : zM} {B : zB} {pc q : Nat} {loc : List (Option Value)} {rest : List Value} {n : Nat} {iv : zI} {rv : zR} {lv : zJ} {Q : zQ} {a : Nat} {x : Int32} {loc2 : List (Option Value)} (hd : decode M.2.1 pc = .ok (.istore a, 2)) (hi : a < M.2.2.1) (hok : zlk loc a = true) (hl : loc.set a (some (.int x)) = loc2) (hq : pc + 2 = q) (k : Z M B q loc2 rest n iv rv lv Q) : Z M B pc loc (.int x :: rest) n iv rv lv Q := by
  subst hq
  subst hl
  intro l p e R s m args below meth c D dA ad0 adV xc xs Qm hC hR ad H locs ls h1 h2 h3 h4 h5 h6 h7
  exact lv_istore hC.1 hC.2.1 hd h2.has hi rfl (fun ls' hl' => k l p e R s m args below meth c D dA ad0 adV xc xs Qm hC hR ad H locs ls' h1 (zL.set1 (v := .int x) rfl hl' hok) h3 h4 h5 h6 h7)
theorem Z_astore_n {M : zM} {B : zB} {pc q : Nat} {loc : List (Option Value)} {rest : List Value} {n : Nat} {iv : zI} {rv : zR} {lv : zJ} {Q : zQ} {a : Fin 4} {x : Nat} {loc2 : List (Option Value)} (hd : decode M.2.1 pc = .ok (.astore_n a, 1)) (hi : a.val < M.2.2.1) (hok : zlk loc a.val = true) (hl : loc.set a.val (some (.ref x)) = loc2) (hq : pc + 1 = q) (k : Z M B q loc2 rest n iv rv lv Q) : Z M B pc loc (.ref x :: rest) n iv rv lv Q := by
  subst hq
  subst hl
  intro l p e R s m args below meth c D dA ad0 adV xc xs Qm hC hR ad H locs ls h1 h2 h3 h4 h5 h6 h7
  exact lv_astore_n hC.1 hC.2.1 hd rfl h2.has hi rfl (fun ls' hl' => k l p e R s m args below meth c D dA ad0 adV xc xs Qm hC hR ad H locs ls' h1 (zL.set1 (v := .ref x) rfl hl' hok) h3 h4 h5 h6 h7)
theorem Z_astore {M : zM} {B : zB} {pc q : Nat} {loc : List (Option Value)} {rest : List Value} {n : Nat} {iv : zI} {rv : zR} {lv : zJ} {Q : zQ} {a : Nat} {x : Nat} {loc2 : List (Option Value)} (hd : decode M.2.1 pc = .ok (.astore a, 2)) (hi : a < M.2.2.1) (hok : zlk loc a = true) (hl : loc.set a (some (.ref x)) = loc2) (hq : pc + 2 = q) (k : Z M B q loc2 rest n iv rv lv Q) : Z M B pc loc (.ref x :: rest) n iv rv lv Q := by
  subst hq
  subst hl
  intro l p e R s m args below meth c D dA ad0 adV xc xs Qm hC hR ad H locs ls h1 h2 h3 h4 h5 h6 h7
  exact lv_astore hC.1 hC.2.1 hd h2.has hi rfl (fun ls' hl' => k l p e R s m args below meth c D dA ad0 adV xc xs Qm hC hR ad H locs ls' h1 (zL.set1 (v := .ref x) rfl hl' hok) h3 h4 h5 h6 h7)
theorem Z_lstore_n {M : zM} {B : zB} {pc q : Nat} {loc : List (Option Value)} {rest : List Value} {n : Nat} {iv : zI} {rv : zR} {lv : zJ} {Q : zQ} {a : Fin 4} {x : Int64} {loc2 : List (Option Value)} (hd : decode M.2.1 pc = .ok (.lstore_n a, 1)) (hi : a.val + 1 < M.2.2.1) (hok : zlk loc a.val = true) (hl : (loc.set a.val (some (.long x))).set (a.val + 1) none = loc2) (hq : pc + 1 = q) (k : Z M B q loc2 rest n iv rv lv Q) : Z M B pc loc (.long x :: rest) n iv rv lv Q := by
  subst hq
  subst hl
  intro l p e R s m args below meth c D dA ad0 adV xc xs Qm hC hR ad H locs ls h1 h2 h3 h4 h5 h6 h7
  exact lv_lstore_n hC.1 hC.2.1 hd rfl h2.has hi rfl (fun ls' hl' => k l p e R s m args below meth c D dA ad0 adV xc xs Qm hC hR ad H locs ls' h1 (zL.set2 (v := .long x) rfl hl' hok) h3 h4 h5 h6 h7)
theorem Z_iinc {M : zM} {B : zB} {pc q : Nat} {loc : List (Option Value)} {rest : List Value} {n : Nat} {iv : zI} {rv : zR} {lv : zJ} {Q : zQ} {a : Nat} {b : Int} {x v : Int32} {loc2 : List (Option Value)} (hd : decode M.2.1 pc = .ok (.iinc a b, 3)) (hx : loc[a]? = some (some (.int x))) (hv : x + Int32.ofInt b = v) (hi : a < M.2.2.1) (hok : zlk loc a = true) (hl : loc.set a (some (.int v)) = loc2) (hq : pc + 3 = q) (k : Z M B q loc2 rest n iv rv lv Q) : Z M B pc loc rest n iv rv lv Q := by
  subst hq
  subst hl
  intro l p e R s m args below meth c D dA ad0 adV xc xs Qm hC hR ad H locs ls h1 h2 h3 h4 h5 h6 h7
  obtain ⟨k0, hk0⟩ := List.getElem?_of_mem (zlv_in (ad := ad) hx)
  exact lv_iinc hC.1 hC.2.1 hd h2.has hk0 hv hi rfl (fun ls' hl' => k l p e R s m args below meth c D dA ad0 adV xc xs Qm hC hR ad H locs ls' h1 (zL.set1 (v := .int v) rfl hl' hok) h3 h4 h5 h6 h7)
theorem Z_iadd {M : zM} {B : zB} {pc q : Nat} {loc : List (Option Value)} {rest : List Value} {n : Nat} {iv : zI} {rv : zR} {lv : zJ} {Q : zQ} {x y : Int32} (hd : decode M.2.1 pc = .ok (.iadd, 1)) (hq : pc + 1 = q) (k : Z M B q loc (.int (x + y) :: rest) n iv rv lv Q) : Z M B pc loc (.int y :: .int x :: rest) n iv rv lv Q := by
  subst hq
  exact Z.pure (fun hx hb _ k => lv_iadd hx hb hd k) k
theorem Z_isub {M : zM} {B : zB} {pc q : Nat} {loc : List (Option Value)} {rest : List Value} {n : Nat} {iv : zI} {rv : zR} {lv : zJ} {Q : zQ} {x y : Int32} (hd : decode M.2.1 pc = .ok (.isub, 1)) (hq : pc + 1 = q) (k : Z M B q loc (.int (x - y) :: rest) n iv rv lv Q) : Z M B pc loc (.int y :: .int x :: rest) n iv rv lv Q := by
  subst hq
  exact Z.pure (fun hx hb _ k => lv_isub hx hb hd k) k
theorem Z_imul {M : zM} {B : zB} {pc q : Nat} {loc : List (Option Value)} {rest : List Value} {n : Nat} {iv : zI} {rv : zR} {lv : zJ} {Q : zQ} {x y : Int32} (hd : decode M.2.1 pc = .ok (.imul, 1)) (hq : pc + 1 = q) (k : Z M B q loc (.int (x * y) :: rest) n iv rv lv Q) : Z M B pc loc (.int y :: .int x :: rest) n iv rv lv Q := by
  subst hq
  exact Z.pure (fun hx hb _ k => lv_imul hx hb hd k) k
theorem Z_iand {M : zM} {B : zB} {pc q : Nat} {loc : List (Option Value)} {rest : List Value} {n : Nat} {iv : zI} {rv : zR} {lv : zJ} {Q : zQ} {x y : Int32} (hd : decode M.2.1 pc = .ok (.iand, 1)) (hq : pc + 1 = q) (k : Z M B q loc (.int (x &&& y) :: rest) n iv rv lv Q) : Z M B pc loc (.int y :: .int x :: rest) n iv rv lv Q := by
  subst hq
  exact Z.pure (fun hx hb _ k => lv_iand hx hb hd k) k
theorem Z_ior {M : zM} {B : zB} {pc q : Nat} {loc : List (Option Value)} {rest : List Value} {n : Nat} {iv : zI} {rv : zR} {lv : zJ} {Q : zQ} {x y : Int32} (hd : decode M.2.1 pc = .ok (.ior, 1)) (hq : pc + 1 = q) (k : Z M B q loc (.int (x ||| y) :: rest) n iv rv lv Q) : Z M B pc loc (.int y :: .int x :: rest) n iv rv lv Q := by
  subst hq
  exact Z.pure (fun hx hb _ k => lv_ior hx hb hd k) k
theorem Z_ixor {M : zM} {B : zB} {pc q : Nat} {loc : List (Option Value)} {rest : List Value} {n : Nat} {iv : zI} {rv : zR} {lv : zJ} {Q : zQ} {x y : Int32} (hd : decode M.2.1 pc = .ok (.ixor, 1)) (hq : pc + 1 = q) (k : Z M B q loc (.int (x ^^^ y) :: rest) n iv rv lv Q) : Z M B pc loc (.int y :: .int x :: rest) n iv rv lv Q := by
  subst hq
  exact Z.pure (fun hx hb _ k => lv_ixor hx hb hd k) k
theorem Z_ishl {M : zM} {B : zB} {pc q : Nat} {loc : List (Option Value)} {rest : List Value} {n : Nat} {iv : zI} {rv : zR} {lv : zJ} {Q : zQ} {x y : Int32} (hd : decode M.2.1 pc = .ok (.ishl, 1)) (hq : pc + 1 = q) (k : Z M B q loc (.int (x <<< (y &&& 31)) :: rest) n iv rv lv Q) : Z M B pc loc (.int y :: .int x :: rest) n iv rv lv Q := by
  subst hq
  exact Z.pure (fun hx hb _ k => lv_ishl hx hb hd k) k
theorem Z_ishr {M : zM} {B : zB} {pc q : Nat} {loc : List (Option Value)} {rest : List Value} {n : Nat} {iv : zI} {rv : zR} {lv : zJ} {Q : zQ} {x y : Int32} (hd : decode M.2.1 pc = .ok (.ishr, 1)) (hq : pc + 1 = q) (k : Z M B q loc (.int (x >>> (y &&& 31)) :: rest) n iv rv lv Q) : Z M B pc loc (.int y :: .int x :: rest) n iv rv lv Q := by
  subst hq
  exact Z.pure (fun hx hb _ k => lv_ishr hx hb hd k) k
theorem Z_idiv {M : zM} {B : zB} {pc q : Nat} {loc : List (Option Value)} {rest : List Value} {n : Nat} {iv : zI} {rv : zR} {lv : zJ} {Q : zQ} {x y : Int32} (hd : decode M.2.1 pc = .ok (.idiv, 1)) (hne : ¬ y = 0) (hq : pc + 1 = q) (k : Z M B q loc (.int (x / y) :: rest) n iv rv lv Q) : Z M B pc loc (.int y :: .int x :: rest) n iv rv lv Q := by
  subst hq
  exact Z.pure (fun hx hb _ k => lv_idiv hx hb hd hne k) k
theorem Z_irem {M : zM} {B : zB} {pc q : Nat} {loc : List (Option Value)} {rest : List Value} {n : Nat} {iv : zI} {rv : zR} {lv : zJ} {Q : zQ} {x y : Int32} (hd : decode M.2.1 pc = .ok (.irem, 1)) (hne : ¬ y = 0) (hq : pc + 1 = q) (k : Z M B q loc (.int (x - x / y * y) :: rest) n iv rv lv Q) : Z M B pc loc (.int y :: .int x :: rest) n iv rv lv Q := by
  subst hq
  exact Z.pure (fun hx hb _ k => lv_irem hx hb hd hne k) k
theorem Z_ladd {M : zM} {B : zB} {pc q : Nat} {loc : List (Option Value)} {rest : List Value} {n : Nat} {iv : zI} {rv : zR} {lv : zJ} {Q : zQ} {x y : Int64} (hd : decode M.2.1 pc = .ok (.ladd, 1)) (hq : pc + 1 = q) (k : Z M B q loc (.long (x + y) :: rest) n iv rv lv Q) : Z M B pc loc (.long y :: .long x :: rest) n iv rv lv Q := by
  subst hq
  exact Z.pure (fun hx hb _ k => lv_ladd hx hb hd k) k
theorem Z_lsub {M : zM} {B : zB} {pc q : Nat} {loc : List (Option Value)} {rest : List Value} {n : Nat} {iv : zI} {rv : zR} {lv : zJ} {Q : zQ} {x y : Int64} (hd : decode M.2.1 pc = .ok (.lsub, 1)) (hq : pc + 1 = q) (k : Z M B q loc (.long (x - y) :: rest) n iv rv lv Q) : Z M B pc loc (.long y :: .long x :: rest) n iv rv lv Q := by
  subst hq
  exact Z.pure (fun hx hb _ k => lv_lsub hx hb hd k) k
theorem Z_lmul {M : zM} {B : zB} {pc q : Nat} {loc : List (Option Value)} {rest : List Value} {n : Nat} {iv : zI} {rv : zR} {lv : zJ} {Q : zQ} {x y : Int64} (hd : decode M.2.1 pc = .ok (.lmul, 1)) (hq : pc + 1 = q) (k : Z M B q loc (.long (x * y) :: rest) n iv rv lv Q) : Z M B pc loc (.long y :: .long x :: rest) n iv rv lv Q := by
  subst hq
  exact Z.pure (fun hx hb _ k => lv_lmul hx hb hd k) k
theorem Z_ineg {M : zM} {B : zB} {pc q : Nat} {loc : List (Option Value)} {rest : List Value} {n : Nat} {iv : zI} {rv : zR} {lv : zJ} {Q : zQ} {x : Int32} (hd : decode M.2.1 pc = .ok (.ineg, 1)) (hq : pc + 1 = q) (k : Z M B q loc (.int (-x) :: rest) n iv rv lv Q) : Z M B pc loc (.int x :: rest) n iv rv lv Q := by
  subst hq
  exact Z.pure (fun hx hb _ k => lv_ineg hx hb hd k) k
theorem Z_i2l {M : zM} {B : zB} {pc q : Nat} {loc : List (Option Value)} {rest : List Value} {n : Nat} {iv : zI} {rv : zR} {lv : zJ} {Q : zQ} {x : Int32} (hd : decode M.2.1 pc = .ok (.i2l, 1)) (hq : pc + 1 = q) (k : Z M B q loc (.long x.toInt64 :: rest) n iv rv lv Q) : Z M B pc loc (.int x :: rest) n iv rv lv Q := by
  subst hq
  exact Z.pure (fun hx hb _ k => lv_i2l hx hb hd rfl k) k
theorem Z_i2b {M : zM} {B : zB} {pc q : Nat} {loc : List (Option Value)} {rest : List Value} {n : Nat} {iv : zI} {rv : zR} {lv : zJ} {Q : zQ} {x : Int32} (hd : decode M.2.1 pc = .ok (.i2b, 1)) (hq : pc + 1 = q) (k : Z M B q loc (.int x.toInt8.toInt32 :: rest) n iv rv lv Q) : Z M B pc loc (.int x :: rest) n iv rv lv Q := by
  subst hq
  exact Z.pure (fun hx hb _ k => lv_i2b hx hb hd rfl k) k
theorem Z_dup {M : zM} {B : zB} {pc q : Nat} {loc : List (Option Value)} {rest : List Value} {n : Nat} {iv : zI} {rv : zR} {lv : zJ} {Q : zQ} {v : Value} (hd : decode M.2.1 pc = .ok (.dup, 1)) (hv : v.category = 1) (hq : pc + 1 = q) (k : Z M B q loc (v :: v :: rest) n iv rv lv Q) : Z M B pc loc (v :: rest) n iv rv lv Q := by
  subst hq
  exact Z.pure (st := v :: rest) (st2 := v :: v :: rest) (fun {p l e R s m args below meth c H locs cells slots Qm ls ad} hx hb _ k => lv_dup hx hb hd ((zcv_cat ad v).trans hv) k) k
theorem Z_pop {M : zM} {B : zB} {pc q : Nat} {loc : List (Option Value)} {rest : List Value} {n : Nat} {iv : zI} {rv : zR} {lv : zJ} {Q : zQ} {v : Value} (hd : decode M.2.1 pc = .ok (.pop, 1)) (hv : v.category = 1) (hq : pc + 1 = q) (k : Z M B q loc rest n iv rv lv Q) : Z M B pc loc (v :: rest) n iv rv lv Q := by
  subst hq
  exact Z.pure (st := v :: rest) (st2 := rest) (fun {p l e R s m args below meth c H locs cells slots Qm ls ad} hx hb _ k => lv_pop hx hb hd ((zcv_cat ad v).trans hv) k) k
theorem Z_dup2 {M : zM} {B : zB} {pc q : Nat} {loc : List (Option Value)} {rest : List Value} {n : Nat} {iv : zI} {rv : zR} {lv : zJ} {Q : zQ} {v w : Value} (hd : decode M.2.1 pc = .ok (.dup2, 1)) (hv : v.category = 1) (hw : w.category = 1) (hq : pc + 1 = q) (k : Z M B q loc (v :: w :: v :: w :: rest) n iv rv lv Q) : Z M B pc loc (v :: w :: rest) n iv rv lv Q := by
  subst hq
  exact Z.pure (st := v :: w :: rest) (st2 := v :: w :: v :: w :: rest) (fun {p l e R s m args below meth c H locs cells slots Qm ls ad} hx hb _ k => lv_dup2_11 hx hb hd ((zcv_cat ad v).trans hv) ((zcv_cat ad w).trans hw) k) k
theorem Z_goto {M : zM} {B : zB} {pc q : Nat} {loc : List (Option Value)} {rest : List Value} {n : Nat} {iv : zI} {rv : zR} {lv : zJ} {Q : zQ} {off : Int} (hd : decode M.2.1 pc = .ok (.goto off, 3)) (ht : (pc : Int) + off = (q : Int)) (k : Z M B q loc rest n iv rv lv Q) : Z M B pc loc rest n iv rv lv Q := by
  exact Z.pure (fun hx hb _ k => lv_goto hx hb hd ht k) k
theorem Z_lcmp {M : zM} {B : zB} {pc q : Nat} {loc : List (Option Value)} {rest : List Value} {n : Nat} {iv : zI} {rv : zR} {lv : zJ} {Q : zQ} {x y : Int64} (hd : decode M.2.1 pc = .ok (.lcmp, 1)) (hq : pc + 1 = q) (k : Z M B q loc (.int (lg_cmp x y) :: rest) n iv rv lv Q) : Z M B pc loc (.long y :: .long x :: rest) n iv rv lv Q := by
  subst hq
  exact Z.pure (fun hx hb _ k => W.lcmp hx hb hd k) k
theorem Z_if_eq {M : zM} {B : zB} {pc q : Nat} {loc : List (Option Value)} {rest : List Value} {n : Nat} {iv : zI} {rv : zR} {lv : zJ} {Q : zQ} {t : Nat} {off : Int} {x : Int32} (hd : decode M.2.1 pc = .ok (.ifCond .eq off, 3)) (ht : (pc : Int) + off = (t : Int)) (hq : pc + 3 = q) (kt : x = 0 → Z M B t loc rest n iv rv lv Q) (kf : ¬ x = 0 → Z M B q loc rest n iv rv lv Q) : Z M B pc loc (.int x :: rest) n iv rv lv Q := by
  subst hq
  intro l p e R s m args below meth c D dA ad0 adV xc xs Qm hC hR ad H locs ls h1 h2 h3 h4 h5 h6 h7
  exact lv_if_eq hC.1 hC.2.1 hd ht (fun h => kt h l p e R s m args below meth c D dA ad0 adV xc xs Qm hC hR ad H locs ls h1 h2 h3 h4 h5 h6 h7) (fun h => kf h l p e R s m args below meth c D dA ad0 adV xc xs Qm hC hR ad H locs ls h1 h2 h3 h4 h5 h6 h7)
theorem Z_if_ne {M : zM} {B : zB} {pc q : Nat} {loc : List (Option Value)} {rest : List Value} {n : Nat} {iv : zI} {rv : zR} {lv : zJ} {Q : zQ} {t : Nat} {off : Int} {x : Int32} (hd : decode M.2.1 pc = .ok (.ifCond .ne off, 3)) (ht : (pc : Int) + off = (t : Int)) (hq : pc + 3 = q) (kt : ¬ x = 0 → Z M B t loc rest n iv rv lv Q) (kf : x = 0 → Z M B q loc rest n iv rv lv Q) : Z M B pc loc (.int x :: rest) n iv rv lv Q := by
  subst hq
  intro l p e R s m args below meth c D dA ad0 adV xc xs Qm hC hR ad H locs ls h1 h2 h3 h4 h5 h6 h7
  exact lv_if_ne hC.1 hC.2.1 hd ht (fun h => kt h l p e R s m args below meth c D dA ad0 adV xc xs Qm hC hR ad H locs ls h1 h2 h3 h4 h5 h6 h7) (fun h => kf h l p e R s m args below meth c D dA ad0 adV xc xs Qm hC hR ad H locs ls h1 h2 h3 h4 h5 h6 h7)
theorem Z_if_lt {M : zM} {B : zB} {pc q : Nat} {loc : List (Option Value)} {rest : List Value} {n : Nat} {iv : zI} {rv : zR} {lv : zJ} {Q : zQ} {t : Nat} {off : Int} {x : Int32} (hd : decode M.2.1 pc = .ok (.ifCond .lt off, 3)) (ht : (pc : Int) + off = (t : Int)) (hq : pc + 3 = q) (kt : x < 0 → Z M B t loc rest n iv rv lv Q) (kf : ¬ x < 0 → Z M B q loc rest n iv rv lv Q) : Z M B pc loc (.int x :: rest) n iv rv lv Q := by
  subst hq
  intro l p e R s m args below meth c D dA ad0 adV xc xs Qm hC hR ad H locs ls h1 h2 h3 h4 h5 h6 h7
  exact lv_if_lt hC.1 hC.2.1 hd ht (fun h => kt h l p e R s m args below meth c D dA ad0 adV xc xs Qm hC hR ad H locs ls h1 h2 h3 h4 h5 h6 h7) (fun h => kf h l p e R s m args below meth c D dA ad0 adV xc xs Qm hC hR ad H locs ls h1 h2 h3 h4 h5 h6 h7)
theorem Z_if_ge {M : zM} {B : zB} {pc q : Nat} {loc : List (Option Value)} {rest : List Value} {n : Nat} {iv : zI} {rv : zR} {lv : zJ} {Q : zQ} {t : Nat} {off : Int} {x : Int32} (hd : decode M.2.1 pc = .ok (.ifCond .ge off, 3)) (ht : (pc : Int) + off = (t : Int)) (hq : pc + 3 = q) (kt : 0 ≤ x → Z M B t loc rest n iv rv lv Q) (kf : ¬ 0 ≤ x → Z M B q loc rest n iv rv lv Q) : Z M B pc loc (.int x :: rest) n iv rv lv Q := by
  subst hq
  intro l p e R s m args below meth c D dA ad0 adV xc xs Qm hC hR ad H locs ls h1 h2 h3 h4 h5 h6 h7
  exact lv_if_ge hC.1 hC.2.1 hd ht (fun h => kt h l p e R s m args below meth c D dA ad0 adV xc xs Qm hC hR ad H locs ls h1 h2 h3 h4 h5 h6 h7) (fun h => kf h l p e R s m args below meth c D dA ad0 adV xc xs Qm hC hR ad H locs ls h1 h2 h3 h4 h5 h6 h7)
theorem Z_if_gt {M : zM} {B : zB} {pc q : Nat} {loc : List (Option Value)} {rest : List Value} {n : Nat} {iv : zI} {rv : zR} {lv : zJ} {Q : zQ} {t : Nat} {off : Int} {x : Int32} (hd : decode M.2.1 pc = .ok (.ifCond .gt off, 3)) (ht : (pc : Int) + off = (t : Int)) (hq : pc + 3 = q) (kt : 0 < x → Z M B t loc rest n iv rv lv Q) (kf : ¬ 0 < x → Z M B q loc rest n iv rv lv Q) : Z M B pc loc (.int x :: rest) n iv rv lv Q := by
  subst hq
  intro l p e R s m args below meth c D dA ad0 adV xc xs Qm hC hR ad H locs ls h1 h2 h3 h4 h5 h6 h7
  exact lv_if_gt hC.1 hC.2.1 hd ht (fun h => kt h l p e R s m args below meth c D dA ad0 adV xc xs Qm hC hR ad H locs ls h1 h2 h3 h4 h5 h6 h7) (fun h => kf h l p e R s m args below meth c D dA ad0 adV xc xs Qm hC hR ad H locs ls h1 h2 h3 h4 h5 h6 h7)
theorem Z_if_le {M : zM} {B : zB} {pc q : Nat} {loc : List (Option Value)} {rest : List Value} {n : Nat} {iv : zI} {rv : zR} {lv : zJ} {Q : zQ} {t : Nat} {off : Int} {x : Int32} (hd : decode M.2.1 pc = .ok (.ifCond .le off, 3)) (ht : (pc : Int) + off = (t : Int)) (hq : pc + 3 = q) (kt : x ≤ 0 → Z M B t loc rest n iv rv lv Q) (kf : ¬ x ≤ 0 → Z M B q loc rest n iv rv lv Q) : Z M B pc loc (.int x :: rest) n iv rv lv Q := by
  subst hq
  intro l p e R s m args below meth c D dA ad0 adV xc xs Qm hC hR ad H locs ls h1 h2 h3 h4 h5 h6 h7
  exact lv_if_le hC.1 hC.2.1 hd ht (fun h => kt h l p e R s m args below meth c D dA ad0 adV xc xs Qm hC hR ad H locs ls h1 h2 h3 h4 h5 h6 h7) (fun h => kf h l p e R s m args below meth c D dA ad0 adV xc xs Qm hC hR ad H locs ls h1 h2 h3 h4 h5 h6 h7)
theorem Z_icmp_eq {M : zM} {B : zB} {pc q : Nat} {loc : List (Option Value)} {rest : List Value} {n : Nat} {iv : zI} {rv : zR} {lv : zJ} {Q : zQ} {t : Nat} {off : Int} {x y : Int32} (hd : decode M.2.1 pc = .ok (.if_icmp .eq off, 3)) (ht : (pc : Int) + off = (t : Int)) (hq : pc + 3 = q) (kt : x = y → Z M B t loc rest n iv rv lv Q) (kf : ¬ x = y → Z M B q loc rest n iv rv lv Q) : Z M B pc loc (.int y :: .int x :: rest) n iv rv lv Q := by
  subst hq
  intro l p e R s m args below meth c D dA ad0 adV xc xs Qm hC hR ad H locs ls h1 h2 h3 h4 h5 h6 h7
  exact lv_icmp_eq hC.1 hC.2.1 hd ht (fun h => kt h l p e R s m args below meth c D dA ad0 adV xc xs Qm hC hR ad H locs ls h1 h2 h3 h4 h5 h6 h7) (fun h => kf h l p e R s m args below meth c D dA ad0 adV xc xs Qm hC hR ad H locs ls h1 h2 h3 h4 h5 h6 h7)
theorem Z_icmp_ne {M : zM} {B : zB} {pc q : Nat} {loc : List (Option Value)} {rest : List Value} {n : Nat} {iv : zI} {rv : zR} {lv : zJ} {Q : zQ} {t : Nat} {off : Int} {x y : Int32} (hd : decode M.2.1 pc = .ok (.if_icmp .ne off, 3)) (ht : (pc : Int) + off = (t : Int)) (hq : pc + 3 = q) (kt : ¬ x = y → Z M B t loc rest n iv rv lv Q) (kf : x = y → Z M B q loc rest n iv rv lv Q) : Z M B pc loc (.int y :: .int x :: rest) n iv rv lv Q := by
  subst hq
  intro l p e R s m args below meth c D dA ad0 adV xc xs Qm hC hR ad H locs ls h1 h2 h3 h4 h5 h6 h7
  exact lv_icmp_ne hC.1 hC.2.1 hd ht (fun h => kt h l p e R s m args below meth c D dA ad0 adV xc xs Qm hC hR ad H locs ls h1 h2 h3 h4 h5 h6 h7) (fun h => kf h l p e R s m args below meth c D dA ad0 adV xc xs Qm hC hR ad H locs ls h1 h2 h3 h4 h5 h6 h7)
theorem Z_icmp_lt {M : zM} {B : zB} {pc q : Nat} {loc : List (Option Value)} {rest : List Value} {n : Nat} {iv : zI} {rv : zR} {lv : zJ} {Q : zQ} {t : Nat} {off : Int} {x y : Int32} (hd : decode M.2.1 pc = .ok (.if_icmp .lt off, 3)) (ht : (pc : Int) + off = (t : Int)) (hq : pc + 3 = q) (kt : x < y → Z M B t loc rest n iv rv lv Q) (kf : ¬ x < y → Z M B q loc rest n iv rv lv Q) : Z M B pc loc (.int y :: .int x :: rest) n iv rv lv Q := by
  subst hq
  intro l p e R s m args below meth c D dA ad0 adV xc xs Qm hC hR ad H locs ls h1 h2 h3 h4 h5 h6 h7
  exact lv_icmp_lt hC.1 hC.2.1 hd ht (fun h => kt h l p e R s m args below meth c D dA ad0 adV xc xs Qm hC hR ad H locs ls h1 h2 h3 h4 h5 h6 h7) (fun h => kf h l p e R s m args below meth c D dA ad0 adV xc xs Qm hC hR ad H locs ls h1 h2 h3 h4 h5 h6 h7)
theorem Z_icmp_ge {M : zM} {B : zB} {pc q : Nat} {loc : List (Option Value)} {rest : List Value} {n : Nat} {iv : zI} {rv : zR} {lv : zJ} {Q : zQ} {t : Nat} {off : Int} {x y : Int32} (hd : decode M.2.1 pc = .ok (.if_icmp .ge off, 3)) (ht : (pc : Int) + off = (t : Int)) (hq : pc + 3 = q) (kt : y ≤ x → Z M B t loc rest n iv rv lv Q) (kf : ¬ y ≤ x → Z M B q loc rest n iv rv lv Q) : Z M B pc loc (.int y :: .int x :: rest) n iv rv lv Q := by
  subst hq
  intro l p e R s m args below meth c D dA ad0 adV xc xs Qm hC hR ad H locs ls h1 h2 h3 h4 h5 h6 h7
  exact lv_icmp_ge hC.1 hC.2.1 hd ht (fun h => kt h l p e R s m args below meth c D dA ad0 adV xc xs Qm hC hR ad H locs ls h1 h2 h3 h4 h5 h6 h7) (fun h => kf h l p e R s m args below meth c D dA ad0 adV xc xs Qm hC hR ad H locs ls h1 h2 h3 h4 h5 h6 h7)
theorem Z_icmp_gt {M : zM} {B : zB} {pc q : Nat} {loc : List (Option Value)} {rest : List Value} {n : Nat} {iv : zI} {rv : zR} {lv : zJ} {Q : zQ} {t : Nat} {off : Int} {x y : Int32} (hd : decode M.2.1 pc = .ok (.if_icmp .gt off, 3)) (ht : (pc : Int) + off = (t : Int)) (hq : pc + 3 = q) (kt : y < x → Z M B t loc rest n iv rv lv Q) (kf : ¬ y < x → Z M B q loc rest n iv rv lv Q) : Z M B pc loc (.int y :: .int x :: rest) n iv rv lv Q := by
  subst hq
  intro l p e R s m args below meth c D dA ad0 adV xc xs Qm hC hR ad H locs ls h1 h2 h3 h4 h5 h6 h7
  exact lv_icmp_gt hC.1 hC.2.1 hd ht (fun h => kt h l p e R s m args below meth c D dA ad0 adV xc xs Qm hC hR ad H locs ls h1 h2 h3 h4 h5 h6 h7) (fun h => kf h l p e R s m args below meth c D dA ad0 adV xc xs Qm hC hR ad H locs ls h1 h2 h3 h4 h5 h6 h7)
theorem Z_icmp_le {M : zM} {B : zB} {pc q : Nat} {loc : List (Option Value)} {rest : List Value} {n : Nat} {iv : zI} {rv : zR} {lv : zJ} {Q : zQ} {t : Nat} {off : Int} {x y : Int32} (hd : decode M.2.1 pc = .ok (.if_icmp .le off, 3)) (ht : (pc : Int) + off = (t : Int)) (hq : pc + 3 = q) (kt : x ≤ y → Z M B t loc rest n iv rv lv Q) (kf : ¬ x ≤ y → Z M B q loc rest n iv rv lv Q) : Z M B pc loc (.int y :: .int x :: rest) n iv rv lv Q := by
  subst hq
  intro l p e R s m args below meth c D dA ad0 adV xc xs Qm hC hR ad H locs ls h1 h2 h3 h4 h5 h6 h7
  exact lv_icmp_le hC.1 hC.2.1 hd ht (fun h => kt h l p e R s m args below meth c D dA ad0 adV xc xs Qm hC hR ad H locs ls h1 h2 h3 h4 h5 h6 h7) (fun h => kf h l p e R s m args below meth c D dA ad0 adV xc xs Qm hC hR ad H locs ls h1 h2 h3 h4 h5 h6 h7)
theorem Z_tableIn {M : zM} {B : zB} {pc q : Nat} {loc : List (Option Value)} {rest : List Value} {n : Nat} {iv : zI} {rv : zR} {lv : zJ} {Q : zQ} {dflt lo hi off : Int} {offs : Array Int} {len : Nat} {x : Int32} (hd : decode M.2.1 pc = .ok (.tableswitch dflt lo hi offs, len)) (a1 : ¬ x.toInt < lo) (a2 : ¬ hi < x.toInt) (ho : offs[(x.toInt - lo).toNat]? = some off) (ht : (pc : Int) + off = (q : Int)) (k : Z M B q loc rest n iv rv lv Q) : Z M B pc loc (.int x :: rest) n iv rv lv Q := by
  exact Z.pure (fun hx hb _ k => lv_tableIn hx hb hd a1 a2 ho ht k) k
theorem Z_tableOut {M : zM} {B : zB} {pc q : Nat} {loc : List (Option Value)} {rest : List Value} {n : Nat} {iv : zI} {rv : zR} {lv : zJ} {Q : zQ} {dflt lo hi : Int} {offs : Array Int} {len : Nat} {x : Int32} (hd : decode M.2.1 pc = .ok (.tableswitch dflt lo hi offs, len)) (a1 : x.toInt < lo ∨ hi < x.toInt) (ht : (pc : Int) + dflt = (q : Int)) (k : Z M B q loc rest n iv rv lv Q) : Z M B pc loc (.int x :: rest) n iv rv lv Q := by
  exact Z.pure (fun hx hb _ k => lv_tableOut hx hb hd a1 ht k) k
theorem Z_ldc {M : zM} {B : zB} {pc q : Nat} {loc : List (Option Value)} {rest : List Value} {n : Nat} {iv : zI} {rv : zR} {lv : zJ} {Q : zQ} {a : Nat} {v : Int32} (hd : decode M.2.1 pc = .ok (.ldc a, 2)) (hw : Cond.constant M.1.cls a v ∈ Wd) (hq : pc + 2 = q) (k : Z M B q loc (.int v :: rest) n iv rv lv Q) : Z M B pc loc rest n iv rv lv Q := by
  subst hq
  intro l p e R s m args below meth c D dA ad0 adV xc xs Qm hC hR ad H locs ls h1 h2 h3 h4 h5 h6 h7
  exact lv_ldc hC.1 hC.2.1 hC.2.2.2.1 (hC.2.2.2.2.1 _ hw) hd (k l p e R s m args below meth c D dA ad0 adV xc xs Qm hC hR ad H locs ls h1 h2 h3 h4 h5 h6 h7)
theorem Z_ldcw {M : zM} {B : zB} {pc q : Nat} {loc : List (Option Value)} {rest : List Value} {n : Nat} {iv : zI} {rv : zR} {lv : zJ} {Q : zQ} {a : Nat} {v : Int32} (hd : decode M.2.1 pc = .ok (.ldc_w a, 3)) (hw : Cond.constant M.1.cls a v ∈ Wd) (hq : pc + 3 = q) (k : Z M B q loc (.int v :: rest) n iv rv lv Q) : Z M B pc loc rest n iv rv lv Q := by
  subst hq
  intro l p e R s m args below meth c D dA ad0 adV xc xs Qm hC hR ad H locs ls h1 h2 h3 h4 h5 h6 h7
  exact lv_ldcw hC.1 hC.2.1 hC.2.2.2.1 (hC.2.2.2.2.1 _ hw) hd (k l p e R s m args below meth c D dA ad0 adV xc xs Qm hC hR ad H locs ls h1 h2 h3 h4 h5 h6 h7)
theorem Z_ldc2 {M : zM} {B : zB} {pc q : Nat} {loc : List (Option Value)} {rest : List Value} {n : Nat} {iv : zI} {rv : zR} {lv : zJ} {Q : zQ} {a : Nat} {v : Int64} (hd : decode M.2.1 pc = .ok (.ldc2_w a, 3)) (hw : Cond.constantLong M.1.cls a v ∈ Wd) (hq : pc + 3 = q) (k : Z M B q loc (.long v :: rest) n iv rv lv Q) : Z M B pc loc rest n iv rv lv Q := by
  subst hq
  intro l p e R s m args below meth c D dA ad0 adV xc xs Qm hC hR ad H locs ls h1 h2 h3 h4 h5 h6 h7
  exact lv_ldc2 hC.1 hC.2.1 hC.2.2.2.1 (hC.2.2.2.2.1 _ hw) hd (k l p e R s m args below meth c D dA ad0 adV xc xs Qm hC hR ad H locs ls h1 h2 h3 h4 h5 h6 h7)
theorem Z_iret {M : zM} {B : zB} {pc : Nat} {loc : List (Option Value)} {n : Nat} {iv : zI} {rv : zR} {lv : zJ} {Q : zQ} {v : Int32} {ty : FieldType} (hd : decode M.2.1 pc = .ok (.ireturn, 1)) (hty : M.2.2.2 = some ty) (hnw : narrow ty (.int v) = .int v) (hn : B.2.2.1 = n) (hQ : Q (some (.int v)) iv rv lv) : Z M B pc loc [.int v] n iv rv lv Q := by
  subst hn
  intro l p e R s m args below meth c D dA ad0 adV xc xs Qm hC hR ad H locs ls h1 h2 h3 h4 h5 h6 h7
  exact hR (some (.int v)) iv rv lv ad H locs pc ls hQ (Or.inr (Or.inl ⟨v, ty, rfl, hty, hnw, hd⟩)) h1 h3 h4 h5
theorem Z_lret {M : zM} {B : zB} {pc : Nat} {loc : List (Option Value)} {n : Nat} {iv : zI} {rv : zR} {lv : zJ} {Q : zQ} {v : Int64} (hd : decode M.2.1 pc = .ok (.lreturn, 1)) (hty : M.2.2.2 = some .long) (hn : B.2.2.1 = n) (hQ : Q (some (.long v)) iv rv lv) : Z M B pc loc [.long v] n iv rv lv Q := by
  subst hn
  intro l p e R s m args below meth c D dA ad0 adV xc xs Qm hC hR ad H locs ls h1 h2 h3 h4 h5 h6 h7
  exact hR (some (.long v)) iv rv lv ad H locs pc ls hQ (Or.inr (Or.inr (Or.inl ⟨v, rfl, hty, hd⟩))) h1 h3 h4 h5
theorem Z_aret {M : zM} {B : zB} {pc : Nat} {loc : List (Option Value)} {n : Nat} {iv : zI} {rv : zR} {lv : zJ} {Q : zQ} {a : Nat} {nm : String} (hd : decode M.2.1 pc = .ok (.areturn, 1)) (hty : M.2.2.2 = some (.object nm)) (hn : B.2.2.1 = n) (hQ : Q (some (.ref a)) iv rv lv) : Z M B pc loc [.ref a] n iv rv lv Q := by
  subst hn
  intro l p e R s m args below meth c D dA ad0 adV xc xs Qm hC hR ad H locs ls h1 h2 h3 h4 h5 h6 h7
  exact hR (some (.ref a)) iv rv lv ad H locs pc ls hQ (Or.inr (Or.inr (Or.inr ⟨a, nm, rfl, hty, hd⟩))) h1 h3 h4 h5
theorem Z_vret {M : zM} {B : zB} {pc : Nat} {loc : List (Option Value)} {n : Nat} {iv : zI} {rv : zR} {lv : zJ} {Q : zQ} (hd : decode M.2.1 pc = .ok (.return_, 1)) (hty : M.2.2.2 = none) (hn : B.2.2.1 = n) (hQ : Q none iv rv lv) : Z M B pc loc [] n iv rv lv Q := by
  subst hn
  intro l p e R s m args below meth c D dA ad0 adV xc xs Qm hC hR ad H locs ls h1 h2 h3 h4 h5 h6 h7
  exact hR none iv rv lv ad H locs pc ls hQ (Or.inl ⟨rfl, hty, hd⟩) h1 h3 h4 h5
end
section
/-! THE ROWS OF Z: the memory. -/
theorem zE_0 {dA : Nat → ClassId} {ad : Nat → Nat} {iv : zI} {rv : zR} {lv : zJ} {i len : Nat} (h : zSH i = (0, len)) : zE dA ad iv rv lv i = .inl (dA 0, len, .inl (iv i)) := by simp [zE, zEk, h]
theorem zE_1 {dA : Nat → ClassId} {ad : Nat → Nat} {iv : zI} {rv : zR} {lv : zJ} {i len : Nat} (h : zSH i = (1, len)) : zE dA ad iv rv lv i = .inl (dA 1, len, .inl (iv i)) := by simp [zE, zEk, h]
theorem zE_2 {dA : Nat → ClassId} {ad : Nat → Nat} {iv : zI} {rv : zR} {lv : zJ} {i len : Nat} (h : zSH i = (2, len)) : zE dA ad iv rv lv i = .inl (dA 2, len, .inl (iv i)) := by simp [zE, zEk, h]
theorem zE_3 {dA : Nat → ClassId} {ad : Nat → Nat} {iv : zI} {rv : zR} {lv : zJ} {i len : Nat} (h : zSH i = (3, len)) : zE dA ad iv rv lv i = .inl (dA 3, len, .inr (.inl (lv i))) := by simp [zE, zEk, h]
theorem zE_q {dA : Nat → ClassId} {ad : Nat → Nat} {iv : zI} {rv : zR} {lv : zJ} {i t len : Nat} (h : zSH i = (t, len)) (a1 : 4 ≤ t) (a2 : t < 20) : zE dA ad iv rv lv i = .inl (dA t, len, .inr (.inr (.inr (.inr (fun j => (rv i j).map ad))))) := by
  have b1 : ¬ t < 3 := by omega
  have b2 : ¬ t = 3 := by omega
  simp [zE, zEk, h, a2, b1, b2]
theorem zE_o {dA : Nat → ClassId} {ad : Nat → Nat} {iv : zI} {rv : zR} {lv : zJ} {i ci N : Nat} (h : zSH i = (ci + 20, N)) : zE dA ad iv rv lv i = .inr (ci, (List.range N).map (fun k => zFv ad iv rv lv i k (zkf (zty ci k)))) := by
  have b1 : ¬ ci + 20 < 3 := by omega
  have b2 : ¬ ci + 20 = 3 := by omega
  have b3 : ¬ ci + 20 < 20 := by omega
  simp [zE, zEk, h, b1, b2, b3]
theorem Z_iald {M : zM} {B : zB} {pc q : Nat} {loc : List (Option Value)} {rest : List Value} {n : Nat} {iv : zI} {rv : zR} {lv : zJ} {Q : zQ} {a len : Nat} {i : Int32} (hd : decode M.2.1 pc = .ok (.iaload, 1)) (hs : zSH a = (0, len)) (ha : a < n) (hin : vp_in i len) (hq : pc + 1 = q) (k : Z M B q loc (.int (iv a i.toNatClampNeg) :: rest) n iv rv lv Q) : Z M B pc loc (.int i :: .ref a :: rest) n iv rv lv Q := by
  subst hq
  intro l p e R s m args below meth c D dA ad0 adV xc xs Qm hC hR ad H locs ls h1 h2 h3 h4 h5 h6 h7
  exact va_iald hC.1 hC.2.1 hC.2.2.2.2.2.1 h3 a 0 ((zW_at ha).trans (by rw [zE_0 hs])) rfl hin hd (k l p e R s m args below meth c D dA ad0 adV xc xs Qm hC hR ad H locs ls h1 h2 h3 h4 h5 h6 h7)
theorem Z_bald {M : zM} {B : zB} {pc q : Nat} {loc : List (Option Value)} {rest : List Value} {n : Nat} {iv : zI} {rv : zR} {lv : zJ} {Q : zQ} {a len : Nat} {i : Int32} (hd : decode M.2.1 pc = .ok (.baload, 1)) (hs : zSH a = (1, len)) (ha : a < n) (hin : vp_in i len) (hq : pc + 1 = q) (k : Z M B q loc (.int (iv a i.toNatClampNeg) :: rest) n iv rv lv Q) : Z M B pc loc (.int i :: .ref a :: rest) n iv rv lv Q := by
  subst hq
  intro l p e R s m args below meth c D dA ad0 adV xc xs Qm hC hR ad H locs ls h1 h2 h3 h4 h5 h6 h7
  exact va_bald hC.1 hC.2.1 hC.2.2.2.2.2.1 h3 a 1 ((zW_at ha).trans (by rw [zE_1 hs])) rfl hin hd (k l p e R s m args below meth c D dA ad0 adV xc xs Qm hC hR ad H locs ls h1 h2 h3 h4 h5 h6 h7)
theorem Z_zald {M : zM} {B : zB} {pc q : Nat} {loc : List (Option Value)} {rest : List Value} {n : Nat} {iv : zI} {rv : zR} {lv : zJ} {Q : zQ} {a len : Nat} {i : Int32} (hd : decode M.2.1 pc = .ok (.baload, 1)) (hs : zSH a = (2, len)) (ha : a < n) (hin : vp_in i len) (hq : pc + 1 = q) (k : Z M B q loc (.int (iv a i.toNatClampNeg) :: rest) n iv rv lv Q) : Z M B pc loc (.int i :: .ref a :: rest) n iv rv lv Q := by
  subst hq
  intro l p e R s m args below meth c D dA ad0 adV xc xs Qm hC hR ad H locs ls h1 h2 h3 h4 h5 h6 h7
  exact va_zald hC.1 hC.2.1 hC.2.2.2.2.2.1 h3 a 2 ((zW_at ha).trans (by rw [zE_2 hs])) rfl hin hd (k l p e R s m args below meth c D dA ad0 adV xc xs Qm hC hR ad H locs ls h1 h2 h3 h4 h5 h6 h7)
theorem Z_lald {M : zM} {B : zB} {pc q : Nat} {loc : List (Option Value)} {rest : List Value} {n : Nat} {iv : zI} {rv : zR} {lv : zJ} {Q : zQ} {a len : Nat} {i : Int32} (hd : decode M.2.1 pc = .ok (.laload, 1)) (hs : zSH a = (3, len)) (ha : a < n) (hin : vp_in i len) (hq : pc + 1 = q) (k : Z M B q loc (.long (lv a i.toNatClampNeg) :: rest) n iv rv lv Q) : Z M B pc loc (.int i :: .ref a :: rest) n iv rv lv Q := by
  subst hq
  intro l p e R s m args below meth c D dA ad0 adV xc xs Qm hC hR ad H locs ls h1 h2 h3 h4 h5 h6 h7
  exact va_lald hC.1 hC.2.1 hC.2.2.2.2.2.1 h3 a 3 ((zW_at ha).trans (by rw [zE_3 hs])) rfl hin hd (k l p e R s m args below meth c D dA ad0 adV xc xs Qm hC hR ad H locs ls h1 h2 h3 h4 h5 h6 h7)
theorem Z_iast {M : zM} {B : zB} {pc q : Nat} {loc : List (Option Value)} {rest : List Value} {n : Nat} {iv : zI} {rv : zR} {lv : zJ} {Q : zQ} {a len : Nat} {i x : Int32} (hd : decode M.2.1 pc = .ok (.iastore, 1)) (hs : zSH a = (0, len)) (ha : a < n) (hin : vp_in i len) (hq : pc + 1 = q) (k : Z M B q loc rest n (zu iv a i.toNatClampNeg x) rv lv Q) : Z M B pc loc (.int x :: .int i :: .ref a :: rest) n iv rv lv Q := by
  subst hq
  intro l p e R s m args below meth c D dA ad0 adV xc xs Qm hC hR ad H locs ls h1 h2 h3 h4 h5 h6 h7
  have ew : (zW dA ad n iv rv lv).set a (ad a, .inl (dA 0, len, .inl (upd (iv a) i.toNatClampNeg x))) = zW dA ad n (zu iv a i.toNatClampNeg x) rv lv := zW_set (by rw [zE_0 hs, zu_upd]) (fun j hj => zE_i (zu_row hj))
  exact va_iast hC.1 hC.2.1 hC.2.2.2.2.2.1 h3 h4 h5 a 0 ((zW_at ha).trans (by rw [zE_0 hs])) rfl hin hd (fun H1 locs1 hP hD hS => k l p e R s m args below meth c D dA ad0 adV xc xs Qm hC hR ad H1 locs1 ls h1 h2 (ew ▸ hP) (ew ▸ hD) hS h6 h7)
theorem Z_bast {M : zM} {B : zB} {pc q : Nat} {loc : List (Option Value)} {rest : List Value} {n : Nat} {iv : zI} {rv : zR} {lv : zJ} {Q : zQ} {a len : Nat} {i x : Int32} (hd : decode M.2.1 pc = .ok (.bastore, 1)) (hs : zSH a = (1, len)) (ha : a < n) (hin : vp_in i len) (hq : pc + 1 = q) (k : Z M B q loc rest n (zu iv a i.toNatClampNeg (vp_nar .byte x)) rv lv Q) : Z M B pc loc (.int x :: .int i :: .ref a :: rest) n iv rv lv Q := by
  subst hq
  intro l p e R s m args below meth c D dA ad0 adV xc xs Qm hC hR ad H locs ls h1 h2 h3 h4 h5 h6 h7
  have ew : (zW dA ad n iv rv lv).set a (ad a, .inl (dA 1, len, .inl (upd (iv a) i.toNatClampNeg (vp_nar .byte x)))) = zW dA ad n (zu iv a i.toNatClampNeg (vp_nar .byte x)) rv lv := zW_set (by rw [zE_1 hs, zu_upd]) (fun j hj => zE_i (zu_row hj))
  exact va_bast hC.1 hC.2.1 hC.2.2.2.2.2.1 h3 h4 h5 a 1 ((zW_at ha).trans (by rw [zE_1 hs])) rfl hin hd (fun H1 locs1 hP hD hS => k l p e R s m args below meth c D dA ad0 adV xc xs Qm hC hR ad H1 locs1 ls h1 h2 (ew ▸ hP) (ew ▸ hD) hS h6 h7)
theorem Z_zast {M : zM} {B : zB} {pc q : Nat} {loc : List (Option Value)} {rest : List Value} {n : Nat} {iv : zI} {rv : zR} {lv : zJ} {Q : zQ} {a len : Nat} {i x : Int32} (hd : decode M.2.1 pc = .ok (.bastore, 1)) (hs : zSH a = (2, len)) (ha : a < n) (hin : vp_in i len) (hq : pc + 1 = q) (k : Z M B q loc rest n (zu iv a i.toNatClampNeg (vp_nar .boolean x)) rv lv Q) : Z M B pc loc (.int x :: .int i :: .ref a :: rest) n iv rv lv Q := by
  subst hq
  intro l p e R s m args below meth c D dA ad0 adV xc xs Qm hC hR ad H locs ls h1 h2 h3 h4 h5 h6 h7
  have ew : (zW dA ad n iv rv lv).set a (ad a, .inl (dA 2, len, .inl (upd (iv a) i.toNatClampNeg (vp_nar .boolean x)))) = zW dA ad n (zu iv a i.toNatClampNeg (vp_nar .boolean x)) rv lv := zW_set (by rw [zE_2 hs, zu_upd]) (fun j hj => zE_i (zu_row hj))
  exact va_zast hC.1 hC.2.1 hC.2.2.2.2.2.1 h3 h4 h5 a 2 ((zW_at ha).trans (by rw [zE_2 hs])) rfl hin hd (fun H1 locs1 hP hD hS => k l p e R s m args below meth c D dA ad0 adV xc xs Qm hC hR ad H1 locs1 ls h1 h2 (ew ▸ hP) (ew ▸ hD) hS h6 h7)
theorem Z_last {M : zM} {B : zB} {pc q : Nat} {loc : List (Option Value)} {rest : List Value} {n : Nat} {iv : zI} {rv : zR} {lv : zJ} {Q : zQ} {a len : Nat} {i : Int32} {x : Int64} (hd : decode M.2.1 pc = .ok (.lastore, 1)) (hs : zSH a = (3, len)) (ha : a < n) (hin : vp_in i len) (hq : pc + 1 = q) (k : Z M B q loc rest n iv rv (zu lv a i.toNatClampNeg x) Q) : Z M B pc loc (.long x :: .int i :: .ref a :: rest) n iv rv lv Q := by
  subst hq
  intro l p e R s m args below meth c D dA ad0 adV xc xs Qm hC hR ad H locs ls h1 h2 h3 h4 h5 h6 h7
  have ew : (zW dA ad n iv rv lv).set a (ad a, .inl (dA 3, len, .inr (.inl (vp_updL (lv a) i.toNatClampNeg x)))) = zW dA ad n iv rv (zu lv a i.toNatClampNeg x) := zW_set (by rw [zE_3 hs, zu_updL]) (fun j hj => zE_l (zu_row hj))
  exact va_last hC.1 hC.2.1 hC.2.2.2.2.2.1 h3 h4 h5 a 3 ((zW_at ha).trans (by rw [zE_3 hs])) rfl hin hd (fun H1 locs1 hP hD hS => k l p e R s m args below meth c D dA ad0 adV xc xs Qm hC hR ad H1 locs1 ls h1 h2 (ew ▸ hP) (ew ▸ hD) hS h6 h7)
theorem Z_aald {M : zM} {B : zB} {pc q : Nat} {loc : List (Option Value)} {rest : List Value} {n : Nat} {iv : zI} {rv : zR} {lv : zJ} {Q : zQ} {a t len r : Nat} {i : Int32} (hd : decode M.2.1 pc = .ok (.aaload, 1)) (hs : zSH a = (t, len)) (ht : 4 ≤ t) (ht2 : t < 8) (ha : a < n) (hin : vp_in i len) (hr : rv a i.toNatClampNeg = some r) (hq : pc + 1 = q) (k : Z M B q loc (.ref r :: rest) n iv rv lv Q) : Z M B pc loc (.int i :: .ref a :: rest) n iv rv lv Q := by
  subst hq
  intro l p e R s m args below meth c D dA ad0 adV xc xs Qm hC hR ad H locs ls h1 h2 h3 h4 h5 h6 h7
  have hat : (zW dA ad n iv rv lv)[a]? = some (ad a, .inl (dA t, len, .inr (.inr (.inr (.inr (fun j => (rv a j).map ad)))))) := (zW_at ha).trans (by rw [zE_q hs ht (by omega)])
  have hlt : i.toNatClampNeg < len := Nat.not_le.mp fun q => hin (Or.inr q)
  have hty : ∃ ty : FieldType, ty.isReference = true ∧ (zTy dA)[t]? = some (dA t, ty) := by
    rcases (show t = 4 ∨ t = 5 ∨ t = 6 ∨ t = 7 by omega) with rfl | rfl | rfl | rfl
    · exact ⟨.object RX9, rfl, rfl⟩
    · exact ⟨.object RX3, rfl, rfl⟩
    · exact ⟨.object RX5, rfl, rfl⟩
    · exact ⟨.array .int, rfl, rfl⟩
  obtain ⟨ty, hty1, hty2⟩ := hty
  have hk := k l p e R s m args below meth c D dA ad0 adV xc xs Qm hC hR ad H locs ls h1 h2 h3 h4 h5 h6 h7
  exact W.aald (v := .ref (ad r)) (ty := ty) hC.1 hC.2.1 (h3 a _ hat) ((hC.2.2.2.2.2.1.2 t _ hty2).1 len (fun j => va_rf ((rv a j).map ad))) hty1 (fun q => by cases q) (by show ¬ (i < 0 ∨ (arrV _ _ _).slots.size ≤ _); rw [arrV_size]; exact hin) (by show (arrV _ _ _).slots[_]? = _; rw [arrV_read _ _ hlt]; show some (va_rf ((rv a i.toNatClampNeg).map ad)) = _; rw [hr]; rfl) rfl rfl hd hk
theorem zF_at {ad : Nat → Nat} {iv : zI} {rv : zR} {lv : zJ} {o ci N k0 : Nat} (hk : k0 < N) : ((List.range N).map (fun k => zFv ad iv rv lv o k (zkf (zty ci k))))[k0]? = some (zFv ad iv rv lv o k0 (zkf (zty ci k0))) := by simp [hk]
theorem zF_set {ad : Nat → Nat} {iv : zI} {rv : zR} {lv : zJ} {iv' : zI} {rv' : zR} {lv' : zJ} {o ci N k0 : Nat} {v : Value} (hk : k0 < N) (hv : zFv ad iv' rv' lv' o k0 (zkf (zty ci k0)) = v) (ho : ∀ k, k ≠ k0 → zFv ad iv' rv' lv' o k (zkf (zty ci k)) = zFv ad iv rv lv o k (zkf (zty ci k))) : ((List.range N).map (fun k => zFv ad iv rv lv o k (zkf (zty ci k)))).set k0 v = (List.range N).map (fun k => zFv ad iv' rv' lv' o k (zkf (zty ci k))) := by
  apply List.ext_getElem?
  intro j
  rw [List.getElem?_set]
  by_cases e : k0 = j
  · subst e
    simp [hk, hv]
  · rw [if_neg e]
    by_cases hj : j < N
    · simp [hj, ho j (fun q => e q.symm)]
    · simp [hj]
theorem Z_getI {M : zM} {B : zB} {pc q : Nat} {loc : List (Option Value)} {rest : List Value} {n : Nat} {iv : zI} {rv : zR} {lv : zJ} {Q : zQ} {idx ci k0 o N : Nat} {C : String} {T : u_T} (hd : decode M.2.1 pc = .ok (.getfield idx, 3)) (hc : vwCl[ci]? = some (C, T, N)) (hin : ∀ w ∈ u_ws C T N, w ∈ Wd) (hk : k0 < N) (hl : Cond.fieldLink M.1.cls idx (T k0).1 (T k0).2.1 (T k0).2.2.1 ∈ Wd) (hs : zSH o = (ci + 20, N)) (ho : o < n) (hkd : zkf (zty ci k0) = 0)  (hq : pc + 3 = q) (k : Z M B q loc (.int (iv o k0) :: rest) n iv rv lv Q) : Z M B pc loc (.ref o :: rest) n iv rv lv Q := by
  subst hq
  intro l p e R s m args below meth c D dA ad0 adV xc xs Qm hC hR ad H locs ls h1 h2 h3 h4 h5 h6 h7
  have hv : zFv ad iv rv lv o k0 (zkf (zty ci k0)) = zcv ad (.int (iv o k0)) := by
    rw [hkd]
    exact (rfl)
  exact va_get (ci := ci) (C := C) (T := T) (N := N) hC.1 hC.2.1 hC.2.2.2.2.1 hin hC.2.2.2.1 hC.2.2.2.2.2.1 h3 o ((zW_at ho).trans (by rw [zE_o hs])) hc k0 hk (hC.2.2.2.2.1 _ hl) (fun _ h9 => h9) ((zF_at hk).trans (congrArg some hv)) hd (k l p e R s m args below meth c D dA ad0 adV xc xs Qm hC hR ad H locs ls h1 h2 h3 h4 h5 h6 h7)
theorem Z_getJ {M : zM} {B : zB} {pc q : Nat} {loc : List (Option Value)} {rest : List Value} {n : Nat} {iv : zI} {rv : zR} {lv : zJ} {Q : zQ} {idx ci k0 o N : Nat} {C : String} {T : u_T} (hd : decode M.2.1 pc = .ok (.getfield idx, 3)) (hc : vwCl[ci]? = some (C, T, N)) (hin : ∀ w ∈ u_ws C T N, w ∈ Wd) (hk : k0 < N) (hl : Cond.fieldLink M.1.cls idx (T k0).1 (T k0).2.1 (T k0).2.2.1 ∈ Wd) (hs : zSH o = (ci + 20, N)) (ho : o < n) (hkd : zkf (zty ci k0) = 1)  (hq : pc + 3 = q) (k : Z M B q loc (.long (lv o k0) :: rest) n iv rv lv Q) : Z M B pc loc (.ref o :: rest) n iv rv lv Q := by
  subst hq
  intro l p e R s m args below meth c D dA ad0 adV xc xs Qm hC hR ad H locs ls h1 h2 h3 h4 h5 h6 h7
  have hv : zFv ad iv rv lv o k0 (zkf (zty ci k0)) = zcv ad (.long (lv o k0)) := by
    rw [hkd]
    exact (rfl)
  exact va_get (ci := ci) (C := C) (T := T) (N := N) hC.1 hC.2.1 hC.2.2.2.2.1 hin hC.2.2.2.1 hC.2.2.2.2.2.1 h3 o ((zW_at ho).trans (by rw [zE_o hs])) hc k0 hk (hC.2.2.2.2.1 _ hl) (fun _ h9 => h9) ((zF_at hk).trans (congrArg some hv)) hd (k l p e R s m args below meth c D dA ad0 adV xc xs Qm hC hR ad H locs ls h1 h2 h3 h4 h5 h6 h7)
theorem Z_getR {M : zM} {B : zB} {pc q : Nat} {loc : List (Option Value)} {rest : List Value} {n : Nat} {iv : zI} {rv : zR} {lv : zJ} {Q : zQ} {idx ci k0 o N : Nat} {C : String} {T : u_T} (hd : decode M.2.1 pc = .ok (.getfield idx, 3)) (hc : vwCl[ci]? = some (C, T, N)) (hin : ∀ w ∈ u_ws C T N, w ∈ Wd) (hk : k0 < N) (hl : Cond.fieldLink M.1.cls idx (T k0).1 (T k0).2.1 (T k0).2.2.1 ∈ Wd) (hs : zSH o = (ci + 20, N)) (ho : o < n) (hkd : zkf (zty ci k0) = 2) {r : Nat} (hr : rv o k0 = some r) (hq : pc + 3 = q) (k : Z M B q loc (.ref r :: rest) n iv rv lv Q) : Z M B pc loc (.ref o :: rest) n iv rv lv Q := by
  subst hq
  intro l p e R s m args below meth c D dA ad0 adV xc xs Qm hC hR ad H locs ls h1 h2 h3 h4 h5 h6 h7
  have hv : zFv ad iv rv lv o k0 (zkf (zty ci k0)) = zcv ad (.ref r) := by
    rw [hkd]
    exact (by show va_rf _ = _; rw [hr]; rfl)
  exact va_get (ci := ci) (C := C) (T := T) (N := N) hC.1 hC.2.1 hC.2.2.2.2.1 hin hC.2.2.2.1 hC.2.2.2.2.2.1 h3 o ((zW_at ho).trans (by rw [zE_o hs])) hc k0 hk (hC.2.2.2.2.1 _ hl) (fun _ h9 => h9) ((zF_at hk).trans (congrArg some hv)) hd (k l p e R s m args below meth c D dA ad0 adV xc xs Qm hC hR ad H locs ls h1 h2 h3 h4 h5 h6 h7)
theorem Z_putI {M : zM} {B : zB} {pc q : Nat} {loc : List (Option Value)} {rest : List Value} {n : Nat} {iv : zI} {rv : zR} {lv : zJ} {Q : zQ} {idx ci k0 o N : Nat} {C : String} {T : u_T} (hd : decode M.2.1 pc = .ok (.putfield idx, 3)) (hc : vwCl[ci]? = some (C, T, N)) (hin : ∀ w ∈ u_ws C T N, w ∈ Wd) (hk : k0 < N) (hl : Cond.fieldLink M.1.cls idx (T k0).1 (T k0).2.1 (T k0).2.2.1 ∈ Wd) (hs : zSH o = (ci + 20, N)) (ho : o < n) (hty : ∀ k, k < N → parseFieldDescriptor (T k).2.2.1 = some (zty ci k)) (hnm : ∀ a, a < N → ∀ b, b < N → a ≠ b → (T a).2.1 ≠ (T b).2.1) (hfin : (T k0).2.2.2 = false) (hkd : zkf (zty ci k0) = 0) {x : Int32} (hfit : ∀ ad : Nat → Nat, fits (zty ci k0) (zcv ad (.int x)) = true) (hnw2 : ∀ ad : Nat → Nat, narrow (zty ci k0) (zcv ad (.int x)) = zcv ad (.int x)) (hq : pc + 3 = q) (k : Z M B q loc rest n (zu iv o k0 x) rv lv Q) : Z M B pc loc (.int x :: .ref o :: rest) n iv rv lv Q := by
  subst hq
  intro l p e R s m args below meth c D dA ad0 adV xc xs Qm hC hR ad H locs ls h1 h2 h3 h4 h5 h6 h7
  have e1 : ((List.range N).map (fun k => zFv ad iv rv lv o k (zkf (zty ci k)))).set k0 (zcv ad (.int x)) = (List.range N).map (fun k => zFv ad (zu iv o k0 x) rv lv o k (zkf (zty ci k))) := zF_set hk (by rw [hkd]; simp [zFv, zu, zcv, va_rf]) (fun j hj => by simp only [zFv, zu, hj, and_false, if_false])
  have ew : (zW dA ad n iv rv lv).set o (ad o, .inr (ci, ((List.range N).map (fun k => zFv ad iv rv lv o k (zkf (zty ci k)))).set k0 (zcv ad (.int x)))) = zW dA ad n (zu iv o k0 x) rv lv := zW_set (by rw [zE_o hs, e1]) (fun j hj => zE_i (zu_row hj))
  exact va_put (ci := ci) (C := C) (T := T) (N := N) (ty := zty ci k0) hC.1 hC.2.1 hC.2.2.2.2.1 hin (zty ci) hty hnm hC.2.2.2.1 hC.2.2.2.2.2.1 h3 h4 h5 o ((zW_at ho).trans (by rw [zE_o hs])) hc k0 hk (hC.2.2.2.2.1 _ hl) (fun _ h9 => h9) hfin (hty k0 hk) (hnw2 ad) (hfit ad) (by simpa using hk) hd (fun H1 locs1 hP hD hS => k l p e R s m args below meth c D dA ad0 adV xc xs Qm hC hR ad H1 locs1 ls h1 h2 (ew ▸ hP) (ew ▸ hD) hS h6 h7)
theorem Z_putJ {M : zM} {B : zB} {pc q : Nat} {loc : List (Option Value)} {rest : List Value} {n : Nat} {iv : zI} {rv : zR} {lv : zJ} {Q : zQ} {idx ci k0 o N : Nat} {C : String} {T : u_T} (hd : decode M.2.1 pc = .ok (.putfield idx, 3)) (hc : vwCl[ci]? = some (C, T, N)) (hin : ∀ w ∈ u_ws C T N, w ∈ Wd) (hk : k0 < N) (hl : Cond.fieldLink M.1.cls idx (T k0).1 (T k0).2.1 (T k0).2.2.1 ∈ Wd) (hs : zSH o = (ci + 20, N)) (ho : o < n) (hty : ∀ k, k < N → parseFieldDescriptor (T k).2.2.1 = some (zty ci k)) (hnm : ∀ a, a < N → ∀ b, b < N → a ≠ b → (T a).2.1 ≠ (T b).2.1) (hfin : (T k0).2.2.2 = false) (hkd : zkf (zty ci k0) = 1) {x : Int64} (hfit : ∀ ad : Nat → Nat, fits (zty ci k0) (zcv ad (.long x)) = true) (hnw2 : ∀ ad : Nat → Nat, narrow (zty ci k0) (zcv ad (.long x)) = zcv ad (.long x)) (hq : pc + 3 = q) (k : Z M B q loc rest n iv rv (zu lv o k0 x) Q) : Z M B pc loc (.long x :: .ref o :: rest) n iv rv lv Q := by
  subst hq
  intro l p e R s m args below meth c D dA ad0 adV xc xs Qm hC hR ad H locs ls h1 h2 h3 h4 h5 h6 h7
  have e1 : ((List.range N).map (fun k => zFv ad iv rv lv o k (zkf (zty ci k)))).set k0 (zcv ad (.long x)) = (List.range N).map (fun k => zFv ad iv rv (zu lv o k0 x) o k (zkf (zty ci k))) := zF_set hk (by rw [hkd]; simp [zFv, zu, zcv, va_rf]) (fun j hj => by simp only [zFv, zu, hj, and_false, if_false])
  have ew : (zW dA ad n iv rv lv).set o (ad o, .inr (ci, ((List.range N).map (fun k => zFv ad iv rv lv o k (zkf (zty ci k)))).set k0 (zcv ad (.long x)))) = zW dA ad n iv rv (zu lv o k0 x) := zW_set (by rw [zE_o hs, e1]) (fun j hj => zE_l (zu_row hj))
  exact va_put (ci := ci) (C := C) (T := T) (N := N) (ty := zty ci k0) hC.1 hC.2.1 hC.2.2.2.2.1 hin (zty ci) hty hnm hC.2.2.2.1 hC.2.2.2.2.2.1 h3 h4 h5 o ((zW_at ho).trans (by rw [zE_o hs])) hc k0 hk (hC.2.2.2.2.1 _ hl) (fun _ h9 => h9) hfin (hty k0 hk) (hnw2 ad) (hfit ad) (by simpa using hk) hd (fun H1 locs1 hP hD hS => k l p e R s m args below meth c D dA ad0 adV xc xs Qm hC hR ad H1 locs1 ls h1 h2 (ew ▸ hP) (ew ▸ hD) hS h6 h7)
theorem Z_putR {M : zM} {B : zB} {pc q : Nat} {loc : List (Option Value)} {rest : List Value} {n : Nat} {iv : zI} {rv : zR} {lv : zJ} {Q : zQ} {idx ci k0 o N : Nat} {C : String} {T : u_T} (hd : decode M.2.1 pc = .ok (.putfield idx, 3)) (hc : vwCl[ci]? = some (C, T, N)) (hin : ∀ w ∈ u_ws C T N, w ∈ Wd) (hk : k0 < N) (hl : Cond.fieldLink M.1.cls idx (T k0).1 (T k0).2.1 (T k0).2.2.1 ∈ Wd) (hs : zSH o = (ci + 20, N)) (ho : o < n) (hty : ∀ k, k < N → parseFieldDescriptor (T k).2.2.1 = some (zty ci k)) (hnm : ∀ a, a < N → ∀ b, b < N → a ≠ b → (T a).2.1 ≠ (T b).2.1) (hfin : (T k0).2.2.2 = false) (hkd : zkf (zty ci k0) = 2) {x : Nat} (hfit : ∀ ad : Nat → Nat, fits (zty ci k0) (zcv ad (.ref x)) = true) (hnw2 : ∀ ad : Nat → Nat, narrow (zty ci k0) (zcv ad (.ref x)) = zcv ad (.ref x)) (hq : pc + 3 = q) (k : Z M B q loc rest n iv (zu rv o k0 (some x)) lv Q) : Z M B pc loc (.ref x :: .ref o :: rest) n iv rv lv Q := by
  subst hq
  intro l p e R s m args below meth c D dA ad0 adV xc xs Qm hC hR ad H locs ls h1 h2 h3 h4 h5 h6 h7
  have e1 : ((List.range N).map (fun k => zFv ad iv rv lv o k (zkf (zty ci k)))).set k0 (zcv ad (.ref x)) = (List.range N).map (fun k => zFv ad iv (zu rv o k0 (some x)) lv o k (zkf (zty ci k))) := zF_set hk (by rw [hkd]; simp [zFv, zu, zcv, va_rf]) (fun j hj => by simp only [zFv, zu, hj, and_false, if_false])
  have ew : (zW dA ad n iv rv lv).set o (ad o, .inr (ci, ((List.range N).map (fun k => zFv ad iv rv lv o k (zkf (zty ci k)))).set k0 (zcv ad (.ref x)))) = zW dA ad n iv (zu rv o k0 (some x)) lv := zW_set (by rw [zE_o hs, e1]) (fun j hj => zE_r (zu_row hj))
  exact va_put (ci := ci) (C := C) (T := T) (N := N) (ty := zty ci k0) hC.1 hC.2.1 hC.2.2.2.2.1 hin (zty ci) hty hnm hC.2.2.2.1 hC.2.2.2.2.2.1 h3 h4 h5 o ((zW_at ho).trans (by rw [zE_o hs])) hc k0 hk (hC.2.2.2.2.1 _ hl) (fun _ h9 => h9) hfin (hty k0 hk) (hnw2 ad) (hfit ad) (by simpa using hk) hd (fun H1 locs1 hP hD hS => k l p e R s m args below meth c D dA ad0 adV xc xs Qm hC hR ad H1 locs1 ls h1 h2 (ew ▸ hP) (ew ▸ hD) hS h6 h7)
theorem Z_putIF {M : zM} {B : zB} {pc q : Nat} {loc : List (Option Value)} {rest : List Value} {n : Nat} {iv : zI} {rv : zR} {lv : zJ} {Q : zQ} {idx ci k0 o N : Nat} {C : String} {T : u_T} (hd : decode M.2.1 pc = .ok (.putfield idx, 3)) (hc : vwCl[ci]? = some (C, T, N)) (hin : ∀ w ∈ u_ws C T N, w ∈ Wd) (hk : k0 < N) (hl : Cond.fieldLink M.1.cls idx (T k0).1 (T k0).2.1 (T k0).2.2.1 ∈ Wd) (hs : zSH o = (ci + 20, N)) (ho : o < n) (hty : ∀ k, k < N → parseFieldDescriptor (T k).2.2.1 = some (zty ci k)) (hnm : ∀ a, a < N → ∀ b, b < N → a ≠ b → (T a).2.1 ≠ (T b).2.1) (hfin : (T k0).2.2.2 = true) (hini : M.1.name = "<init>") (hdecl : (T k0).1 = M.1.cls) (hkd : zkf (zty ci k0) = 0) {x : Int32} (hfit : ∀ ad : Nat → Nat, fits (zty ci k0) (zcv ad (.int x)) = true) (hnw2 : ∀ ad : Nat → Nat, narrow (zty ci k0) (zcv ad (.int x)) = zcv ad (.int x)) (hq : pc + 3 = q) (k : Z M B q loc rest n (zu iv o k0 x) rv lv Q) : Z M B pc loc (.int x :: .ref o :: rest) n iv rv lv Q := by
  subst hq
  intro l p e R s m args below meth c D dA ad0 adV xc xs Qm hC hR ad H locs ls h1 h2 h3 h4 h5 h6 h7
  have e1 : ((List.range N).map (fun k => zFv ad iv rv lv o k (zkf (zty ci k)))).set k0 (zcv ad (.int x)) = (List.range N).map (fun k => zFv ad (zu iv o k0 x) rv lv o k (zkf (zty ci k))) := zF_set hk (by rw [hkd]; simp [zFv, zu, zcv, va_rf]) (fun j hj => by simp only [zFv, zu, hj, and_false, if_false])
  have ew : (zW dA ad n iv rv lv).set o (ad o, .inr (ci, ((List.range N).map (fun k => zFv ad iv rv lv o k (zkf (zty ci k)))).set k0 (zcv ad (.int x)))) = zW dA ad n (zu iv o k0 x) rv lv := zW_set (by rw [zE_o hs, e1]) (fun j hj => zE_i (zu_row hj))
  exact va_putF (ci := ci) (C := C) (T := T) (N := N) (ty := zty ci k0) hC.1 hC.2.1 hC.2.2.2.2.1 hin (zty ci) hty hnm hC.2.2.2.1 hC.2.2.2.2.2.1 h3 h4 h5 o ((zW_at ho).trans (by rw [zE_o hs])) hc k0 hk (hC.2.2.2.2.1 _ hl) (fun _ h9 => h9) hfin (hC.2.2.2.2.2.2.1.trans hini) hdecl (hty k0 hk) (hnw2 ad) (hfit ad) (by simpa using hk) hd (fun H1 locs1 hP hD hS => k l p e R s m args below meth c D dA ad0 adV xc xs Qm hC hR ad H1 locs1 ls h1 h2 (ew ▸ hP) (ew ▸ hD) hS h6 h7)
theorem Z_putRF {M : zM} {B : zB} {pc q : Nat} {loc : List (Option Value)} {rest : List Value} {n : Nat} {iv : zI} {rv : zR} {lv : zJ} {Q : zQ} {idx ci k0 o N : Nat} {C : String} {T : u_T} (hd : decode M.2.1 pc = .ok (.putfield idx, 3)) (hc : vwCl[ci]? = some (C, T, N)) (hin : ∀ w ∈ u_ws C T N, w ∈ Wd) (hk : k0 < N) (hl : Cond.fieldLink M.1.cls idx (T k0).1 (T k0).2.1 (T k0).2.2.1 ∈ Wd) (hs : zSH o = (ci + 20, N)) (ho : o < n) (hty : ∀ k, k < N → parseFieldDescriptor (T k).2.2.1 = some (zty ci k)) (hnm : ∀ a, a < N → ∀ b, b < N → a ≠ b → (T a).2.1 ≠ (T b).2.1) (hfin : (T k0).2.2.2 = true) (hini : M.1.name = "<init>") (hdecl : (T k0).1 = M.1.cls) (hkd : zkf (zty ci k0) = 2) {x : Nat} (hfit : ∀ ad : Nat → Nat, fits (zty ci k0) (zcv ad (.ref x)) = true) (hnw2 : ∀ ad : Nat → Nat, narrow (zty ci k0) (zcv ad (.ref x)) = zcv ad (.ref x)) (hq : pc + 3 = q) (k : Z M B q loc rest n iv (zu rv o k0 (some x)) lv Q) : Z M B pc loc (.ref x :: .ref o :: rest) n iv rv lv Q := by
  subst hq
  intro l p e R s m args below meth c D dA ad0 adV xc xs Qm hC hR ad H locs ls h1 h2 h3 h4 h5 h6 h7
  have e1 : ((List.range N).map (fun k => zFv ad iv rv lv o k (zkf (zty ci k)))).set k0 (zcv ad (.ref x)) = (List.range N).map (fun k => zFv ad iv (zu rv o k0 (some x)) lv o k (zkf (zty ci k))) := zF_set hk (by rw [hkd]; simp [zFv, zu, zcv, va_rf]) (fun j hj => by simp only [zFv, zu, hj, and_false, if_false])
  have ew : (zW dA ad n iv rv lv).set o (ad o, .inr (ci, ((List.range N).map (fun k => zFv ad iv rv lv o k (zkf (zty ci k)))).set k0 (zcv ad (.ref x)))) = zW dA ad n iv (zu rv o k0 (some x)) lv := zW_set (by rw [zE_o hs, e1]) (fun j hj => zE_r (zu_row hj))
  exact va_putF (ci := ci) (C := C) (T := T) (N := N) (ty := zty ci k0) hC.1 hC.2.1 hC.2.2.2.2.1 hin (zty ci) hty hnm hC.2.2.2.1 hC.2.2.2.2.2.1 h3 h4 h5 o ((zW_at ho).trans (by rw [zE_o hs])) hc k0 hk (hC.2.2.2.2.1 _ hl) (fun _ h9 => h9) hfin (hC.2.2.2.2.2.2.1.trans hini) hdecl (hty k0 hk) (hnw2 ad) (hfit ad) (by simpa using hk) hd (fun H1 locs1 hP hD hS => k l p e R s m args below meth c D dA ad0 adV xc xs Qm hC hR ad H1 locs1 ls h1 h2 (ew ▸ hP) (ew ▸ hD) hS h6 h7)
end
section
/-! THE ROWS OF Z: calls. -/
theorem z_sub {dA : Nat → ClassId} {ad0 ad : Nat → Nat} {n0 n : Nat} {iv : zI} {rv : zR} {lv : zJ} {s : State} {H : Heap} {locs : List Loc} (hD : va_D (zA ad0 n0 s.heap.size) (zW dA ad n iv rv lv)) (hS : va_S (zA ad0 n0 s.heap.size) s.heap H locs) : ∀ q, zA ad n H.size q → zA ad0 n0 s.heap.size q := by
  rintro q (⟨i, hi, rfl⟩ | h)
  · exact hD.2 i _ (zW_at hi)
  · exact Or.inr (Nat.le_trans hS.1 h)
theorem z_pre {D : va_G} {dA : Nat → ClassId} {ad0 ad adV : Nat → Nat} {n0 n : Nat} {iv : zI} {rv : zR} {lv : zJ} {s : State} {H : Heap} {locs : List Loc} (hn : n ≤ 1000000) (hag : zAg n0 n ad0 ad) (hP : va_P D vwCl (zW dA ad n iv rv lv) H) (hD : va_D (zA ad0 n0 s.heap.size) (zW dA ad n iv rv lv)) (hS : va_S (zA ad0 n0 s.heap.size) s.heap H locs) (hK : va_K D vwCl (zTy dA) s) (hX : zX ad0 adV (zA ad0 n0 s.heap.size) s s.heap) (av : List Value) :
    FrameBlind (va_Pc av (zIn D dA ad adV n iv rv lv H.size)) ∧ ∀ U : State, U.heap = H → s.WarmedH U.vm → va_Pc av (zIn D dA ad adV n iv rv lv H.size) av.toArray U := by
  refine ⟨fun a U g mk hq => ?_, fun U hU hW => ⟨rfl, by rw [hU], by rw [hU]; exact hP, zK_mv hW.alike hK, ⟨hD.1, fun _ _ _ => trivial⟩, ?_⟩⟩
  · obtain ⟨q0, q1, q2, q3, q4, q5⟩ := hq
    exact ⟨q0, q1, q2, va_K.moved (u := U) (U := U.calling g mk a) (Vm.Alike.refl U.vm) q3, q4, zX.same (u := U) (U := U.calling g mk a) rfl q5⟩
  · rw [hU]
    exact (((hX.ad (ad' := ad) (fun i hi => hag i (Or.inr (Nat.le_trans hn hi)))).kept (fun a ha hna => hS.2.1 a ha hna)).narrow (z_sub hD hS)).warm hW
theorem z_run {p : Program} {l : Launch} {e : Env} {R : Room} {s : State} {m : MethodId} {args : Array Value} {below : List Frame} {meth : Method} {c : Code} {H : Heap} {locs : List Loc} {cells slots mc ms : Nat} {Qm : State → Prop} {pc n n1 n0 : Nat} {ls : Array Slot} {rest st0 : List Value} {a : Array Value} {D : va_G} {dA : Nat → ClassId} {ad ad0 : Nat → Nat} {Q2 : zQ}
    (hr : va_Run p l e R s m args below meth c H locs cells slots mc ms (F0 m pc ls st0) rest (zOut D dA ad n n1 H.size Q2 a) (zA ad n H.size)) (hS : va_S (zA ad0 n0 s.heap.size) s.heap H locs) (hA : ∀ q, zA ad n H.size q → zA ad0 n0 s.heap.size q)
    (kk : ∀ (r : Option Value) (iv : zI) (rv : zR) (lv : zJ) (ad' : Nat → Nat) (H1 : Heap) (locs1 : List Loc), Q2 r iv rv lv → zAg n n1 ad ad' → va_P D vwCl (zW dA ad' n1 iv rv lv) H1 → va_D (zA ad0 n0 s.heap.size) (zW dA ad' n1 iv rv lv) → va_S (zA ad0 n0 s.heap.size) s.heap H1 locs1 → W p l e R s m args below meth c H1 locs1 (cells + mc) (slots + ms) Qm (F0 m (pc + 3) ls ((r.map (zcv ad')).toList ++ rest))) : W p l e R s m args below meth c H locs cells slots Qm (F0 m pc ls st0) := by
  intro T hT X
  obtain ⟨v, st₀, t, T', L, h0, X', hL, e1, e2, ⟨⟨r, iv, rv, lv, ad', hv, hq, hag, hP, hK, hD⟩, hz, hk⟩, st⟩ := hr T hT X
  cases hv
  rw [h0] at hz hk
  have hS1 : va_S (zA ad0 n0 s.heap.size) s.heap T'.heap (locs ++ L) := ⟨Nat.le_trans hS.1 (by rw [e1]; exact hz), fun q h1 h2 => by rw [e1, hk q (Nat.lt_of_lt_of_le h1 hS.1) (fun z => h2 (hA q z))]; exact hS.2.1 q h1 h2, fun q hq => by
      rcases List.mem_append.mp hq with h | h
      · exact hS.2.2 q h
      · exact hA _ (hL q h)⟩
  obtain ⟨t2, a1, b1⟩ := kk r iv rv lv ad' T'.heap (locs ++ L) hq hag (by rw [e1]; exact hP) (hD.weaken (fun _ q _ h => hA q.1 h)) hS1 T' rfl X'
  exact ⟨t2, st t2 a1, b1⟩
theorem zws_good {M : zM} (hk : Cond.code M.1 M.2.1 M.2.2.1 M.2.2.2 ∈ Wd) : GoodIn Wd (zws M) := fun w h => (List.mem_cons.mp h).elim (fun e => by subst e; exact ⟨hk, good_of_word (List.mem_filter.mp hk).2⟩) (fun h => ⟨h, good_of_word (List.mem_filter.mp h).2⟩)
theorem z_fr {d d2 mL F Lc : Nat} (h1 : d ≤ F) (h2 : 64 * d ≤ Lc) (h3 : d2 + 1 ≤ d) (h4 : mL ≤ 40) : d2 + 1 ≤ F ∧ 8 + (mL + 11) + 64 * d2 ≤ Lc := ⟨by omega, by omega⟩
theorem zL_ad {ls : Array Slot} {nL : Nat} {ad ad' : Nat → Nat} {loc : List (Option Value)} (h : zL ls nL ad loc) (hv : ∀ v, some v ∈ loc → zcv ad' v = zcv ad v) : zL ls nL ad' loc := ⟨h.1, h.2.1, fun i v hi => by rw [hv v (List.mem_of_getElem? hi)]; exact h.2.2 i v hi⟩
def zok (n n1 : Nat) (v : Value) : Bool := match v with
  | .ref i => decide (i < n) || decide (n1 ≤ i)
  | _ => true
theorem zok_cv {n n1 : Nat} {ad ad' : Nat → Nat} (hag : zAg n n1 ad ad') {v : Value} (h : zok n n1 v = true) : zcv ad' v = zcv ad v := by
  cases v <;> try rfl
  next i =>
    have : i < n ∨ n1 ≤ i := by simpa [zok] using h
    show Value.ref (ad' i) = Value.ref (ad i)
    rw [hag i this]
theorem zSL_le {a b : Nat} (h : a ≤ b) : zSL a ≤ zSL b := by
  unfold zSL
  obtain ⟨c, rfl⟩ := Nat.exists_eq_add_of_le h
  rw [List.take_add, List.map_append, List.sum_append]
  exact Nat.le_add_right _ _
theorem Z_callV {M : zM} {B : zB} {pc q : Nat} {loc : List (Option Value)} {rest st : List Value} {n : Nat} {iv : zI} {rv : zR} {lv : zJ} {Q : zQ} {M2 : zM} {idx d2 na o : Nat} {As : List Value} {Q2 : zQ} (hd : decode M.2.1 pc = .ok (.invokevirtual idx, 3)) (hk : zMi M2 na) (hl : Cond.methodLink M.1.cls idx M2.1 ∈ Wd) {ci N : Nat} {T : u_T} (hc : vwCl[ci]? = some (M2.1.cls, T, N)) (hs : zSH o = (ci + 20, N)) (ho : o < n) (hst : As.reverse ++ .ref o :: rest = st) (hna : As.length = na) (hml : M2.2.2.1 ≤ 40) (hcat : (rest.map fun v => v.category).sum ≤ 8) (hd2 : d2 + 1 ≤ B.1) (hm : Mw M2 d2 n (.ref o :: As) n iv rv lv Q2) (hq : pc + 3 = q) (k : ∀ r iv' rv' lv', Q2 r iv' rv' lv' → Z M B q loc (r.toList ++ rest) n iv' rv' lv' Q) : Z M B pc loc st n iv rv lv Q := by
  subst hq
  subst hst
  intro l p e R s m args below meth c D dA ad0 adV xc xs Qm hC hR ad H locs ls h1 h2 h3 h4 h5 h6 h7
  have hcat2 : ((rest.map (zcv ad)).map fun v => v.category).sum ≤ 8 := by
    rw [List.map_map, show ((fun v : Value => v.category) ∘ zcv ad) = fun v => v.category from funext fun v => zcv_cat ad v]
    exact hcat
  obtain ⟨hx, hb, hmlc, hown, hts, hK, hnm, hfr, hroom, hX, hB⟩ := hC
  have hpre := z_pre (Nat.le_trans h7 hB.1) h1 h3 h4 h5 hK hX ((.ref o :: As).map (zcv ad))
  obtain ⟨k1, k2, k3, k4, k5, k6, k7, k8⟩ := hk
  have hroom2 : n - B.2.1 + xc + (n - n) ≤ R.cells ∧ zSL n - zSL B.2.1 + xs + (zSL n - zSL n) ≤ R.slots := by
    have a1 := zSL_le h6
    have a2 := zSL_le h7
    exact ⟨by omega, by omega⟩
  have cb : CallB R s args M.1.cls idx M2.1 M2.2.1 M2.2.2.1 M2.2.2.2 (zws M2) (zrm d2 n n) (n - n) (zSL n - zSL n) na := callB_of na hts (zws_good k1) rfl rfl rfl (hts _ k2) (hts _ hl) ⟨k6, k7, k8⟩ (z_fr hfr.1 hfr.2 hd2 hml)
  have hrecv := va_recv hK h3 hc ((zW_at ho).trans (by rw [zE_o hs]))
  have hrun := va_runV (e := e) (below := below) (meth := meth) (locs := locs) (C := M2.1.cls) (b := ad o) (As := As.map (zcv ad)) (rest := rest.map (zcv ad)) (g := F0 m pc ls ((As.reverse ++ .ref o :: rest).map (zcv ad))) ⟨hx, hb, hmlc, hown, hts⟩ (hm l D dA ad adV H.size) ⟨cb, hts _ k3, hts _ k4⟩ ⟨hpre.1, hrecv, hpre.2⟩ rfl (by simpa using hna) h2.1 (by simp [List.map_append, List.map_reverse, zcv]) (lv_room hcat2) hd hroom2
  refine z_run hrun h5 (z_sub h4 h5) (fun r iv' rv' lv' ad' H1 locs1 hq hag hP hD hS => ?_)
  cases hag.same
  have hw := k r iv' rv' lv' hq l p e R s m args below meth c D dA ad0 adV xc xs Qm ⟨hx, hb, hmlc, hown, hts, hK, hnm, hfr, hroom, hX, hB⟩ hR ad H1 locs1 ls h1 h2 hP hD hS h6 h7
  have e1 : n - B.2.1 + xc + (n - n) = n - B.2.1 + xc := by omega
  have e2 : zSL n - zSL B.2.1 + xs + (zSL n - zSL n) = zSL n - zSL B.2.1 + xs := by omega
  rw [e1, e2]
  have e3 : (r.map (zcv ad)).toList ++ rest.map (zcv ad) = (r.toList ++ rest).map (zcv ad) := by cases r <;> simp
  rw [e3]
  exact hw
theorem Z_callS {M : zM} {B : zB} {pc q : Nat} {loc : List (Option Value)} {rest st : List Value} {n : Nat} {iv : zI} {rv : zR} {lv : zJ} {Q : zQ} {M2 : zM} {idx d2 na : Nat} {As : List Value} {Q2 : zQ} (hd : decode M.2.1 pc = .ok (.invokestatic idx, 3)) (hk : zMs M2 na) (hl : Cond.methodLink M.1.cls idx M2.1 ∈ Wd) (hst : As.reverse ++ rest = st) (hna : As.length = na) (hml : M2.2.2.1 ≤ 40) (hcat : (rest.map fun v => v.category).sum ≤ 8) (hd2 : d2 + 1 ≤ B.1) (hm : Mw M2 d2 n As n iv rv lv Q2) (hq : pc + 3 = q) (k : ∀ r iv' rv' lv', Q2 r iv' rv' lv' → Z M B q loc (r.toList ++ rest) n iv' rv' lv' Q) : Z M B pc loc st n iv rv lv Q := by
  subst hq
  subst hst
  intro l p e R s m args below meth c D dA ad0 adV xc xs Qm hC hR ad H locs ls h1 h2 h3 h4 h5 h6 h7
  have hcat2 : ((rest.map (zcv ad)).map fun v => v.category).sum ≤ 8 := by
    rw [List.map_map, show ((fun v : Value => v.category) ∘ zcv ad) = fun v => v.category from funext fun v => zcv_cat ad v]
    exact hcat
  obtain ⟨hx, hb, hmlc, hown, hts, hK, hnm, hfr, hroom, hX, hB⟩ := hC
  have hpre := z_pre (Nat.le_trans h7 hB.1) h1 h3 h4 h5 hK hX (As.map (zcv ad))
  obtain ⟨k1, k2, k3, k5, k6, k7, k8⟩ := hk
  have hroom2 : n - B.2.1 + xc + (n - n) ≤ R.cells ∧ zSL n - zSL B.2.1 + xs + (zSL n - zSL n) ≤ R.slots := by
    have a1 := zSL_le h6
    have a2 := zSL_le h7
    exact ⟨by omega, by omega⟩
  have cb : CallB R s args M.1.cls idx M2.1 M2.2.1 M2.2.2.1 M2.2.2.2 (zws M2) (zrm d2 n n) (n - n) (zSL n - zSL n) na := callB_of na hts (zws_good k1) rfl rfl rfl (hts _ k2) (hts _ hl) ⟨k6, k7, k8⟩ (z_fr hfr.1 hfr.2 hd2 hml)
  have hrun := va_runS (e := e) (below := below) (meth := meth) (locs := locs) (As := As.map (zcv ad)) (rest := rest.map (zcv ad)) (g := F0 m pc ls ((As.reverse ++ rest).map (zcv ad))) ⟨hx, hb, hmlc, hown, hts⟩ (hm l D dA ad adV H.size) ⟨cb, hts _ k3⟩ hpre rfl (by simpa using hna) h2.1 (by simp [List.map_append, List.map_reverse, zcv]) (lv_room hcat2) hd hroom2
  refine z_run hrun h5 (z_sub h4 h5) (fun r iv' rv' lv' ad' H1 locs1 hq hag hP hD hS => ?_)
  cases hag.same
  have hw := k r iv' rv' lv' hq l p e R s m args below meth c D dA ad0 adV xc xs Qm ⟨hx, hb, hmlc, hown, hts, hK, hnm, hfr, hroom, hX, hB⟩ hR ad H1 locs1 ls h1 h2 hP hD hS h6 h7
  have e1 : n - B.2.1 + xc + (n - n) = n - B.2.1 + xc := by omega
  have e2 : zSL n - zSL B.2.1 + xs + (zSL n - zSL n) = zSL n - zSL B.2.1 + xs := by omega
  rw [e1, e2]
  have e3 : (r.map (zcv ad)).toList ++ rest.map (zcv ad) = (r.toList ++ rest).map (zcv ad) := by cases r <;> simp
  rw [e3]
  exact hw
theorem Z_callSN {M : zM} {B : zB} {pc q : Nat} {loc : List (Option Value)} {rest st : List Value} {n : Nat} {iv : zI} {rv : zR} {lv : zJ} {Q : zQ} {M2 : zM} {idx d2 na : Nat} {As : List Value} {Q2 : zQ} (hd : decode M.2.1 pc = .ok (.invokestatic idx, 3)) (hk : zMs M2 na) (hl : (M.1.cls, idx, M2.1) ∈ zNs) (hst : As.reverse ++ rest = st) (hna : As.length = na) (hml : M2.2.2.1 ≤ 40) (hcat : (rest.map fun v => v.category).sum ≤ 8) (hd2 : d2 + 1 ≤ B.1) (hm : Mw M2 d2 n As n iv rv lv Q2) (hq : pc + 3 = q) (k : ∀ r iv' rv' lv', Q2 r iv' rv' lv' → Z M B q loc (r.toList ++ rest) n iv' rv' lv' Q) : Z M B pc loc st n iv rv lv Q := by
  subst hq
  subst hst
  intro l p e R s m args below meth c D dA ad0 adV xc xs Qm hC hR ad H locs ls h1 h2 h3 h4 h5 h6 h7
  have hcat2 : ((rest.map (zcv ad)).map fun v => v.category).sum ≤ 8 := by
    rw [List.map_map, show ((fun v : Value => v.category) ∘ zcv ad) = fun v => v.category from funext fun v => zcv_cat ad v]
    exact hcat
  obtain ⟨hx, hb, hmlc, hown, hts, hK, hnm, hfr, hroom, hX, hB⟩ := hC
  have hpre := z_pre (Nat.le_trans h7 hB.1) h1 h3 h4 h5 hK hX (As.map (zcv ad))
  obtain ⟨k1, k2, k3, k5, k6, k7, k8⟩ := hk
  have hroom2 : n - B.2.1 + xc + (n - n) ≤ R.cells ∧ zSL n - zSL B.2.1 + xs + (zSL n - zSL n) ≤ R.slots := by
    have a1 := zSL_le h6
    have a2 := zSL_le h7
    exact ⟨by omega, by omega⟩
  have cb : va_CN R s args M.1.cls idx M2.1 "NumberHeaps" M2.2.1 M2.2.2.1 M2.2.2.2 (zws M2) (zrm d2 n n) (n - n) (zSL n - zSL n) na := va_cnB na hts (zws_good k1) rfl rfl rfl (hX.2.2.2.2.2.1 _ hl) (hts _ k2) ⟨k6, k7, k8⟩ (z_fr hfr.1 hfr.2 hd2 hml)
  have hrun := va_runSN (e := e) (below := below) (meth := meth) (locs := locs) (As := As.map (zcv ad)) (rest := rest.map (zcv ad)) (g := F0 m pc ls ((As.reverse ++ rest).map (zcv ad))) ⟨hx, hb, hmlc, hown, hts⟩ (hm l D dA ad adV H.size) ⟨cb, hts _ k3, trivial⟩ hpre rfl (by simpa using hna) h2.1 (by simp [List.map_append, List.map_reverse, zcv]) (lv_room hcat2) hd hroom2
  refine z_run hrun h5 (z_sub h4 h5) (fun r iv' rv' lv' ad' H1 locs1 hq hag hP hD hS => ?_)
  cases hag.same
  have hw := k r iv' rv' lv' hq l p e R s m args below meth c D dA ad0 adV xc xs Qm ⟨hx, hb, hmlc, hown, hts, hK, hnm, hfr, hroom, hX, hB⟩ hR ad H1 locs1 ls h1 h2 hP hD hS h6 h7
  have e1 : n - B.2.1 + xc + (n - n) = n - B.2.1 + xc := by omega
  have e2 : zSL n - zSL B.2.1 + xs + (zSL n - zSL n) = zSL n - zSL B.2.1 + xs := by omega
  rw [e1, e2]
  have e3 : (r.map (zcv ad)).toList ++ rest.map (zcv ad) = (r.toList ++ rest).map (zcv ad) := by cases r <;> simp
  rw [e3]
  exact hw
theorem Z_callI {M : zM} {B : zB} {pc q : Nat} {loc : List (Option Value)} {rest st : List Value} {n : Nat} {iv : zI} {rv : zR} {lv : zJ} {Q : zQ} {M2 : zM} {idx d2 na o n2 : Nat} {As : List Value} {Q2 : zQ} (hd : decode M.2.1 pc = .ok (.invokespecial idx, 3)) (hk : zMc M2 na) (hl : Cond.methodLink M.1.cls idx M2.1 ∈ Wd) (hst : As.reverse ++ .ref o :: rest = st) (hna : As.length = na) (hml : M2.2.2.1 ≤ 40) (hcat : (rest.map fun v => v.category).sum ≤ 8) (hd2 : d2 + 1 ≤ B.1) (hn2 : n ≤ n2) (hn3 : n2 ≤ B.2.2.1) (hokS : rest.all (zok n n2) = true) (hokL : loc.all (fun v => match v with | some v => zok n n2 v | none => true) = true) (hret : M2.2.2.2 = none) (hm : Mw M2 d2 n2 (.ref o :: As) n iv rv lv Q2) (hq : pc + 3 = q) (k : ∀ r iv' rv' lv', Q2 r iv' rv' lv' → Z M B q loc (r.toList ++ rest) n2 iv' rv' lv' Q) : Z M B pc loc st n iv rv lv Q := by
  subst hq
  subst hst
  intro l p e R s m args below meth c D dA ad0 adV xc xs Qm hC hR ad H locs ls h1 h2 h3 h4 h5 h6 h7
  have hcat2 : ((rest.map (zcv ad)).map fun v => v.category).sum ≤ 8 := by
    rw [List.map_map, show ((fun v : Value => v.category) ∘ zcv ad) = fun v => v.category from funext fun v => zcv_cat ad v]
    exact hcat
  obtain ⟨hx, hb, hmlc, hown, hts, hK, hnm, hfr, hroom, hX, hB⟩ := hC
  have hpre := z_pre (Nat.le_trans h7 hB.1) h1 h3 h4 h5 hK hX ((.ref o :: As).map (zcv ad))
  obtain ⟨k1, k2, k3, k4, k5, k6, k7, k8⟩ := hk
  have hroom2 : n - B.2.1 + xc + (n2 - n) ≤ R.cells ∧ zSL n - zSL B.2.1 + xs + (zSL n2 - zSL n) ≤ R.slots := by
    have a1 := zSL_le h6
    have a2 := zSL_le hn2
    have a3 := zSL_le hn3
    exact ⟨by omega, by omega⟩
  have cb : CallB R s args M.1.cls idx M2.1 M2.2.1 M2.2.2.1 M2.2.2.2 (zws M2) (zrm d2 n n2) (n2 - n) (zSL n2 - zSL n) na := callB_of na hts (zws_good k1) rfl rfl rfl (hts _ k2) (hts _ hl) ⟨k6, k7, k8⟩ (z_fr hfr.1 hfr.2 hd2 hml)
  have hrun := va_runI (e := e) (below := below) (meth := meth) (locs := locs) (b := ad o) (As := As.map (zcv ad)) (rest := rest.map (zcv ad)) (g := F0 m pc ls ((As.reverse ++ .ref o :: rest).map (zcv ad))) ⟨hx, hb, hmlc, hown, hts⟩ (hm l D dA ad adV H.size) ⟨hret ▸ cb, k4, hts _ k3⟩ hpre rfl (by simpa using hna) h2.1 (by simp [List.map_append, List.map_reverse, zcv]) (lv_room hcat2) hd hroom2
  refine z_run hrun h5 (z_sub h4 h5) (fun r iv' rv' lv' ad' H1 locs1 hq hag hP hD hS => ?_)
  have hag2 : zAg B.2.1 n2 ad0 ad' := h1.trans h6 hn2 hag
  have hL2 : zL ls M.2.2.1 ad' loc := zL_ad h2 (fun v hv => zok_cv hag (by simpa using List.all_eq_true.mp hokL _ hv))
  have hst2 : rest.map (zcv ad) = rest.map (zcv ad') := List.map_congr_left (fun v hv => (zok_cv hag (List.all_eq_true.mp hokS _ hv)).symm)
  have hw := k r iv' rv' lv' hq l p e R s m args below meth c D dA ad0 adV xc xs Qm ⟨hx, hb, hmlc, hown, hts, hK, hnm, hfr, hroom, hX, hB⟩ hR ad' H1 locs1 ls hag2 hL2 hP hD hS (Nat.le_trans h6 hn2) hn3
  rw [hst2]
  have e1 : n - B.2.1 + xc + (n2 - n) = n2 - B.2.1 + xc := by omega
  have e2 : zSL n - zSL B.2.1 + xs + (zSL n2 - zSL n) = zSL n2 - zSL B.2.1 + xs := by
    have a1 := zSL_le h6
    have a2 := zSL_le hn2
    omega
  rw [e1, e2]
  have e3 : (r.map (zcv ad')).toList ++ rest.map (zcv ad') = (r.toList ++ rest).map (zcv ad') := by cases r <;> simp
  rw [e3]
  exact hw
theorem Z_callIN {M : zM} {B : zB} {pc q : Nat} {loc : List (Option Value)} {rest st : List Value} {n : Nat} {iv : zI} {rv : zR} {lv : zJ} {Q : zQ} {M2 : zM} {idx d2 na o n2 : Nat} {As : List Value} {Q2 : zQ} (hd : decode M.2.1 pc = .ok (.invokespecial idx, 3)) (hk : zMc M2 na) (hl : (M.1.cls, idx, M2.1) ∈ zNs) (hst : As.reverse ++ .ref o :: rest = st) (hna : As.length = na) (hml : M2.2.2.1 ≤ 40) (hcat : (rest.map fun v => v.category).sum ≤ 8) (hd2 : d2 + 1 ≤ B.1) (hn2 : n ≤ n2) (hn3 : n2 ≤ B.2.2.1) (hokS : rest.all (zok n n2) = true) (hokL : loc.all (fun v => match v with | some v => zok n n2 v | none => true) = true) (hret : M2.2.2.2 = none) (hm : Mw M2 d2 n2 (.ref o :: As) n iv rv lv Q2) (hq : pc + 3 = q) (k : ∀ r iv' rv' lv', Q2 r iv' rv' lv' → Z M B q loc (r.toList ++ rest) n2 iv' rv' lv' Q) : Z M B pc loc st n iv rv lv Q := by
  subst hq
  subst hst
  intro l p e R s m args below meth c D dA ad0 adV xc xs Qm hC hR ad H locs ls h1 h2 h3 h4 h5 h6 h7
  have hcat2 : ((rest.map (zcv ad)).map fun v => v.category).sum ≤ 8 := by
    rw [List.map_map, show ((fun v : Value => v.category) ∘ zcv ad) = fun v => v.category from funext fun v => zcv_cat ad v]
    exact hcat
  obtain ⟨hx, hb, hmlc, hown, hts, hK, hnm, hfr, hroom, hX, hB⟩ := hC
  have hpre := z_pre (Nat.le_trans h7 hB.1) h1 h3 h4 h5 hK hX ((.ref o :: As).map (zcv ad))
  obtain ⟨k1, k2, k3, k4, k5, k6, k7, k8⟩ := hk
  have hroom2 : n - B.2.1 + xc + (n2 - n) ≤ R.cells ∧ zSL n - zSL B.2.1 + xs + (zSL n2 - zSL n) ≤ R.slots := by
    have a1 := zSL_le h6
    have a2 := zSL_le hn2
    have a3 := zSL_le hn3
    exact ⟨by omega, by omega⟩
  have cb : va_CN R s args M.1.cls idx M2.1 "NumberHeaps" M2.2.1 M2.2.2.1 M2.2.2.2 (zws M2) (zrm d2 n n2) (n2 - n) (zSL n2 - zSL n) na := va_cnB na hts (zws_good k1) rfl rfl rfl (hX.2.2.2.2.2.1 _ hl) (hts _ k2) ⟨k6, k7, k8⟩ (z_fr hfr.1 hfr.2 hd2 hml)
  have hrun := va_runIN (e := e) (below := below) (meth := meth) (locs := locs) (b := ad o) (As := As.map (zcv ad)) (rest := rest.map (zcv ad)) (g := F0 m pc ls ((As.reverse ++ .ref o :: rest).map (zcv ad))) ⟨hx, hb, hmlc, hown, hts⟩ (hm l D dA ad adV H.size) ⟨hret ▸ cb, k4, hts _ k3⟩ hpre rfl (by simpa using hna) h2.1 (by simp [List.map_append, List.map_reverse, zcv]) (lv_room hcat2) hd hroom2
  refine z_run hrun h5 (z_sub h4 h5) (fun r iv' rv' lv' ad' H1 locs1 hq hag hP hD hS => ?_)
  have hag2 : zAg B.2.1 n2 ad0 ad' := h1.trans h6 hn2 hag
  have hL2 : zL ls M.2.2.1 ad' loc := zL_ad h2 (fun v hv => zok_cv hag (by simpa using List.all_eq_true.mp hokL _ hv))
  have hst2 : rest.map (zcv ad) = rest.map (zcv ad') := List.map_congr_left (fun v hv => (zok_cv hag (List.all_eq_true.mp hokS _ hv)).symm)
  have hw := k r iv' rv' lv' hq l p e R s m args below meth c D dA ad0 adV xc xs Qm ⟨hx, hb, hmlc, hown, hts, hK, hnm, hfr, hroom, hX, hB⟩ hR ad' H1 locs1 ls hag2 hL2 hP hD hS (Nat.le_trans h6 hn2) hn3
  rw [hst2]
  have e1 : n - B.2.1 + xc + (n2 - n) = n2 - B.2.1 + xc := by omega
  have e2 : zSL n - zSL B.2.1 + xs + (zSL n2 - zSL n) = zSL n2 - zSL B.2.1 + xs := by
    have a1 := zSL_le h6
    have a2 := zSL_le hn2
    omega
  rw [e1, e2]
  have e3 : (r.map (zcv ad')).toList ++ rest.map (zcv ad') = (r.toList ++ rest).map (zcv ad') := by cases r <;> simp
  rw [e3]
  exact hw
end
section
/-! THE ROWS OF Z: members of the library. -/
theorem zw_max : Cond.static Lib.Math.max.name ∈ Wd ∧ Cond.initialized "java/lang/Math" ∈ Wd ∧ Cond.code Lib.Math.max.name Lib.Math.max.code 2 (some .int) ∈ Wd := ⟨zwd 784 (by decide +kernel) (by decide +kernel), zwd 118 (by decide +kernel) (by decide +kernel), zwd 785 (by decide +kernel) (by decide +kernel)⟩
theorem zw_min : Cond.static Lib.Math.min.name ∈ Wd ∧ Cond.initialized "java/lang/Math" ∈ Wd ∧ Cond.code Lib.Math.min.name Lib.Math.min.code 2 (some .int) ∈ Wd := ⟨zwd 546 (by decide +kernel) (by decide +kernel), zwd 118 (by decide +kernel) (by decide +kernel), zwd 547 (by decide +kernel) (by decide +kernel)⟩
theorem zw_cpy : Cond.static arraycopyName ∈ Wd ∧ Cond.native arraycopyName ∈ Wd ∧ Cond.initialized "java/lang/System" ∈ Wd := ⟨zwd 690 (by decide +kernel) (by decide +kernel), zwd 691 (by decide +kernel) (by decide +kernel), zwd 124 (by decide +kernel) (by decide +kernel)⟩
def mBC : zM := (⟨"java/lang/Integer", "bitCount", "(I)I"⟩, prog_18_method_49_code, 1, some .int)
theorem kBC : zMs mBC 1 := ⟨zwd 673 (by decide +kernel) (by decide +kernel), zwd 123 (by decide +kernel) (by decide +kernel), zwd 672 (by decide +kernel) (by decide +kernel), by decide +kernel, by decide +kernel, by decide +kernel, by decide +kernel⟩
theorem Z_max {M : zM} {B : zB} {pc q : Nat} {loc : List (Option Value)} {rest : List Value} {n : Nat} {iv : zI} {rv : zR} {lv : zJ} {Q : zQ} {idx : Nat} {x y : Int32} (hd : decode M.2.1 pc = .ok (.invokestatic idx, 3)) (hl : Cond.methodLink M.1.cls idx Lib.Math.max.name ∈ Wd) (hcat : (rest.map fun v => v.category).sum ≤ 8) (hd1 : 1 ≤ B.1) (hq : pc + 3 = q) (k : Z M B q loc (.int (if x < y then y else x) :: rest) n iv rv lv Q) : Z M B pc loc (.int y :: .int x :: rest) n iv rv lv Q := by
  subst hq
  intro l p e R s m args below meth c D dA ad0 adV xc xs Qm hC hR ad H locs ls h1 h2 h3 h4 h5 h6 h7
  have hcat2 : ((rest.map (zcv ad)).map fun v => v.category).sum ≤ 8 := by
    rw [List.map_map, show ((fun v : Value => v.category) ∘ zcv ad) = fun v => v.category from funext fun v => zcv_cat ad v]
    exact hcat
  have hw := k l p e R s m args below meth c D dA ad0 adV xc xs Qm hC hR ad H locs ls h1 h2 h3 h4 h5 h6 h7
  obtain ⟨hx, hb, hmlc, hown, hts, hK, hnm, hfr, hroom, hX, hB⟩ := hC
  have a1 := zSL_le h7
  have a2 := zSL_le h6
  exact va_mmax hx hb (hmlc.trans h2.1.symm) hown (hts _ hl) (hts _ zw_max.1) (hts _ zw_max.2.1) (hts _ zw_max.2.2) (by omega) (by omega) (by omega) (by omega) hd hw
theorem Z_min {M : zM} {B : zB} {pc q : Nat} {loc : List (Option Value)} {rest : List Value} {n : Nat} {iv : zI} {rv : zR} {lv : zJ} {Q : zQ} {idx : Nat} {x y : Int32} (hd : decode M.2.1 pc = .ok (.invokestatic idx, 3)) (hl : Cond.methodLink M.1.cls idx Lib.Math.min.name ∈ Wd) (hcat : (rest.map fun v => v.category).sum ≤ 8) (hd1 : 1 ≤ B.1) (hq : pc + 3 = q) (k : Z M B q loc (.int (if y < x then y else x) :: rest) n iv rv lv Q) : Z M B pc loc (.int y :: .int x :: rest) n iv rv lv Q := by
  subst hq
  intro l p e R s m args below meth c D dA ad0 adV xc xs Qm hC hR ad H locs ls h1 h2 h3 h4 h5 h6 h7
  have hcat2 : ((rest.map (zcv ad)).map fun v => v.category).sum ≤ 8 := by
    rw [List.map_map, show ((fun v : Value => v.category) ∘ zcv ad) = fun v => v.category from funext fun v => zcv_cat ad v]
    exact hcat
  have hw := k l p e R s m args below meth c D dA ad0 adV xc xs Qm hC hR ad H locs ls h1 h2 h3 h4 h5 h6 h7
  obtain ⟨hx, hb, hmlc, hown, hts, hK, hnm, hfr, hroom, hX, hB⟩ := hC
  have a1 := zSL_le h7
  have a2 := zSL_le h6
  exact va_mmin hx hb (hmlc.trans h2.1.symm) hown (hts _ hl) (hts _ zw_min.1) (hts _ zw_min.2.1) (hts _ zw_min.2.2) (by omega) (by omega) (by omega) (by omega) hd hw
/-- arraycopy over rows of ints -/
theorem Z_copyi {M : zM} {B : zB} {pc q : Nat} {loc : List (Option Value)} {rest : List Value} {n : Nat} {iv : zI} {rv : zR} {lv : zJ} {Q : zQ} {idx a0 a1 n0 n1 : Nat} {sp dp k0 : Int32} (hd : decode M.2.1 pc = .ok (.invokestatic idx, 3)) (hl : Cond.methodLink M.1.cls idx arraycopyName ∈ Wd) (hs0 : zSH a0 = (0, n0)) (ha0 : a0 < n) (hs1 : zSH a1 = (0, n1)) (ha1 : a1 < n) (b1 : ¬ sp < 0) (b2 : ¬ dp < 0) (b3 : ¬ k0 < 0) (b4 : sp.toNatClampNeg + k0.toNatClampNeg ≤ n0) (b5 : dp.toNatClampNeg + k0.toNatClampNeg ≤ n1) (hcat : (rest.map fun v => v.category).sum ≤ 8) (hd1 : 1 ≤ B.1) (hq : pc + 3 = q)
    (k : Z M B q loc rest n (fun a => if a = a1 then va_cpy (iv a0) (iv a1) sp.toNatClampNeg dp.toNatClampNeg k0.toNatClampNeg else iv a) rv lv Q) : Z M B pc loc (.int k0 :: .int dp :: .ref a1 :: .int sp :: .ref a0 :: rest) n iv rv lv Q := by
  subst hq
  intro l p e R s m args below meth c D dA ad0 adV xc xs Qm hC hR ad H locs ls h1 h2 h3 h4 h5 h6 h7
  have hcat2 : ((rest.map (zcv ad)).map fun v => v.category).sum ≤ 8 := by
    rw [List.map_map, show ((fun v : Value => v.category) ∘ zcv ad) = fun v => v.category from funext fun v => zcv_cat ad v]
    exact hcat
  have hw := fun H1 locs1 => k l p e R s m args below meth c D dA ad0 adV xc xs Qm hC hR ad H1 locs1 ls h1 h2
  obtain ⟨hx, hb, hmlc, hown, hts, hK, hnm, hfr, hroom, hX, hB⟩ := hC
  have ew : (zW dA ad n iv rv lv).set a1 (ad a1, .inl (dA 0, n1, .inl (va_cpy (iv a0) (iv a1) sp.toNatClampNeg dp.toNatClampNeg k0.toNatClampNeg))) = zW dA ad n (fun a => if a = a1 then va_cpy (iv a0) (iv a1) sp.toNatClampNeg dp.toNatClampNeg k0.toNatClampNeg else iv a) rv lv := zW_set (by rw [zE_0 hs1]; simp) (fun j hj => zE_i (by simp [hj]))
  have hnf : nativeFrameWords "java/lang/System" "arraycopy" 5 = 7 := by decide +kernel
  exact va_copyi (ty := .int) hx hb (hmlc.trans h2.1.symm) hown (hts _ hl) (hts _ zw_cpy.2.1) (hts _ zw_cpy.1) (hts _ zw_cpy.2.2) hK h3 h4 h5 a0 a1 0 0 ((zW_at ha0).trans (by rw [zE_0 hs0])) ((zW_at ha1).trans (by rw [zE_0 hs1])) rfl rfl rfl b1 b2 b3 b4 b5 (fun _ _ => rfl) (by omega) (by omega) hd (fun H1 locs1 hP hD hS => hw H1 locs1 (ew ▸ hP) (ew ▸ hD) hS h6 h7)
theorem Z_ldcS {M : zM} {B : zB} {pc q : Nat} {loc : List (Option Value)} {rest : List Value} {n : Nat} {iv : zI} {rv : zR} {lv : zJ} {Q : zQ} {idx a : Nat} {tx : String} (hd : decode M.2.1 pc = .ok (.ldc idx, 2)) (hz : ∀ (ad adV : Nat → Nat) (A : Nat → Prop) (U : State) (H : Heap), zX ad adV A U H → vk_R M.1.cls idx tx (ad a) U) (ha : 1000000 ≤ a) (hq : pc + 2 = q) (k : Z M B q loc (.ref a :: rest) n iv rv lv Q) : Z M B pc loc rest n iv rv lv Q := by
  subst hq
  intro l p e R s m args below meth c D dA ad0 adV xc xs Qm hC hR ad H locs ls h1 h2 h3 h4 h5 h6 h7
  have hw := k l p e R s m args below meth c D dA ad0 adV xc xs Qm hC hR ad H locs ls h1 h2 h3 h4 h5 h6 h7
  obtain ⟨hx, hb, hmlc, hown, hts, hK, hnm, hfr, hroom, hX, hB⟩ := hC
  exact va_ldcS hx hb hown (hz ad adV _ s _ (hX.ad (ad' := ad) (fun i hi => h1 i (Or.inr (Nat.le_trans (Nat.le_trans h7 hB.1) hi))))) hd hw
theorem Met.mono {l : Launch} {y : MethodName} {ws : List Cond} {rm : Room} {Pc : Array Value → State → Prop} {Qc Qd : Array Value → State → Outcome → State → Prop} {mc ms : Nat} {free : Addr → Prop} (h : Met l y ws rm Pc Qc mc ms free) (hq : ∀ a s o t, Qc a s o t → Qd a s o t) : Met l y ws rm Pc Qd mc ms free := by
  intro p e ha hc hk s m args below hf h1 h2 h3
  obtain ⟨k, o, a1, a2, a3, a4⟩ := h p e ha hc hk s m args below hf h1 h2 h3
  exact ⟨k, o, a1, a2, a3, hq _ _ _ _ a4.1, a4.2⟩
theorem Mw.mono {M : zM} {d n1 : Nat} {as : List Value} {n : Nat} {iv : zI} {rv : zR} {lv : zJ} {Q Q2 : zQ} (h : Mw M d n1 as n iv rv lv Q) (hq : ∀ r a b c, Q r a b c → Q2 r a b c) : Mw M d n1 as n iv rv lv Q2 := fun l D dA ad adV sz => (h l D dA ad adV sz).mono (fun a st oc t hz => ⟨by
  obtain ⟨r, iv', rv', lv', ad', h1, h2, h3⟩ := hz.1
  exact ⟨r, iv', rv', lv', ad', h1, hq _ _ _ _ h2, h3⟩, hz.2⟩)
theorem Z.mono {M : zM} {B : zB} {pc : Nat} {loc : List (Option Value)} {st : List Value} {n : Nat} {iv : zI} {rv : zR} {lv : zJ} {Q Q2 : zQ} (h : Z M B pc loc st n iv rv lv Q) (hq : ∀ r a b c, Q r a b c → Q2 r a b c) : Z M B pc loc st n iv rv lv Q2 := by
  intro l p e R s m args below meth c D dA ad0 adV xc xs Qm hC hR ad H locs ls h1 h2 h3 h4 h5 h6 h7
  exact h l p e R s m args below meth c D dA ad0 adV xc xs Qm hC (fun r iv rv lv ad H locs pc ls hQ => hR r iv rv lv ad H locs pc ls (hq _ _ _ _ hQ)) ad H locs ls h1 h2 h3 h4 h5 h6 h7
/-! CONTRACTS OF METHODS THAT MAKE NOTHING: 200 places before and behind. -/
def Ci (M : zM) (d : Nat) (as : List Value) (iv : zI) (rv : zR) (lv : zJ) (Q : Int32 → zI → zR → zJ → Prop) : Prop := Mw M d 200 as 200 iv rv lv (fun r iv' rv' lv' => ∃ x, r = some (.int x) ∧ Q x iv' rv' lv')
def Cv (M : zM) (d : Nat) (as : List Value) (iv : zI) (rv : zR) (lv : zJ) (Q : zI → zR → zJ → Prop) : Prop := Mw M d 200 as 200 iv rv lv (fun r iv' rv' lv' => r = none ∧ Q iv' rv' lv')
def Cl (M : zM) (d : Nat) (as : List Value) (iv : zI) (rv : zR) (lv : zJ) (Q : Int64 → zI → zR → zJ → Prop) : Prop := Mw M d 200 as 200 iv rv lv (fun r iv' rv' lv' => ∃ x, r = some (.long x) ∧ Q x iv' rv' lv')
def Cr (M : zM) (d : Nat) (as : List Value) (iv : zI) (rv : zR) (lv : zJ) (Q : Nat → zI → zR → zJ → Prop) : Prop := Mw M d 200 as 200 iv rv lv (fun r iv' rv' lv' => ∃ x, r = some (.ref x) ∧ Q x iv' rv' lv')
/-- the judgements within such methods -/
def Zi (M : zM) (d pc : Nat) (loc : List (Option Value)) (st : List Value) (iv : zI) (rv : zR) (lv : zJ) (Q : Int32 → zI → zR → zJ → Prop) : Prop := Z M (d, 200, 200, 0, zK0) pc loc st 200 iv rv lv (fun r iv' rv' lv' => ∃ x, r = some (.int x) ∧ Q x iv' rv' lv')
def Zv (M : zM) (d pc : Nat) (loc : List (Option Value)) (st : List Value) (iv : zI) (rv : zR) (lv : zJ) (Q : zI → zR → zJ → Prop) : Prop := Z M (d, 200, 200, 0, zK0) pc loc st 200 iv rv lv (fun r iv' rv' lv' => r = none ∧ Q iv' rv' lv')
def Zl (M : zM) (d pc : Nat) (loc : List (Option Value)) (st : List Value) (iv : zI) (rv : zR) (lv : zJ) (Q : Int64 → zI → zR → zJ → Prop) : Prop := Z M (d, 200, 200, 0, zK0) pc loc st 200 iv rv lv (fun r iv' rv' lv' => ∃ x, r = some (.long x) ∧ Q x iv' rv' lv')
def Zr (M : zM) (d pc : Nat) (loc : List (Option Value)) (st : List Value) (iv : zI) (rv : zR) (lv : zJ) (Q : Nat → zI → zR → zJ → Prop) : Prop := Z M (d, 200, 200, 0, zK0) pc loc st 200 iv rv lv (fun r iv' rv' lv' => ∃ x, r = some (.ref x) ∧ Q x iv' rv' lv')
theorem Ci.of {M : zM} {d : Nat} {as : List Value} {iv : zI} {rv : zR} {lv : zJ} {Q : Int32 → zI → zR → zJ → Prop} {loc : List (Option Value)} (hp : plainName M.1.cls = true) (hcat : ∀ v ∈ as, v.category = 1) (hlen : as.length ≤ M.2.2.1) (hloc : as.map some ++ List.replicate (M.2.2.1 - as.length) none = loc) (hz : Zi M d 0 loc [] iv rv lv Q) : Ci M d as iv rv lv Q := Mw.of hp hcat hlen hloc (Nat.le_refl _) (by decide) hz
theorem Ci.mono {M : zM} {d : Nat} {as : List Value} {iv : zI} {rv : zR} {lv : zJ} {Q Q2 : Int32 → zI → zR → zJ → Prop} (h : Ci M d as iv rv lv Q) (hq : ∀ x a b c, Q x a b c → Q2 x a b c) : Ci M d as iv rv lv Q2 := Mw.mono h (fun _ _ _ _ ⟨x, e, h⟩ => ⟨x, e, hq _ _ _ _ h⟩)
theorem Cv.of {M : zM} {d : Nat} {as : List Value} {iv : zI} {rv : zR} {lv : zJ} {Q : zI → zR → zJ → Prop} {loc : List (Option Value)} (hp : plainName M.1.cls = true) (hcat : ∀ v ∈ as, v.category = 1) (hlen : as.length ≤ M.2.2.1) (hloc : as.map some ++ List.replicate (M.2.2.1 - as.length) none = loc) (hz : Zv M d 0 loc [] iv rv lv Q) : Cv M d as iv rv lv Q := Mw.of hp hcat hlen hloc (Nat.le_refl _) (by decide) hz
theorem Cv.mono {M : zM} {d : Nat} {as : List Value} {iv : zI} {rv : zR} {lv : zJ} {Q Q2 : zI → zR → zJ → Prop} (h : Cv M d as iv rv lv Q) (hq : ∀ a b c, Q a b c → Q2 a b c) : Cv M d as iv rv lv Q2 := Mw.mono h (fun _ _ _ _ ⟨e, h⟩ => ⟨e, hq _ _ _ h⟩)
theorem Cl.of {M : zM} {d : Nat} {as : List Value} {iv : zI} {rv : zR} {lv : zJ} {Q : Int64 → zI → zR → zJ → Prop} {loc : List (Option Value)} (hp : plainName M.1.cls = true) (hcat : ∀ v ∈ as, v.category = 1) (hlen : as.length ≤ M.2.2.1) (hloc : as.map some ++ List.replicate (M.2.2.1 - as.length) none = loc) (hz : Zl M d 0 loc [] iv rv lv Q) : Cl M d as iv rv lv Q := Mw.of hp hcat hlen hloc (Nat.le_refl _) (by decide) hz
theorem Cl.mono {M : zM} {d : Nat} {as : List Value} {iv : zI} {rv : zR} {lv : zJ} {Q Q2 : Int64 → zI → zR → zJ → Prop} (h : Cl M d as iv rv lv Q) (hq : ∀ x a b c, Q x a b c → Q2 x a b c) : Cl M d as iv rv lv Q2 := Mw.mono h (fun _ _ _ _ ⟨x, e, h⟩ => ⟨x, e, hq _ _ _ _ h⟩)
theorem Cr.of {M : zM} {d : Nat} {as : List Value} {iv : zI} {rv : zR} {lv : zJ} {Q : Nat → zI → zR → zJ → Prop} {loc : List (Option Value)} (hp : plainName M.1.cls = true) (hcat : ∀ v ∈ as, v.category = 1) (hlen : as.length ≤ M.2.2.1) (hloc : as.map some ++ List.replicate (M.2.2.1 - as.length) none = loc) (hz : Zr M d 0 loc [] iv rv lv Q) : Cr M d as iv rv lv Q := Mw.of hp hcat hlen hloc (Nat.le_refl _) (by decide) hz
theorem Cr.mono {M : zM} {d : Nat} {as : List Value} {iv : zI} {rv : zR} {lv : zJ} {Q Q2 : Nat → zI → zR → zJ → Prop} (h : Cr M d as iv rv lv Q) (hq : ∀ x a b c, Q x a b c → Q2 x a b c) : Cr M d as iv rv lv Q2 := Mw.mono h (fun _ _ _ _ ⟨x, e, h⟩ => ⟨x, e, hq _ _ _ _ h⟩)
end
section
/-! FIELDS: a row for each; and the static shape of the run: which object holds which. -/
theorem zty0_ok : ∀ k, k < 3 → parseFieldDescriptor (TX0 k).2.2.1 = some (zty 0 k) := tyX0_ok
theorem g0_0 {M : zM} {B : zB} {pc q : Nat} {loc : List (Option Value)} {rest : List Value} {n : Nat} {iv : zI} {rv : zR} {lv : zJ} {Q : zQ} {o idx : Nat} {r : Nat} (hd : decode M.2.1 pc = .ok (.getfield idx, 3)) (hl : Cond.fieldLink M.1.cls idx "NumberHeaps$Differencing" "row" "LNumberHeaps$ItemRow;" ∈ Wd) (hs : zSH o = (20, 3)) (ho : o < n) (hr : rv o 0 = some r) (hq : pc + 3 = q) (k : Z M B q loc (.ref r :: rest) n iv rv lv Q) : Z M B pc loc (.ref o :: rest) n iv rv lv Q := Z_getR (ci := 0) (k0 := 0) (T := TX0) (C := RX0) (N := 3) hd rfl inW0 (by decide) hl hs ho rfl hr hq k
theorem pf0_0 {M : zM} {B : zB} {pc q : Nat} {loc : List (Option Value)} {rest : List Value} {n : Nat} {iv : zI} {rv : zR} {lv : zJ} {Q : zQ} {o idx : Nat} {x : Nat} (hd : decode M.2.1 pc = .ok (.putfield idx, 3)) (hl : Cond.fieldLink M.1.cls idx "NumberHeaps$Differencing" "row" "LNumberHeaps$ItemRow;" ∈ Wd) (hs : zSH o = (20, 3)) (ho : o < n) (hini : M.1.name = "<init>") (hdecl : "NumberHeaps$Differencing" = M.1.cls) (hq : pc + 3 = q) (k : Z M B q loc rest n iv (zu rv o 0 (some x)) lv Q) : Z M B pc loc (.ref x :: .ref o :: rest) n iv rv lv Q := Z_putRF (ci := 0) (k0 := 0) (T := TX0) (C := RX0) (N := 3) hd rfl inW0 (by decide) hl hs ho zty0_ok nmX0 rfl hini hdecl rfl (fun _ => rfl) (fun _ => rfl) hq k
theorem g0_1 {M : zM} {B : zB} {pc q : Nat} {loc : List (Option Value)} {rest : List Value} {n : Nat} {iv : zI} {rv : zR} {lv : zJ} {Q : zQ} {o idx : Nat} {r : Nat} (hd : decode M.2.1 pc = .ok (.getfield idx, 3)) (hl : Cond.fieldLink M.1.cls idx "NumberHeaps$Differencing" "greater" "[I" ∈ Wd) (hs : zSH o = (20, 3)) (ho : o < n) (hr : rv o 1 = some r) (hq : pc + 3 = q) (k : Z M B q loc (.ref r :: rest) n iv rv lv Q) : Z M B pc loc (.ref o :: rest) n iv rv lv Q := Z_getR (ci := 0) (k0 := 1) (T := TX0) (C := RX0) (N := 3) hd rfl inW0 (by decide) hl hs ho rfl hr hq k
theorem pf0_1 {M : zM} {B : zB} {pc q : Nat} {loc : List (Option Value)} {rest : List Value} {n : Nat} {iv : zI} {rv : zR} {lv : zJ} {Q : zQ} {o idx : Nat} {x : Nat} (hd : decode M.2.1 pc = .ok (.putfield idx, 3)) (hl : Cond.fieldLink M.1.cls idx "NumberHeaps$Differencing" "greater" "[I" ∈ Wd) (hs : zSH o = (20, 3)) (ho : o < n) (hini : M.1.name = "<init>") (hdecl : "NumberHeaps$Differencing" = M.1.cls) (hq : pc + 3 = q) (k : Z M B q loc rest n iv (zu rv o 1 (some x)) lv Q) : Z M B pc loc (.ref x :: .ref o :: rest) n iv rv lv Q := Z_putRF (ci := 0) (k0 := 1) (T := TX0) (C := RX0) (N := 3) hd rfl inW0 (by decide) hl hs ho zty0_ok nmX0 rfl hini hdecl rfl (fun _ => rfl) (fun _ => rfl) hq k
theorem g0_2 {M : zM} {B : zB} {pc q : Nat} {loc : List (Option Value)} {rest : List Value} {n : Nat} {iv : zI} {rv : zR} {lv : zJ} {Q : zQ} {o idx : Nat} {r : Nat} (hd : decode M.2.1 pc = .ok (.getfield idx, 3)) (hl : Cond.fieldLink M.1.cls idx "NumberHeaps$Differencing" "lesser" "[I" ∈ Wd) (hs : zSH o = (20, 3)) (ho : o < n) (hr : rv o 2 = some r) (hq : pc + 3 = q) (k : Z M B q loc (.ref r :: rest) n iv rv lv Q) : Z M B pc loc (.ref o :: rest) n iv rv lv Q := Z_getR (ci := 0) (k0 := 2) (T := TX0) (C := RX0) (N := 3) hd rfl inW0 (by decide) hl hs ho rfl hr hq k
theorem pf0_2 {M : zM} {B : zB} {pc q : Nat} {loc : List (Option Value)} {rest : List Value} {n : Nat} {iv : zI} {rv : zR} {lv : zJ} {Q : zQ} {o idx : Nat} {x : Nat} (hd : decode M.2.1 pc = .ok (.putfield idx, 3)) (hl : Cond.fieldLink M.1.cls idx "NumberHeaps$Differencing" "lesser" "[I" ∈ Wd) (hs : zSH o = (20, 3)) (ho : o < n) (hini : M.1.name = "<init>") (hdecl : "NumberHeaps$Differencing" = M.1.cls) (hq : pc + 3 = q) (k : Z M B q loc rest n iv (zu rv o 2 (some x)) lv Q) : Z M B pc loc (.ref x :: .ref o :: rest) n iv rv lv Q := Z_putRF (ci := 0) (k0 := 2) (T := TX0) (C := RX0) (N := 3) hd rfl inW0 (by decide) hl hs ho zty0_ok nmX0 rfl hini hdecl rfl (fun _ => rfl) (fun _ => rfl) hq k
theorem zty1_ok : ∀ k, k < 8 → parseFieldDescriptor (TX1 k).2.2.1 = some (zty 1 k) := tyX1_ok
theorem g1_0 {M : zM} {B : zB} {pc q : Nat} {loc : List (Option Value)} {rest : List Value} {n : Nat} {iv : zI} {rv : zR} {lv : zJ} {Q : zQ} {o idx : Nat} {r : Nat} (hd : decode M.2.1 pc = .ok (.getfield idx, 3)) (hl : Cond.fieldLink M.1.cls idx "NumberHeaps$Filling" "heapOf" "[I" ∈ Wd) (hs : zSH o = (21, 8)) (ho : o < n) (hr : rv o 0 = some r) (hq : pc + 3 = q) (k : Z M B q loc (.ref r :: rest) n iv rv lv Q) : Z M B pc loc (.ref o :: rest) n iv rv lv Q := Z_getR (ci := 1) (k0 := 0) (T := TX1) (C := RX1) (N := 8) hd rfl inW1 (by decide) hl hs ho rfl hr hq k
theorem pf1_0 {M : zM} {B : zB} {pc q : Nat} {loc : List (Option Value)} {rest : List Value} {n : Nat} {iv : zI} {rv : zR} {lv : zJ} {Q : zQ} {o idx : Nat} {x : Nat} (hd : decode M.2.1 pc = .ok (.putfield idx, 3)) (hl : Cond.fieldLink M.1.cls idx "NumberHeaps$Filling" "heapOf" "[I" ∈ Wd) (hs : zSH o = (21, 8)) (ho : o < n) (hini : M.1.name = "<init>") (hdecl : "NumberHeaps$Filling" = M.1.cls) (hq : pc + 3 = q) (k : Z M B q loc rest n iv (zu rv o 0 (some x)) lv Q) : Z M B pc loc (.ref x :: .ref o :: rest) n iv rv lv Q := Z_putRF (ci := 1) (k0 := 0) (T := TX1) (C := RX1) (N := 8) hd rfl inW1 (by decide) hl hs ho zty1_ok nmX1 rfl hini hdecl rfl (fun _ => rfl) (fun _ => rfl) hq k
theorem g1_1 {M : zM} {B : zB} {pc q : Nat} {loc : List (Option Value)} {rest : List Value} {n : Nat} {iv : zI} {rv : zR} {lv : zJ} {Q : zQ} {o idx : Nat} (hd : decode M.2.1 pc = .ok (.getfield idx, 3)) (hl : Cond.fieldLink M.1.cls idx "NumberHeaps$Filling" "changes" "I" ∈ Wd) (hs : zSH o = (21, 8)) (ho : o < n) (hq : pc + 3 = q) (k : Z M B q loc (.int (iv o 1) :: rest) n iv rv lv Q) : Z M B pc loc (.ref o :: rest) n iv rv lv Q := Z_getI (ci := 1) (k0 := 1) (T := TX1) (C := RX1) (N := 8) hd rfl inW1 (by decide) hl hs ho rfl hq k
theorem p1_1 {M : zM} {B : zB} {pc q : Nat} {loc : List (Option Value)} {rest : List Value} {n : Nat} {iv : zI} {rv : zR} {lv : zJ} {Q : zQ} {o idx : Nat} {x : Int32} (hd : decode M.2.1 pc = .ok (.putfield idx, 3)) (hl : Cond.fieldLink M.1.cls idx "NumberHeaps$Filling" "changes" "I" ∈ Wd) (hs : zSH o = (21, 8)) (ho : o < n) (hq : pc + 3 = q) (k : Z M B q loc rest n (zu iv o 1 x) rv lv Q) : Z M B pc loc (.int x :: .ref o :: rest) n iv rv lv Q := Z_putI (ci := 1) (k0 := 1) (T := TX1) (C := RX1) (N := 8) hd rfl inW1 (by decide) hl hs ho zty1_ok nmX1 rfl rfl (fun _ => rfl) (fun _ => rfl) hq k
theorem g1_2 {M : zM} {B : zB} {pc q : Nat} {loc : List (Option Value)} {rest : List Value} {n : Nat} {iv : zI} {rv : zR} {lv : zJ} {Q : zQ} {o idx : Nat} {r : Nat} (hd : decode M.2.1 pc = .ok (.getfield idx, 3)) (hl : Cond.fieldLink M.1.cls idx "NumberHeaps$Filling" "heapSums" "[I" ∈ Wd) (hs : zSH o = (21, 8)) (ho : o < n) (hr : rv o 2 = some r) (hq : pc + 3 = q) (k : Z M B q loc (.ref r :: rest) n iv rv lv Q) : Z M B pc loc (.ref o :: rest) n iv rv lv Q := Z_getR (ci := 1) (k0 := 2) (T := TX1) (C := RX1) (N := 8) hd rfl inW1 (by decide) hl hs ho rfl hr hq k
theorem pf1_2 {M : zM} {B : zB} {pc q : Nat} {loc : List (Option Value)} {rest : List Value} {n : Nat} {iv : zI} {rv : zR} {lv : zJ} {Q : zQ} {o idx : Nat} {x : Nat} (hd : decode M.2.1 pc = .ok (.putfield idx, 3)) (hl : Cond.fieldLink M.1.cls idx "NumberHeaps$Filling" "heapSums" "[I" ∈ Wd) (hs : zSH o = (21, 8)) (ho : o < n) (hini : M.1.name = "<init>") (hdecl : "NumberHeaps$Filling" = M.1.cls) (hq : pc + 3 = q) (k : Z M B q loc rest n iv (zu rv o 2 (some x)) lv Q) : Z M B pc loc (.ref x :: .ref o :: rest) n iv rv lv Q := Z_putRF (ci := 1) (k0 := 2) (T := TX1) (C := RX1) (N := 8) hd rfl inW1 (by decide) hl hs ho zty1_ok nmX1 rfl hini hdecl rfl (fun _ => rfl) (fun _ => rfl) hq k
theorem g1_3 {M : zM} {B : zB} {pc q : Nat} {loc : List (Option Value)} {rest : List Value} {n : Nat} {iv : zI} {rv : zR} {lv : zJ} {Q : zQ} {o idx : Nat} (hd : decode M.2.1 pc = .ok (.getfield idx, 3)) (hl : Cond.fieldLink M.1.cls idx "NumberHeaps$Filling" "k" "I" ∈ Wd) (hs : zSH o = (21, 8)) (ho : o < n) (hq : pc + 3 = q) (k : Z M B q loc (.int (iv o 3) :: rest) n iv rv lv Q) : Z M B pc loc (.ref o :: rest) n iv rv lv Q := Z_getI (ci := 1) (k0 := 3) (T := TX1) (C := RX1) (N := 8) hd rfl inW1 (by decide) hl hs ho rfl hq k
theorem p1_3 {M : zM} {B : zB} {pc q : Nat} {loc : List (Option Value)} {rest : List Value} {n : Nat} {iv : zI} {rv : zR} {lv : zJ} {Q : zQ} {o idx : Nat} {x : Int32} (hd : decode M.2.1 pc = .ok (.putfield idx, 3)) (hl : Cond.fieldLink M.1.cls idx "NumberHeaps$Filling" "k" "I" ∈ Wd) (hs : zSH o = (21, 8)) (ho : o < n) (hq : pc + 3 = q) (k : Z M B q loc rest n (zu iv o 3 x) rv lv Q) : Z M B pc loc (.int x :: .ref o :: rest) n iv rv lv Q := Z_putI (ci := 1) (k0 := 3) (T := TX1) (C := RX1) (N := 8) hd rfl inW1 (by decide) hl hs ho zty1_ok nmX1 rfl rfl (fun _ => rfl) (fun _ => rfl) hq k
theorem g1_4 {M : zM} {B : zB} {pc q : Nat} {loc : List (Option Value)} {rest : List Value} {n : Nat} {iv : zI} {rv : zR} {lv : zJ} {Q : zQ} {o idx : Nat} (hd : decode M.2.1 pc = .ok (.getfield idx, 3)) (hl : Cond.fieldLink M.1.cls idx "NumberHeaps$Filling" "bestSpread" "I" ∈ Wd) (hs : zSH o = (21, 8)) (ho : o < n) (hq : pc + 3 = q) (k : Z M B q loc (.int (iv o 4) :: rest) n iv rv lv Q) : Z M B pc loc (.ref o :: rest) n iv rv lv Q := Z_getI (ci := 1) (k0 := 4) (T := TX1) (C := RX1) (N := 8) hd rfl inW1 (by decide) hl hs ho rfl hq k
theorem p1_4 {M : zM} {B : zB} {pc q : Nat} {loc : List (Option Value)} {rest : List Value} {n : Nat} {iv : zI} {rv : zR} {lv : zJ} {Q : zQ} {o idx : Nat} {x : Int32} (hd : decode M.2.1 pc = .ok (.putfield idx, 3)) (hl : Cond.fieldLink M.1.cls idx "NumberHeaps$Filling" "bestSpread" "I" ∈ Wd) (hs : zSH o = (21, 8)) (ho : o < n) (hq : pc + 3 = q) (k : Z M B q loc rest n (zu iv o 4 x) rv lv Q) : Z M B pc loc (.int x :: .ref o :: rest) n iv rv lv Q := Z_putI (ci := 1) (k0 := 4) (T := TX1) (C := RX1) (N := 8) hd rfl inW1 (by decide) hl hs ho zty1_ok nmX1 rfl rfl (fun _ => rfl) (fun _ => rfl) hq k
theorem g1_5 {M : zM} {B : zB} {pc q : Nat} {loc : List (Option Value)} {rest : List Value} {n : Nat} {iv : zI} {rv : zR} {lv : zJ} {Q : zQ} {o idx : Nat} (hd : decode M.2.1 pc = .ok (.getfield idx, 3)) (hl : Cond.fieldLink M.1.cls idx "NumberHeaps$Filling" "bestNumber" "I" ∈ Wd) (hs : zSH o = (21, 8)) (ho : o < n) (hq : pc + 3 = q) (k : Z M B q loc (.int (iv o 5) :: rest) n iv rv lv Q) : Z M B pc loc (.ref o :: rest) n iv rv lv Q := Z_getI (ci := 1) (k0 := 5) (T := TX1) (C := RX1) (N := 8) hd rfl inW1 (by decide) hl hs ho rfl hq k
theorem p1_5 {M : zM} {B : zB} {pc q : Nat} {loc : List (Option Value)} {rest : List Value} {n : Nat} {iv : zI} {rv : zR} {lv : zJ} {Q : zQ} {o idx : Nat} {x : Int32} (hd : decode M.2.1 pc = .ok (.putfield idx, 3)) (hl : Cond.fieldLink M.1.cls idx "NumberHeaps$Filling" "bestNumber" "I" ∈ Wd) (hs : zSH o = (21, 8)) (ho : o < n) (hq : pc + 3 = q) (k : Z M B q loc rest n (zu iv o 5 x) rv lv Q) : Z M B pc loc (.int x :: .ref o :: rest) n iv rv lv Q := Z_putI (ci := 1) (k0 := 5) (T := TX1) (C := RX1) (N := 8) hd rfl inW1 (by decide) hl hs ho zty1_ok nmX1 rfl rfl (fun _ => rfl) (fun _ => rfl) hq k
theorem g1_6 {M : zM} {B : zB} {pc q : Nat} {loc : List (Option Value)} {rest : List Value} {n : Nat} {iv : zI} {rv : zR} {lv : zJ} {Q : zQ} {o idx : Nat} (hd : decode M.2.1 pc = .ok (.getfield idx, 3)) (hl : Cond.fieldLink M.1.cls idx "NumberHeaps$Filling" "bestHeap" "I" ∈ Wd) (hs : zSH o = (21, 8)) (ho : o < n) (hq : pc + 3 = q) (k : Z M B q loc (.int (iv o 6) :: rest) n iv rv lv Q) : Z M B pc loc (.ref o :: rest) n iv rv lv Q := Z_getI (ci := 1) (k0 := 6) (T := TX1) (C := RX1) (N := 8) hd rfl inW1 (by decide) hl hs ho rfl hq k
theorem p1_6 {M : zM} {B : zB} {pc q : Nat} {loc : List (Option Value)} {rest : List Value} {n : Nat} {iv : zI} {rv : zR} {lv : zJ} {Q : zQ} {o idx : Nat} {x : Int32} (hd : decode M.2.1 pc = .ok (.putfield idx, 3)) (hl : Cond.fieldLink M.1.cls idx "NumberHeaps$Filling" "bestHeap" "I" ∈ Wd) (hs : zSH o = (21, 8)) (ho : o < n) (hq : pc + 3 = q) (k : Z M B q loc rest n (zu iv o 6 x) rv lv Q) : Z M B pc loc (.int x :: .ref o :: rest) n iv rv lv Q := Z_putI (ci := 1) (k0 := 6) (T := TX1) (C := RX1) (N := 8) hd rfl inW1 (by decide) hl hs ho zty1_ok nmX1 rfl rfl (fun _ => rfl) (fun _ => rfl) hq k
theorem g1_7 {M : zM} {B : zB} {pc q : Nat} {loc : List (Option Value)} {rest : List Value} {n : Nat} {iv : zI} {rv : zR} {lv : zJ} {Q : zQ} {o idx : Nat} (hd : decode M.2.1 pc = .ok (.getfield idx, 3)) (hl : Cond.fieldLink M.1.cls idx "NumberHeaps$Filling" "bestOther" "I" ∈ Wd) (hs : zSH o = (21, 8)) (ho : o < n) (hq : pc + 3 = q) (k : Z M B q loc (.int (iv o 7) :: rest) n iv rv lv Q) : Z M B pc loc (.ref o :: rest) n iv rv lv Q := Z_getI (ci := 1) (k0 := 7) (T := TX1) (C := RX1) (N := 8) hd rfl inW1 (by decide) hl hs ho rfl hq k
theorem p1_7 {M : zM} {B : zB} {pc q : Nat} {loc : List (Option Value)} {rest : List Value} {n : Nat} {iv : zI} {rv : zR} {lv : zJ} {Q : zQ} {o idx : Nat} {x : Int32} (hd : decode M.2.1 pc = .ok (.putfield idx, 3)) (hl : Cond.fieldLink M.1.cls idx "NumberHeaps$Filling" "bestOther" "I" ∈ Wd) (hs : zSH o = (21, 8)) (ho : o < n) (hq : pc + 3 = q) (k : Z M B q loc rest n (zu iv o 7 x) rv lv Q) : Z M B pc loc (.int x :: .ref o :: rest) n iv rv lv Q := Z_putI (ci := 1) (k0 := 7) (T := TX1) (C := RX1) (N := 8) hd rfl inW1 (by decide) hl hs ho zty1_ok nmX1 rfl rfl (fun _ => rfl) (fun _ => rfl) hq k
theorem zty2_ok : ∀ k, k < 4 → parseFieldDescriptor (TX2 k).2.2.1 = some (zty 2 k) := tyX2_ok
theorem g2_0 {M : zM} {B : zB} {pc q : Nat} {loc : List (Option Value)} {rest : List Value} {n : Nat} {iv : zI} {rv : zR} {lv : zJ} {Q : zQ} {o idx : Nat} {r : Nat} (hd : decode M.2.1 pc = .ok (.getfield idx, 3)) (hl : Cond.fieldLink M.1.cls idx "NumberHeaps$History" "past" "[LNumberHeaps$State;" ∈ Wd) (hs : zSH o = (22, 4)) (ho : o < n) (hr : rv o 0 = some r) (hq : pc + 3 = q) (k : Z M B q loc (.ref r :: rest) n iv rv lv Q) : Z M B pc loc (.ref o :: rest) n iv rv lv Q := Z_getR (ci := 2) (k0 := 0) (T := TX2) (C := RX2) (N := 4) hd rfl inW2 (by decide) hl hs ho rfl hr hq k
theorem pf2_0 {M : zM} {B : zB} {pc q : Nat} {loc : List (Option Value)} {rest : List Value} {n : Nat} {iv : zI} {rv : zR} {lv : zJ} {Q : zQ} {o idx : Nat} {x : Nat} (hd : decode M.2.1 pc = .ok (.putfield idx, 3)) (hl : Cond.fieldLink M.1.cls idx "NumberHeaps$History" "past" "[LNumberHeaps$State;" ∈ Wd) (hs : zSH o = (22, 4)) (ho : o < n) (hini : M.1.name = "<init>") (hdecl : "NumberHeaps$History" = M.1.cls) (hq : pc + 3 = q) (k : Z M B q loc rest n iv (zu rv o 0 (some x)) lv Q) : Z M B pc loc (.ref x :: .ref o :: rest) n iv rv lv Q := Z_putRF (ci := 2) (k0 := 0) (T := TX2) (C := RX2) (N := 4) hd rfl inW2 (by decide) hl hs ho zty2_ok nmX2 rfl hini hdecl rfl (fun _ => rfl) (fun _ => rfl) hq k
theorem g2_1 {M : zM} {B : zB} {pc q : Nat} {loc : List (Option Value)} {rest : List Value} {n : Nat} {iv : zI} {rv : zR} {lv : zJ} {Q : zQ} {o idx : Nat} (hd : decode M.2.1 pc = .ok (.getfield idx, 3)) (hl : Cond.fieldLink M.1.cls idx "NumberHeaps$History" "next" "I" ∈ Wd) (hs : zSH o = (22, 4)) (ho : o < n) (hq : pc + 3 = q) (k : Z M B q loc (.int (iv o 1) :: rest) n iv rv lv Q) : Z M B pc loc (.ref o :: rest) n iv rv lv Q := Z_getI (ci := 2) (k0 := 1) (T := TX2) (C := RX2) (N := 4) hd rfl inW2 (by decide) hl hs ho rfl hq k
theorem p2_1 {M : zM} {B : zB} {pc q : Nat} {loc : List (Option Value)} {rest : List Value} {n : Nat} {iv : zI} {rv : zR} {lv : zJ} {Q : zQ} {o idx : Nat} {x : Int32} (hd : decode M.2.1 pc = .ok (.putfield idx, 3)) (hl : Cond.fieldLink M.1.cls idx "NumberHeaps$History" "next" "I" ∈ Wd) (hs : zSH o = (22, 4)) (ho : o < n) (hq : pc + 3 = q) (k : Z M B q loc rest n (zu iv o 1 x) rv lv Q) : Z M B pc loc (.int x :: .ref o :: rest) n iv rv lv Q := Z_putI (ci := 2) (k0 := 1) (T := TX2) (C := RX2) (N := 4) hd rfl inW2 (by decide) hl hs ho zty2_ok nmX2 rfl rfl (fun _ => rfl) (fun _ => rfl) hq k
theorem g2_2 {M : zM} {B : zB} {pc q : Nat} {loc : List (Option Value)} {rest : List Value} {n : Nat} {iv : zI} {rv : zR} {lv : zJ} {Q : zQ} {o idx : Nat} (hd : decode M.2.1 pc = .ok (.getfield idx, 3)) (hl : Cond.fieldLink M.1.cls idx "NumberHeaps$History" "acts" "I" ∈ Wd) (hs : zSH o = (22, 4)) (ho : o < n) (hq : pc + 3 = q) (k : Z M B q loc (.int (iv o 2) :: rest) n iv rv lv Q) : Z M B pc loc (.ref o :: rest) n iv rv lv Q := Z_getI (ci := 2) (k0 := 2) (T := TX2) (C := RX2) (N := 4) hd rfl inW2 (by decide) hl hs ho rfl hq k
theorem p2_2 {M : zM} {B : zB} {pc q : Nat} {loc : List (Option Value)} {rest : List Value} {n : Nat} {iv : zI} {rv : zR} {lv : zJ} {Q : zQ} {o idx : Nat} {x : Int32} (hd : decode M.2.1 pc = .ok (.putfield idx, 3)) (hl : Cond.fieldLink M.1.cls idx "NumberHeaps$History" "acts" "I" ∈ Wd) (hs : zSH o = (22, 4)) (ho : o < n) (hq : pc + 3 = q) (k : Z M B q loc rest n (zu iv o 2 x) rv lv Q) : Z M B pc loc (.int x :: .ref o :: rest) n iv rv lv Q := Z_putI (ci := 2) (k0 := 2) (T := TX2) (C := RX2) (N := 4) hd rfl inW2 (by decide) hl hs ho zty2_ok nmX2 rfl rfl (fun _ => rfl) (fun _ => rfl) hq k
theorem g2_3 {M : zM} {B : zB} {pc q : Nat} {loc : List (Option Value)} {rest : List Value} {n : Nat} {iv : zI} {rv : zR} {lv : zJ} {Q : zQ} {o idx : Nat} {r : Nat} (hd : decode M.2.1 pc = .ok (.getfield idx, 3)) (hl : Cond.fieldLink M.1.cls idx "NumberHeaps$History" "images" "[LNumberHeaps$State;" ∈ Wd) (hs : zSH o = (22, 4)) (ho : o < n) (hr : rv o 3 = some r) (hq : pc + 3 = q) (k : Z M B q loc (.ref r :: rest) n iv rv lv Q) : Z M B pc loc (.ref o :: rest) n iv rv lv Q := Z_getR (ci := 2) (k0 := 3) (T := TX2) (C := RX2) (N := 4) hd rfl inW2 (by decide) hl hs ho rfl hr hq k
theorem pf2_3 {M : zM} {B : zB} {pc q : Nat} {loc : List (Option Value)} {rest : List Value} {n : Nat} {iv : zI} {rv : zR} {lv : zJ} {Q : zQ} {o idx : Nat} {x : Nat} (hd : decode M.2.1 pc = .ok (.putfield idx, 3)) (hl : Cond.fieldLink M.1.cls idx "NumberHeaps$History" "images" "[LNumberHeaps$State;" ∈ Wd) (hs : zSH o = (22, 4)) (ho : o < n) (hini : M.1.name = "<init>") (hdecl : "NumberHeaps$History" = M.1.cls) (hq : pc + 3 = q) (k : Z M B q loc rest n iv (zu rv o 3 (some x)) lv Q) : Z M B pc loc (.ref x :: .ref o :: rest) n iv rv lv Q := Z_putRF (ci := 2) (k0 := 3) (T := TX2) (C := RX2) (N := 4) hd rfl inW2 (by decide) hl hs ho zty2_ok nmX2 rfl hini hdecl rfl (fun _ => rfl) (fun _ => rfl) hq k
theorem zty3_ok : ∀ k, k < 4 → parseFieldDescriptor (TX3 k).2.2.1 = some (zty 3 k) := tyX3_ok
theorem g3_0 {M : zM} {B : zB} {pc q : Nat} {loc : List (Option Value)} {rest : List Value} {n : Nat} {iv : zI} {rv : zR} {lv : zJ} {Q : zQ} {o idx : Nat} (hd : decode M.2.1 pc = .ok (.getfield idx, 3)) (hl : Cond.fieldLink M.1.cls idx "NumberHeaps$ItemRow" "count" "I" ∈ Wd) (hs : zSH o = (23, 4)) (ho : o < n) (hq : pc + 3 = q) (k : Z M B q loc (.int (iv o 0) :: rest) n iv rv lv Q) : Z M B pc loc (.ref o :: rest) n iv rv lv Q := Z_getI (ci := 3) (k0 := 0) (T := TX3) (C := RX3) (N := 4) hd rfl inW3 (by decide) hl hs ho rfl hq k
theorem p3_0 {M : zM} {B : zB} {pc q : Nat} {loc : List (Option Value)} {rest : List Value} {n : Nat} {iv : zI} {rv : zR} {lv : zJ} {Q : zQ} {o idx : Nat} {x : Int32} (hd : decode M.2.1 pc = .ok (.putfield idx, 3)) (hl : Cond.fieldLink M.1.cls idx "NumberHeaps$ItemRow" "count" "I" ∈ Wd) (hs : zSH o = (23, 4)) (ho : o < n) (hq : pc + 3 = q) (k : Z M B q loc rest n (zu iv o 0 x) rv lv Q) : Z M B pc loc (.int x :: .ref o :: rest) n iv rv lv Q := Z_putI (ci := 3) (k0 := 0) (T := TX3) (C := RX3) (N := 4) hd rfl inW3 (by decide) hl hs ho zty3_ok nmX3 rfl rfl (fun _ => rfl) (fun _ => rfl) hq k
theorem g3_1 {M : zM} {B : zB} {pc q : Nat} {loc : List (Option Value)} {rest : List Value} {n : Nat} {iv : zI} {rv : zR} {lv : zJ} {Q : zQ} {o idx : Nat} {r : Nat} (hd : decode M.2.1 pc = .ok (.getfield idx, 3)) (hl : Cond.fieldLink M.1.cls idx "NumberHeaps$ItemRow" "values" "[I" ∈ Wd) (hs : zSH o = (23, 4)) (ho : o < n) (hr : rv o 1 = some r) (hq : pc + 3 = q) (k : Z M B q loc (.ref r :: rest) n iv rv lv Q) : Z M B pc loc (.ref o :: rest) n iv rv lv Q := Z_getR (ci := 3) (k0 := 1) (T := TX3) (C := RX3) (N := 4) hd rfl inW3 (by decide) hl hs ho rfl hr hq k
theorem pf3_1 {M : zM} {B : zB} {pc q : Nat} {loc : List (Option Value)} {rest : List Value} {n : Nat} {iv : zI} {rv : zR} {lv : zJ} {Q : zQ} {o idx : Nat} {x : Nat} (hd : decode M.2.1 pc = .ok (.putfield idx, 3)) (hl : Cond.fieldLink M.1.cls idx "NumberHeaps$ItemRow" "values" "[I" ∈ Wd) (hs : zSH o = (23, 4)) (ho : o < n) (hini : M.1.name = "<init>") (hdecl : "NumberHeaps$ItemRow" = M.1.cls) (hq : pc + 3 = q) (k : Z M B q loc rest n iv (zu rv o 1 (some x)) lv Q) : Z M B pc loc (.ref x :: .ref o :: rest) n iv rv lv Q := Z_putRF (ci := 3) (k0 := 1) (T := TX3) (C := RX3) (N := 4) hd rfl inW3 (by decide) hl hs ho zty3_ok nmX3 rfl hini hdecl rfl (fun _ => rfl) (fun _ => rfl) hq k
theorem g3_2 {M : zM} {B : zB} {pc q : Nat} {loc : List (Option Value)} {rest : List Value} {n : Nat} {iv : zI} {rv : zR} {lv : zJ} {Q : zQ} {o idx : Nat} {r : Nat} (hd : decode M.2.1 pc = .ok (.getfield idx, 3)) (hl : Cond.fieldLink M.1.cls idx "NumberHeaps$ItemRow" "firsts" "[I" ∈ Wd) (hs : zSH o = (23, 4)) (ho : o < n) (hr : rv o 2 = some r) (hq : pc + 3 = q) (k : Z M B q loc (.ref r :: rest) n iv rv lv Q) : Z M B pc loc (.ref o :: rest) n iv rv lv Q := Z_getR (ci := 3) (k0 := 2) (T := TX3) (C := RX3) (N := 4) hd rfl inW3 (by decide) hl hs ho rfl hr hq k
theorem pf3_2 {M : zM} {B : zB} {pc q : Nat} {loc : List (Option Value)} {rest : List Value} {n : Nat} {iv : zI} {rv : zR} {lv : zJ} {Q : zQ} {o idx : Nat} {x : Nat} (hd : decode M.2.1 pc = .ok (.putfield idx, 3)) (hl : Cond.fieldLink M.1.cls idx "NumberHeaps$ItemRow" "firsts" "[I" ∈ Wd) (hs : zSH o = (23, 4)) (ho : o < n) (hini : M.1.name = "<init>") (hdecl : "NumberHeaps$ItemRow" = M.1.cls) (hq : pc + 3 = q) (k : Z M B q loc rest n iv (zu rv o 2 (some x)) lv Q) : Z M B pc loc (.ref x :: .ref o :: rest) n iv rv lv Q := Z_putRF (ci := 3) (k0 := 2) (T := TX3) (C := RX3) (N := 4) hd rfl inW3 (by decide) hl hs ho zty3_ok nmX3 rfl hini hdecl rfl (fun _ => rfl) (fun _ => rfl) hq k
theorem g3_3 {M : zM} {B : zB} {pc q : Nat} {loc : List (Option Value)} {rest : List Value} {n : Nat} {iv : zI} {rv : zR} {lv : zJ} {Q : zQ} {o idx : Nat} {r : Nat} (hd : decode M.2.1 pc = .ok (.getfield idx, 3)) (hl : Cond.fieldLink M.1.cls idx "NumberHeaps$ItemRow" "seconds" "[I" ∈ Wd) (hs : zSH o = (23, 4)) (ho : o < n) (hr : rv o 3 = some r) (hq : pc + 3 = q) (k : Z M B q loc (.ref r :: rest) n iv rv lv Q) : Z M B pc loc (.ref o :: rest) n iv rv lv Q := Z_getR (ci := 3) (k0 := 3) (T := TX3) (C := RX3) (N := 4) hd rfl inW3 (by decide) hl hs ho rfl hr hq k
theorem pf3_3 {M : zM} {B : zB} {pc q : Nat} {loc : List (Option Value)} {rest : List Value} {n : Nat} {iv : zI} {rv : zR} {lv : zJ} {Q : zQ} {o idx : Nat} {x : Nat} (hd : decode M.2.1 pc = .ok (.putfield idx, 3)) (hl : Cond.fieldLink M.1.cls idx "NumberHeaps$ItemRow" "seconds" "[I" ∈ Wd) (hs : zSH o = (23, 4)) (ho : o < n) (hini : M.1.name = "<init>") (hdecl : "NumberHeaps$ItemRow" = M.1.cls) (hq : pc + 3 = q) (k : Z M B q loc rest n iv (zu rv o 3 (some x)) lv Q) : Z M B pc loc (.ref x :: .ref o :: rest) n iv rv lv Q := Z_putRF (ci := 3) (k0 := 3) (T := TX3) (C := RX3) (N := 4) hd rfl inW3 (by decide) hl hs ho zty3_ok nmX3 rfl hini hdecl rfl (fun _ => rfl) (fun _ => rfl) hq k
theorem zty4_ok : ∀ k, k < 6 → parseFieldDescriptor (TX4 k).2.2.1 = some (zty 4 k) := tyX4_ok
theorem g4_0 {M : zM} {B : zB} {pc q : Nat} {loc : List (Option Value)} {rest : List Value} {n : Nat} {iv : zI} {rv : zR} {lv : zJ} {Q : zQ} {o idx : Nat} {r : Nat} (hd : decode M.2.1 pc = .ok (.getfield idx, 3)) (hl : Cond.fieldLink M.1.cls idx "NumberHeaps$Multi" "values" "[[I" ∈ Wd) (hs : zSH o = (24, 6)) (ho : o < n) (hr : rv o 0 = some r) (hq : pc + 3 = q) (k : Z M B q loc (.ref r :: rest) n iv rv lv Q) : Z M B pc loc (.ref o :: rest) n iv rv lv Q := Z_getR (ci := 4) (k0 := 0) (T := TX4) (C := RX4) (N := 6) hd rfl inW4 (by decide) hl hs ho rfl hr hq k
theorem pf4_0 {M : zM} {B : zB} {pc q : Nat} {loc : List (Option Value)} {rest : List Value} {n : Nat} {iv : zI} {rv : zR} {lv : zJ} {Q : zQ} {o idx : Nat} {x : Nat} (hd : decode M.2.1 pc = .ok (.putfield idx, 3)) (hl : Cond.fieldLink M.1.cls idx "NumberHeaps$Multi" "values" "[[I" ∈ Wd) (hs : zSH o = (24, 6)) (ho : o < n) (hini : M.1.name = "<init>") (hdecl : "NumberHeaps$Multi" = M.1.cls) (hq : pc + 3 = q) (k : Z M B q loc rest n iv (zu rv o 0 (some x)) lv Q) : Z M B pc loc (.ref x :: .ref o :: rest) n iv rv lv Q := Z_putRF (ci := 4) (k0 := 0) (T := TX4) (C := RX4) (N := 6) hd rfl inW4 (by decide) hl hs ho zty4_ok nmX4 rfl hini hdecl rfl (fun _ => rfl) (fun _ => rfl) hq k
theorem g4_1 {M : zM} {B : zB} {pc q : Nat} {loc : List (Option Value)} {rest : List Value} {n : Nat} {iv : zI} {rv : zR} {lv : zJ} {Q : zQ} {o idx : Nat} {r : Nat} (hd : decode M.2.1 pc = .ok (.getfield idx, 3)) (hl : Cond.fieldLink M.1.cls idx "NumberHeaps$Multi" "members" "[[I" ∈ Wd) (hs : zSH o = (24, 6)) (ho : o < n) (hr : rv o 1 = some r) (hq : pc + 3 = q) (k : Z M B q loc (.ref r :: rest) n iv rv lv Q) : Z M B pc loc (.ref o :: rest) n iv rv lv Q := Z_getR (ci := 4) (k0 := 1) (T := TX4) (C := RX4) (N := 6) hd rfl inW4 (by decide) hl hs ho rfl hr hq k
theorem pf4_1 {M : zM} {B : zB} {pc q : Nat} {loc : List (Option Value)} {rest : List Value} {n : Nat} {iv : zI} {rv : zR} {lv : zJ} {Q : zQ} {o idx : Nat} {x : Nat} (hd : decode M.2.1 pc = .ok (.putfield idx, 3)) (hl : Cond.fieldLink M.1.cls idx "NumberHeaps$Multi" "members" "[[I" ∈ Wd) (hs : zSH o = (24, 6)) (ho : o < n) (hini : M.1.name = "<init>") (hdecl : "NumberHeaps$Multi" = M.1.cls) (hq : pc + 3 = q) (k : Z M B q loc rest n iv (zu rv o 1 (some x)) lv Q) : Z M B pc loc (.ref x :: .ref o :: rest) n iv rv lv Q := Z_putRF (ci := 4) (k0 := 1) (T := TX4) (C := RX4) (N := 6) hd rfl inW4 (by decide) hl hs ho zty4_ok nmX4 rfl hini hdecl rfl (fun _ => rfl) (fun _ => rfl) hq k
theorem g4_2 {M : zM} {B : zB} {pc q : Nat} {loc : List (Option Value)} {rest : List Value} {n : Nat} {iv : zI} {rv : zR} {lv : zJ} {Q : zQ} {o idx : Nat} {r : Nat} (hd : decode M.2.1 pc = .ok (.getfield idx, 3)) (hl : Cond.fieldLink M.1.cls idx "NumberHeaps$Multi" "gone" "[Z" ∈ Wd) (hs : zSH o = (24, 6)) (ho : o < n) (hr : rv o 2 = some r) (hq : pc + 3 = q) (k : Z M B q loc (.ref r :: rest) n iv rv lv Q) : Z M B pc loc (.ref o :: rest) n iv rv lv Q := Z_getR (ci := 4) (k0 := 2) (T := TX4) (C := RX4) (N := 6) hd rfl inW4 (by decide) hl hs ho rfl hr hq k
theorem pf4_2 {M : zM} {B : zB} {pc q : Nat} {loc : List (Option Value)} {rest : List Value} {n : Nat} {iv : zI} {rv : zR} {lv : zJ} {Q : zQ} {o idx : Nat} {x : Nat} (hd : decode M.2.1 pc = .ok (.putfield idx, 3)) (hl : Cond.fieldLink M.1.cls idx "NumberHeaps$Multi" "gone" "[Z" ∈ Wd) (hs : zSH o = (24, 6)) (ho : o < n) (hini : M.1.name = "<init>") (hdecl : "NumberHeaps$Multi" = M.1.cls) (hq : pc + 3 = q) (k : Z M B q loc rest n iv (zu rv o 2 (some x)) lv Q) : Z M B pc loc (.ref x :: .ref o :: rest) n iv rv lv Q := Z_putRF (ci := 4) (k0 := 2) (T := TX4) (C := RX4) (N := 6) hd rfl inW4 (by decide) hl hs ho zty4_ok nmX4 rfl hini hdecl rfl (fun _ => rfl) (fun _ => rfl) hq k
theorem g4_3 {M : zM} {B : zB} {pc q : Nat} {loc : List (Option Value)} {rest : List Value} {n : Nat} {iv : zI} {rv : zR} {lv : zJ} {Q : zQ} {o idx : Nat} (hd : decode M.2.1 pc = .ok (.getfield idx, 3)) (hl : Cond.fieldLink M.1.cls idx "NumberHeaps$Multi" "items" "I" ∈ Wd) (hs : zSH o = (24, 6)) (ho : o < n) (hq : pc + 3 = q) (k : Z M B q loc (.int (iv o 3) :: rest) n iv rv lv Q) : Z M B pc loc (.ref o :: rest) n iv rv lv Q := Z_getI (ci := 4) (k0 := 3) (T := TX4) (C := RX4) (N := 6) hd rfl inW4 (by decide) hl hs ho rfl hq k
theorem p4_3 {M : zM} {B : zB} {pc q : Nat} {loc : List (Option Value)} {rest : List Value} {n : Nat} {iv : zI} {rv : zR} {lv : zJ} {Q : zQ} {o idx : Nat} {x : Int32} (hd : decode M.2.1 pc = .ok (.putfield idx, 3)) (hl : Cond.fieldLink M.1.cls idx "NumberHeaps$Multi" "items" "I" ∈ Wd) (hs : zSH o = (24, 6)) (ho : o < n) (hq : pc + 3 = q) (k : Z M B q loc rest n (zu iv o 3 x) rv lv Q) : Z M B pc loc (.int x :: .ref o :: rest) n iv rv lv Q := Z_putI (ci := 4) (k0 := 3) (T := TX4) (C := RX4) (N := 6) hd rfl inW4 (by decide) hl hs ho zty4_ok nmX4 rfl rfl (fun _ => rfl) (fun _ => rfl) hq k
theorem g4_4 {M : zM} {B : zB} {pc q : Nat} {loc : List (Option Value)} {rest : List Value} {n : Nat} {iv : zI} {rv : zR} {lv : zJ} {Q : zQ} {o idx : Nat} (hd : decode M.2.1 pc = .ok (.getfield idx, 3)) (hl : Cond.fieldLink M.1.cls idx "NumberHeaps$Multi" "k" "I" ∈ Wd) (hs : zSH o = (24, 6)) (ho : o < n) (hq : pc + 3 = q) (k : Z M B q loc (.int (iv o 4) :: rest) n iv rv lv Q) : Z M B pc loc (.ref o :: rest) n iv rv lv Q := Z_getI (ci := 4) (k0 := 4) (T := TX4) (C := RX4) (N := 6) hd rfl inW4 (by decide) hl hs ho rfl hq k
theorem p4_4 {M : zM} {B : zB} {pc q : Nat} {loc : List (Option Value)} {rest : List Value} {n : Nat} {iv : zI} {rv : zR} {lv : zJ} {Q : zQ} {o idx : Nat} {x : Int32} (hd : decode M.2.1 pc = .ok (.putfield idx, 3)) (hl : Cond.fieldLink M.1.cls idx "NumberHeaps$Multi" "k" "I" ∈ Wd) (hs : zSH o = (24, 6)) (ho : o < n) (hq : pc + 3 = q) (k : Z M B q loc rest n (zu iv o 4 x) rv lv Q) : Z M B pc loc (.int x :: .ref o :: rest) n iv rv lv Q := Z_putI (ci := 4) (k0 := 4) (T := TX4) (C := RX4) (N := 6) hd rfl inW4 (by decide) hl hs ho zty4_ok nmX4 rfl rfl (fun _ => rfl) (fun _ => rfl) hq k
theorem g4_5 {M : zM} {B : zB} {pc q : Nat} {loc : List (Option Value)} {rest : List Value} {n : Nat} {iv : zI} {rv : zR} {lv : zJ} {Q : zQ} {o idx : Nat} (hd : decode M.2.1 pc = .ok (.getfield idx, 3)) (hl : Cond.fieldLink M.1.cls idx "NumberHeaps$Multi" "last" "I" ∈ Wd) (hs : zSH o = (24, 6)) (ho : o < n) (hq : pc + 3 = q) (k : Z M B q loc (.int (iv o 5) :: rest) n iv rv lv Q) : Z M B pc loc (.ref o :: rest) n iv rv lv Q := Z_getI (ci := 4) (k0 := 5) (T := TX4) (C := RX4) (N := 6) hd rfl inW4 (by decide) hl hs ho rfl hq k
theorem p4_5 {M : zM} {B : zB} {pc q : Nat} {loc : List (Option Value)} {rest : List Value} {n : Nat} {iv : zI} {rv : zR} {lv : zJ} {Q : zQ} {o idx : Nat} {x : Int32} (hd : decode M.2.1 pc = .ok (.putfield idx, 3)) (hl : Cond.fieldLink M.1.cls idx "NumberHeaps$Multi" "last" "I" ∈ Wd) (hs : zSH o = (24, 6)) (ho : o < n) (hq : pc + 3 = q) (k : Z M B q loc rest n (zu iv o 5 x) rv lv Q) : Z M B pc loc (.int x :: .ref o :: rest) n iv rv lv Q := Z_putI (ci := 4) (k0 := 5) (T := TX4) (C := RX4) (N := 6) hd rfl inW4 (by decide) hl hs ho zty4_ok nmX4 rfl rfl (fun _ => rfl) (fun _ => rfl) hq k
theorem zty5_ok : ∀ k, k < 13 → parseFieldDescriptor (TX5 k).2.2.1 = some (zty 5 k) := tyX5_ok
theorem g5_0 {M : zM} {B : zB} {pc q : Nat} {loc : List (Option Value)} {rest : List Value} {n : Nat} {iv : zI} {rv : zR} {lv : zJ} {Q : zQ} {o idx : Nat} (hd : decode M.2.1 pc = .ok (.getfield idx, 3)) (hl : Cond.fieldLink M.1.cls idx "NumberHeaps$Partings" "spread" "I" ∈ Wd) (hs : zSH o = (25, 13)) (ho : o < n) (hq : pc + 3 = q) (k : Z M B q loc (.int (iv o 0) :: rest) n iv rv lv Q) : Z M B pc loc (.ref o :: rest) n iv rv lv Q := Z_getI (ci := 5) (k0 := 0) (T := TX5) (C := RX5) (N := 13) hd rfl inW5 (by decide) hl hs ho rfl hq k
theorem p5_0 {M : zM} {B : zB} {pc q : Nat} {loc : List (Option Value)} {rest : List Value} {n : Nat} {iv : zI} {rv : zR} {lv : zJ} {Q : zQ} {o idx : Nat} {x : Int32} (hd : decode M.2.1 pc = .ok (.putfield idx, 3)) (hl : Cond.fieldLink M.1.cls idx "NumberHeaps$Partings" "spread" "I" ∈ Wd) (hs : zSH o = (25, 13)) (ho : o < n) (hq : pc + 3 = q) (k : Z M B q loc rest n (zu iv o 0 x) rv lv Q) : Z M B pc loc (.int x :: .ref o :: rest) n iv rv lv Q := Z_putI (ci := 5) (k0 := 0) (T := TX5) (C := RX5) (N := 13) hd rfl inW5 (by decide) hl hs ho zty5_ok nmX5 rfl rfl (fun _ => rfl) (fun _ => rfl) hq k
theorem g5_1 {M : zM} {B : zB} {pc q : Nat} {loc : List (Option Value)} {rest : List Value} {n : Nat} {iv : zI} {rv : zR} {lv : zJ} {Q : zQ} {o idx : Nat} (hd : decode M.2.1 pc = .ok (.getfield idx, 3)) (hl : Cond.fieldLink M.1.cls idx "NumberHeaps$Partings" "times" "I" ∈ Wd) (hs : zSH o = (25, 13)) (ho : o < n) (hq : pc + 3 = q) (k : Z M B q loc (.int (iv o 1) :: rest) n iv rv lv Q) : Z M B pc loc (.ref o :: rest) n iv rv lv Q := Z_getI (ci := 5) (k0 := 1) (T := TX5) (C := RX5) (N := 13) hd rfl inW5 (by decide) hl hs ho rfl hq k
theorem p5_1 {M : zM} {B : zB} {pc q : Nat} {loc : List (Option Value)} {rest : List Value} {n : Nat} {iv : zI} {rv : zR} {lv : zJ} {Q : zQ} {o idx : Nat} {x : Int32} (hd : decode M.2.1 pc = .ok (.putfield idx, 3)) (hl : Cond.fieldLink M.1.cls idx "NumberHeaps$Partings" "times" "I" ∈ Wd) (hs : zSH o = (25, 13)) (ho : o < n) (hq : pc + 3 = q) (k : Z M B q loc rest n (zu iv o 1 x) rv lv Q) : Z M B pc loc (.int x :: .ref o :: rest) n iv rv lv Q := Z_putI (ci := 5) (k0 := 1) (T := TX5) (C := RX5) (N := 13) hd rfl inW5 (by decide) hl hs ho zty5_ok nmX5 rfl rfl (fun _ => rfl) (fun _ => rfl) hq k
theorem g5_2 {M : zM} {B : zB} {pc q : Nat} {loc : List (Option Value)} {rest : List Value} {n : Nat} {iv : zI} {rv : zR} {lv : zJ} {Q : zQ} {o idx : Nat} (hd : decode M.2.1 pc = .ok (.getfield idx, 3)) (hl : Cond.fieldLink M.1.cls idx "NumberHeaps$Partings" "flattest" "I" ∈ Wd) (hs : zSH o = (25, 13)) (ho : o < n) (hq : pc + 3 = q) (k : Z M B q loc (.int (iv o 2) :: rest) n iv rv lv Q) : Z M B pc loc (.ref o :: rest) n iv rv lv Q := Z_getI (ci := 5) (k0 := 2) (T := TX5) (C := RX5) (N := 13) hd rfl inW5 (by decide) hl hs ho rfl hq k
theorem p5_2 {M : zM} {B : zB} {pc q : Nat} {loc : List (Option Value)} {rest : List Value} {n : Nat} {iv : zI} {rv : zR} {lv : zJ} {Q : zQ} {o idx : Nat} {x : Int32} (hd : decode M.2.1 pc = .ok (.putfield idx, 3)) (hl : Cond.fieldLink M.1.cls idx "NumberHeaps$Partings" "flattest" "I" ∈ Wd) (hs : zSH o = (25, 13)) (ho : o < n) (hq : pc + 3 = q) (k : Z M B q loc rest n (zu iv o 2 x) rv lv Q) : Z M B pc loc (.int x :: .ref o :: rest) n iv rv lv Q := Z_putI (ci := 5) (k0 := 2) (T := TX5) (C := RX5) (N := 13) hd rfl inW5 (by decide) hl hs ho zty5_ok nmX5 rfl rfl (fun _ => rfl) (fun _ => rfl) hq k
theorem g5_3 {M : zM} {B : zB} {pc q : Nat} {loc : List (Option Value)} {rest : List Value} {n : Nat} {iv : zI} {rv : zR} {lv : zJ} {Q : zQ} {o idx : Nat} {r : Nat} (hd : decode M.2.1 pc = .ok (.getfield idx, 3)) (hl : Cond.fieldLink M.1.cls idx "NumberHeaps$Partings" "theRow" "[I" ∈ Wd) (hs : zSH o = (25, 13)) (ho : o < n) (hr : rv o 3 = some r) (hq : pc + 3 = q) (k : Z M B q loc (.ref r :: rest) n iv rv lv Q) : Z M B pc loc (.ref o :: rest) n iv rv lv Q := Z_getR (ci := 5) (k0 := 3) (T := TX5) (C := RX5) (N := 13) hd rfl inW5 (by decide) hl hs ho rfl hr hq k
theorem pf5_3 {M : zM} {B : zB} {pc q : Nat} {loc : List (Option Value)} {rest : List Value} {n : Nat} {iv : zI} {rv : zR} {lv : zJ} {Q : zQ} {o idx : Nat} {x : Nat} (hd : decode M.2.1 pc = .ok (.putfield idx, 3)) (hl : Cond.fieldLink M.1.cls idx "NumberHeaps$Partings" "theRow" "[I" ∈ Wd) (hs : zSH o = (25, 13)) (ho : o < n) (hini : M.1.name = "<init>") (hdecl : "NumberHeaps$Partings" = M.1.cls) (hq : pc + 3 = q) (k : Z M B q loc rest n iv (zu rv o 3 (some x)) lv Q) : Z M B pc loc (.ref x :: .ref o :: rest) n iv rv lv Q := Z_putRF (ci := 5) (k0 := 3) (T := TX5) (C := RX5) (N := 13) hd rfl inW5 (by decide) hl hs ho zty5_ok nmX5 rfl hini hdecl rfl (fun _ => rfl) (fun _ => rfl) hq k
theorem g5_4 {M : zM} {B : zB} {pc q : Nat} {loc : List (Option Value)} {rest : List Value} {n : Nat} {iv : zI} {rv : zR} {lv : zJ} {Q : zQ} {o idx : Nat} (hd : decode M.2.1 pc = .ok (.getfield idx, 3)) (hl : Cond.fieldLink M.1.cls idx "NumberHeaps$Partings" "k" "I" ∈ Wd) (hs : zSH o = (25, 13)) (ho : o < n) (hq : pc + 3 = q) (k : Z M B q loc (.int (iv o 4) :: rest) n iv rv lv Q) : Z M B pc loc (.ref o :: rest) n iv rv lv Q := Z_getI (ci := 5) (k0 := 4) (T := TX5) (C := RX5) (N := 13) hd rfl inW5 (by decide) hl hs ho rfl hq k
theorem pf5_4 {M : zM} {B : zB} {pc q : Nat} {loc : List (Option Value)} {rest : List Value} {n : Nat} {iv : zI} {rv : zR} {lv : zJ} {Q : zQ} {o idx : Nat} {x : Int32} (hd : decode M.2.1 pc = .ok (.putfield idx, 3)) (hl : Cond.fieldLink M.1.cls idx "NumberHeaps$Partings" "k" "I" ∈ Wd) (hs : zSH o = (25, 13)) (ho : o < n) (hini : M.1.name = "<init>") (hdecl : "NumberHeaps$Partings" = M.1.cls) (hq : pc + 3 = q) (k : Z M B q loc rest n (zu iv o 4 x) rv lv Q) : Z M B pc loc (.int x :: .ref o :: rest) n iv rv lv Q := Z_putIF (ci := 5) (k0 := 4) (T := TX5) (C := RX5) (N := 13) hd rfl inW5 (by decide) hl hs ho zty5_ok nmX5 rfl hini hdecl rfl (fun _ => rfl) (fun _ => rfl) hq k
theorem g5_5 {M : zM} {B : zB} {pc q : Nat} {loc : List (Option Value)} {rest : List Value} {n : Nat} {iv : zI} {rv : zR} {lv : zJ} {Q : zQ} {o idx : Nat} {r : Nat} (hd : decode M.2.1 pc = .ok (.getfield idx, 3)) (hl : Cond.fieldLink M.1.cls idx "NumberHeaps$Partings" "row" "[I" ∈ Wd) (hs : zSH o = (25, 13)) (ho : o < n) (hr : rv o 5 = some r) (hq : pc + 3 = q) (k : Z M B q loc (.ref r :: rest) n iv rv lv Q) : Z M B pc loc (.ref o :: rest) n iv rv lv Q := Z_getR (ci := 5) (k0 := 5) (T := TX5) (C := RX5) (N := 13) hd rfl inW5 (by decide) hl hs ho rfl hr hq k
theorem pf5_5 {M : zM} {B : zB} {pc q : Nat} {loc : List (Option Value)} {rest : List Value} {n : Nat} {iv : zI} {rv : zR} {lv : zJ} {Q : zQ} {o idx : Nat} {x : Nat} (hd : decode M.2.1 pc = .ok (.putfield idx, 3)) (hl : Cond.fieldLink M.1.cls idx "NumberHeaps$Partings" "row" "[I" ∈ Wd) (hs : zSH o = (25, 13)) (ho : o < n) (hini : M.1.name = "<init>") (hdecl : "NumberHeaps$Partings" = M.1.cls) (hq : pc + 3 = q) (k : Z M B q loc rest n iv (zu rv o 5 (some x)) lv Q) : Z M B pc loc (.ref x :: .ref o :: rest) n iv rv lv Q := Z_putRF (ci := 5) (k0 := 5) (T := TX5) (C := RX5) (N := 13) hd rfl inW5 (by decide) hl hs ho zty5_ok nmX5 rfl hini hdecl rfl (fun _ => rfl) (fun _ => rfl) hq k
theorem g5_6 {M : zM} {B : zB} {pc q : Nat} {loc : List (Option Value)} {rest : List Value} {n : Nat} {iv : zI} {rv : zR} {lv : zJ} {Q : zQ} {o idx : Nat} {r : Nat} (hd : decode M.2.1 pc = .ok (.getfield idx, 3)) (hl : Cond.fieldLink M.1.cls idx "NumberHeaps$Partings" "heapSums" "[I" ∈ Wd) (hs : zSH o = (25, 13)) (ho : o < n) (hr : rv o 6 = some r) (hq : pc + 3 = q) (k : Z M B q loc (.ref r :: rest) n iv rv lv Q) : Z M B pc loc (.ref o :: rest) n iv rv lv Q := Z_getR (ci := 5) (k0 := 6) (T := TX5) (C := RX5) (N := 13) hd rfl inW5 (by decide) hl hs ho rfl hr hq k
theorem pf5_6 {M : zM} {B : zB} {pc q : Nat} {loc : List (Option Value)} {rest : List Value} {n : Nat} {iv : zI} {rv : zR} {lv : zJ} {Q : zQ} {o idx : Nat} {x : Nat} (hd : decode M.2.1 pc = .ok (.putfield idx, 3)) (hl : Cond.fieldLink M.1.cls idx "NumberHeaps$Partings" "heapSums" "[I" ∈ Wd) (hs : zSH o = (25, 13)) (ho : o < n) (hini : M.1.name = "<init>") (hdecl : "NumberHeaps$Partings" = M.1.cls) (hq : pc + 3 = q) (k : Z M B q loc rest n iv (zu rv o 6 (some x)) lv Q) : Z M B pc loc (.ref x :: .ref o :: rest) n iv rv lv Q := Z_putRF (ci := 5) (k0 := 6) (T := TX5) (C := RX5) (N := 13) hd rfl inW5 (by decide) hl hs ho zty5_ok nmX5 rfl hini hdecl rfl (fun _ => rfl) (fun _ => rfl) hq k
theorem g5_7 {M : zM} {B : zB} {pc q : Nat} {loc : List (Option Value)} {rest : List Value} {n : Nat} {iv : zI} {rv : zR} {lv : zJ} {Q : zQ} {o idx : Nat} {r : Nat} (hd : decode M.2.1 pc = .ok (.getfield idx, 3)) (hl : Cond.fieldLink M.1.cls idx "NumberHeaps$Partings" "members" "[I" ∈ Wd) (hs : zSH o = (25, 13)) (ho : o < n) (hr : rv o 7 = some r) (hq : pc + 3 = q) (k : Z M B q loc (.ref r :: rest) n iv rv lv Q) : Z M B pc loc (.ref o :: rest) n iv rv lv Q := Z_getR (ci := 5) (k0 := 7) (T := TX5) (C := RX5) (N := 13) hd rfl inW5 (by decide) hl hs ho rfl hr hq k
theorem pf5_7 {M : zM} {B : zB} {pc q : Nat} {loc : List (Option Value)} {rest : List Value} {n : Nat} {iv : zI} {rv : zR} {lv : zJ} {Q : zQ} {o idx : Nat} {x : Nat} (hd : decode M.2.1 pc = .ok (.putfield idx, 3)) (hl : Cond.fieldLink M.1.cls idx "NumberHeaps$Partings" "members" "[I" ∈ Wd) (hs : zSH o = (25, 13)) (ho : o < n) (hini : M.1.name = "<init>") (hdecl : "NumberHeaps$Partings" = M.1.cls) (hq : pc + 3 = q) (k : Z M B q loc rest n iv (zu rv o 7 (some x)) lv Q) : Z M B pc loc (.ref x :: .ref o :: rest) n iv rv lv Q := Z_putRF (ci := 5) (k0 := 7) (T := TX5) (C := RX5) (N := 13) hd rfl inW5 (by decide) hl hs ho zty5_ok nmX5 rfl hini hdecl rfl (fun _ => rfl) (fun _ => rfl) hq k
theorem g5_8 {M : zM} {B : zB} {pc q : Nat} {loc : List (Option Value)} {rest : List Value} {n : Nat} {iv : zI} {rv : zR} {lv : zJ} {Q : zQ} {o idx : Nat} (hd : decode M.2.1 pc = .ok (.getfield idx, 3)) (hl : Cond.fieldLink M.1.cls idx "NumberHeaps$Partings" "named" "I" ∈ Wd) (hs : zSH o = (25, 13)) (ho : o < n) (hq : pc + 3 = q) (k : Z M B q loc (.int (iv o 8) :: rest) n iv rv lv Q) : Z M B pc loc (.ref o :: rest) n iv rv lv Q := Z_getI (ci := 5) (k0 := 8) (T := TX5) (C := RX5) (N := 13) hd rfl inW5 (by decide) hl hs ho rfl hq k
theorem p5_8 {M : zM} {B : zB} {pc q : Nat} {loc : List (Option Value)} {rest : List Value} {n : Nat} {iv : zI} {rv : zR} {lv : zJ} {Q : zQ} {o idx : Nat} {x : Int32} (hd : decode M.2.1 pc = .ok (.putfield idx, 3)) (hl : Cond.fieldLink M.1.cls idx "NumberHeaps$Partings" "named" "I" ∈ Wd) (hs : zSH o = (25, 13)) (ho : o < n) (hq : pc + 3 = q) (k : Z M B q loc rest n (zu iv o 8 x) rv lv Q) : Z M B pc loc (.int x :: .ref o :: rest) n iv rv lv Q := Z_putI (ci := 5) (k0 := 8) (T := TX5) (C := RX5) (N := 13) hd rfl inW5 (by decide) hl hs ho zty5_ok nmX5 rfl rfl (fun _ => rfl) (fun _ => rfl) hq k
theorem g5_9 {M : zM} {B : zB} {pc q : Nat} {loc : List (Option Value)} {rest : List Value} {n : Nat} {iv : zI} {rv : zR} {lv : zJ} {Q : zQ} {o idx : Nat} (hd : decode M.2.1 pc = .ok (.getfield idx, 3)) (hl : Cond.fieldLink M.1.cls idx "NumberHeaps$Partings" "total" "I" ∈ Wd) (hs : zSH o = (25, 13)) (ho : o < n) (hq : pc + 3 = q) (k : Z M B q loc (.int (iv o 9) :: rest) n iv rv lv Q) : Z M B pc loc (.ref o :: rest) n iv rv lv Q := Z_getI (ci := 5) (k0 := 9) (T := TX5) (C := RX5) (N := 13) hd rfl inW5 (by decide) hl hs ho rfl hq k
theorem p5_9 {M : zM} {B : zB} {pc q : Nat} {loc : List (Option Value)} {rest : List Value} {n : Nat} {iv : zI} {rv : zR} {lv : zJ} {Q : zQ} {o idx : Nat} {x : Int32} (hd : decode M.2.1 pc = .ok (.putfield idx, 3)) (hl : Cond.fieldLink M.1.cls idx "NumberHeaps$Partings" "total" "I" ∈ Wd) (hs : zSH o = (25, 13)) (ho : o < n) (hq : pc + 3 = q) (k : Z M B q loc rest n (zu iv o 9 x) rv lv Q) : Z M B pc loc (.int x :: .ref o :: rest) n iv rv lv Q := Z_putI (ci := 5) (k0 := 9) (T := TX5) (C := RX5) (N := 13) hd rfl inW5 (by decide) hl hs ho zty5_ok nmX5 rfl rfl (fun _ => rfl) (fun _ => rfl) hq k
theorem g5_10 {M : zM} {B : zB} {pc q : Nat} {loc : List (Option Value)} {rest : List Value} {n : Nat} {iv : zI} {rv : zR} {lv : zJ} {Q : zQ} {o idx : Nat} (hd : decode M.2.1 pc = .ok (.getfield idx, 3)) (hl : Cond.fieldLink M.1.cls idx "NumberHeaps$Partings" "counting" "Z" ∈ Wd) (hs : zSH o = (25, 13)) (ho : o < n) (hq : pc + 3 = q) (k : Z M B q loc (.int (iv o 10) :: rest) n iv rv lv Q) : Z M B pc loc (.ref o :: rest) n iv rv lv Q := Z_getI (ci := 5) (k0 := 10) (T := TX5) (C := RX5) (N := 13) hd rfl inW5 (by decide) hl hs ho rfl hq k
theorem p5_10 {M : zM} {B : zB} {pc q : Nat} {loc : List (Option Value)} {rest : List Value} {n : Nat} {iv : zI} {rv : zR} {lv : zJ} {Q : zQ} {o idx : Nat} {x : Int32} (hd : decode M.2.1 pc = .ok (.putfield idx, 3)) (hl : Cond.fieldLink M.1.cls idx "NumberHeaps$Partings" "counting" "Z" ∈ Wd) (hs : zSH o = (25, 13)) (ho : o < n) (hx : x = 0 ∨ x = 1) (hq : pc + 3 = q) (k : Z M B q loc rest n (zu iv o 10 x) rv lv Q) : Z M B pc loc (.int x :: .ref o :: rest) n iv rv lv Q := Z_putI (ci := 5) (k0 := 10) (T := TX5) (C := RX5) (N := 13) hd rfl inW5 (by decide) hl hs ho zty5_ok nmX5 rfl rfl (fun _ => by rcases hx with rfl | rfl <;> rfl) (fun _ => by rcases hx with rfl | rfl <;> rfl) hq k
theorem g5_11 {M : zM} {B : zB} {pc q : Nat} {loc : List (Option Value)} {rest : List Value} {n : Nat} {iv : zI} {rv : zR} {lv : zJ} {Q : zQ} {o idx : Nat} (hd : decode M.2.1 pc = .ok (.getfield idx, 3)) (hl : Cond.fieldLink M.1.cls idx "NumberHeaps$Partings" "allowed" "I" ∈ Wd) (hs : zSH o = (25, 13)) (ho : o < n) (hq : pc + 3 = q) (k : Z M B q loc (.int (iv o 11) :: rest) n iv rv lv Q) : Z M B pc loc (.ref o :: rest) n iv rv lv Q := Z_getI (ci := 5) (k0 := 11) (T := TX5) (C := RX5) (N := 13) hd rfl inW5 (by decide) hl hs ho rfl hq k
theorem p5_11 {M : zM} {B : zB} {pc q : Nat} {loc : List (Option Value)} {rest : List Value} {n : Nat} {iv : zI} {rv : zR} {lv : zJ} {Q : zQ} {o idx : Nat} {x : Int32} (hd : decode M.2.1 pc = .ok (.putfield idx, 3)) (hl : Cond.fieldLink M.1.cls idx "NumberHeaps$Partings" "allowed" "I" ∈ Wd) (hs : zSH o = (25, 13)) (ho : o < n) (hq : pc + 3 = q) (k : Z M B q loc rest n (zu iv o 11 x) rv lv Q) : Z M B pc loc (.int x :: .ref o :: rest) n iv rv lv Q := Z_putI (ci := 5) (k0 := 11) (T := TX5) (C := RX5) (N := 13) hd rfl inW5 (by decide) hl hs ho zty5_ok nmX5 rfl rfl (fun _ => rfl) (fun _ => rfl) hq k
theorem g5_12 {M : zM} {B : zB} {pc q : Nat} {loc : List (Option Value)} {rest : List Value} {n : Nat} {iv : zI} {rv : zR} {lv : zJ} {Q : zQ} {o idx : Nat} (hd : decode M.2.1 pc = .ok (.getfield idx, 3)) (hl : Cond.fieldLink M.1.cls idx "NumberHeaps$Partings" "madeFor" "I" ∈ Wd) (hs : zSH o = (25, 13)) (ho : o < n) (hq : pc + 3 = q) (k : Z M B q loc (.int (iv o 12) :: rest) n iv rv lv Q) : Z M B pc loc (.ref o :: rest) n iv rv lv Q := Z_getI (ci := 5) (k0 := 12) (T := TX5) (C := RX5) (N := 13) hd rfl inW5 (by decide) hl hs ho rfl hq k
theorem p5_12 {M : zM} {B : zB} {pc q : Nat} {loc : List (Option Value)} {rest : List Value} {n : Nat} {iv : zI} {rv : zR} {lv : zJ} {Q : zQ} {o idx : Nat} {x : Int32} (hd : decode M.2.1 pc = .ok (.putfield idx, 3)) (hl : Cond.fieldLink M.1.cls idx "NumberHeaps$Partings" "madeFor" "I" ∈ Wd) (hs : zSH o = (25, 13)) (ho : o < n) (hq : pc + 3 = q) (k : Z M B q loc rest n (zu iv o 12 x) rv lv Q) : Z M B pc loc (.int x :: .ref o :: rest) n iv rv lv Q := Z_putI (ci := 5) (k0 := 12) (T := TX5) (C := RX5) (N := 13) hd rfl inW5 (by decide) hl hs ho zty5_ok nmX5 rfl rfl (fun _ => rfl) (fun _ => rfl) hq k
theorem zty6_ok : ∀ k, k < 10 → parseFieldDescriptor (TX6 k).2.2.1 = some (zty 6 k) := tyX6_ok
theorem g6_0 {M : zM} {B : zB} {pc q : Nat} {loc : List (Option Value)} {rest : List Value} {n : Nat} {iv : zI} {rv : zR} {lv : zJ} {Q : zQ} {o idx : Nat} (hd : decode M.2.1 pc = .ok (.getfield idx, 3)) (hl : Cond.fieldLink M.1.cls idx "NumberHeaps$Reader" "taped" "I" ∈ Wd) (hs : zSH o = (26, 10)) (ho : o < n) (hq : pc + 3 = q) (k : Z M B q loc (.int (iv o 0) :: rest) n iv rv lv Q) : Z M B pc loc (.ref o :: rest) n iv rv lv Q := Z_getI (ci := 6) (k0 := 0) (T := TX6) (C := RX6) (N := 10) hd rfl inW6 (by decide) hl hs ho rfl hq k
theorem p6_0 {M : zM} {B : zB} {pc q : Nat} {loc : List (Option Value)} {rest : List Value} {n : Nat} {iv : zI} {rv : zR} {lv : zJ} {Q : zQ} {o idx : Nat} {x : Int32} (hd : decode M.2.1 pc = .ok (.putfield idx, 3)) (hl : Cond.fieldLink M.1.cls idx "NumberHeaps$Reader" "taped" "I" ∈ Wd) (hs : zSH o = (26, 10)) (ho : o < n) (hq : pc + 3 = q) (k : Z M B q loc rest n (zu iv o 0 x) rv lv Q) : Z M B pc loc (.int x :: .ref o :: rest) n iv rv lv Q := Z_putI (ci := 6) (k0 := 0) (T := TX6) (C := RX6) (N := 10) hd rfl inW6 (by decide) hl hs ho zty6_ok nmX6 rfl rfl (fun _ => rfl) (fun _ => rfl) hq k
theorem g6_1 {M : zM} {B : zB} {pc q : Nat} {loc : List (Option Value)} {rest : List Value} {n : Nat} {iv : zI} {rv : zR} {lv : zJ} {Q : zQ} {o idx : Nat} {r : Nat} (hd : decode M.2.1 pc = .ok (.getfield idx, 3)) (hl : Cond.fieldLink M.1.cls idx "NumberHeaps$Reader" "told" "LNumberHeaps$State;" ∈ Wd) (hs : zSH o = (26, 10)) (ho : o < n) (hr : rv o 1 = some r) (hq : pc + 3 = q) (k : Z M B q loc (.ref r :: rest) n iv rv lv Q) : Z M B pc loc (.ref o :: rest) n iv rv lv Q := Z_getR (ci := 6) (k0 := 1) (T := TX6) (C := RX6) (N := 10) hd rfl inW6 (by decide) hl hs ho rfl hr hq k
theorem pf6_1 {M : zM} {B : zB} {pc q : Nat} {loc : List (Option Value)} {rest : List Value} {n : Nat} {iv : zI} {rv : zR} {lv : zJ} {Q : zQ} {o idx : Nat} {x : Nat} (hd : decode M.2.1 pc = .ok (.putfield idx, 3)) (hl : Cond.fieldLink M.1.cls idx "NumberHeaps$Reader" "told" "LNumberHeaps$State;" ∈ Wd) (hs : zSH o = (26, 10)) (ho : o < n) (hini : M.1.name = "<init>") (hdecl : "NumberHeaps$Reader" = M.1.cls) (hq : pc + 3 = q) (k : Z M B q loc rest n iv (zu rv o 1 (some x)) lv Q) : Z M B pc loc (.ref x :: .ref o :: rest) n iv rv lv Q := Z_putRF (ci := 6) (k0 := 1) (T := TX6) (C := RX6) (N := 10) hd rfl inW6 (by decide) hl hs ho zty6_ok nmX6 rfl hini hdecl rfl (fun _ => rfl) (fun _ => rfl) hq k
theorem g6_2 {M : zM} {B : zB} {pc q : Nat} {loc : List (Option Value)} {rest : List Value} {n : Nat} {iv : zI} {rv : zR} {lv : zJ} {Q : zQ} {o idx : Nat} (hd : decode M.2.1 pc = .ok (.getfield idx, 3)) (hl : Cond.fieldLink M.1.cls idx "NumberHeaps$Reader" "faultFound" "I" ∈ Wd) (hs : zSH o = (26, 10)) (ho : o < n) (hq : pc + 3 = q) (k : Z M B q loc (.int (iv o 2) :: rest) n iv rv lv Q) : Z M B pc loc (.ref o :: rest) n iv rv lv Q := Z_getI (ci := 6) (k0 := 2) (T := TX6) (C := RX6) (N := 10) hd rfl inW6 (by decide) hl hs ho rfl hq k
theorem p6_2 {M : zM} {B : zB} {pc q : Nat} {loc : List (Option Value)} {rest : List Value} {n : Nat} {iv : zI} {rv : zR} {lv : zJ} {Q : zQ} {o idx : Nat} {x : Int32} (hd : decode M.2.1 pc = .ok (.putfield idx, 3)) (hl : Cond.fieldLink M.1.cls idx "NumberHeaps$Reader" "faultFound" "I" ∈ Wd) (hs : zSH o = (26, 10)) (ho : o < n) (hq : pc + 3 = q) (k : Z M B q loc rest n (zu iv o 2 x) rv lv Q) : Z M B pc loc (.int x :: .ref o :: rest) n iv rv lv Q := Z_putI (ci := 6) (k0 := 2) (T := TX6) (C := RX6) (N := 10) hd rfl inW6 (by decide) hl hs ho zty6_ok nmX6 rfl rfl (fun _ => rfl) (fun _ => rfl) hq k
theorem g6_3 {M : zM} {B : zB} {pc q : Nat} {loc : List (Option Value)} {rest : List Value} {n : Nat} {iv : zI} {rv : zR} {lv : zJ} {Q : zQ} {o idx : Nat} (hd : decode M.2.1 pc = .ok (.getfield idx, 3)) (hl : Cond.fieldLink M.1.cls idx "NumberHeaps$Reader" "start" "I" ∈ Wd) (hs : zSH o = (26, 10)) (ho : o < n) (hq : pc + 3 = q) (k : Z M B q loc (.int (iv o 3) :: rest) n iv rv lv Q) : Z M B pc loc (.ref o :: rest) n iv rv lv Q := Z_getI (ci := 6) (k0 := 3) (T := TX6) (C := RX6) (N := 10) hd rfl inW6 (by decide) hl hs ho rfl hq k
theorem p6_3 {M : zM} {B : zB} {pc q : Nat} {loc : List (Option Value)} {rest : List Value} {n : Nat} {iv : zI} {rv : zR} {lv : zJ} {Q : zQ} {o idx : Nat} {x : Int32} (hd : decode M.2.1 pc = .ok (.putfield idx, 3)) (hl : Cond.fieldLink M.1.cls idx "NumberHeaps$Reader" "start" "I" ∈ Wd) (hs : zSH o = (26, 10)) (ho : o < n) (hq : pc + 3 = q) (k : Z M B q loc rest n (zu iv o 3 x) rv lv Q) : Z M B pc loc (.int x :: .ref o :: rest) n iv rv lv Q := Z_putI (ci := 6) (k0 := 3) (T := TX6) (C := RX6) (N := 10) hd rfl inW6 (by decide) hl hs ho zty6_ok nmX6 rfl rfl (fun _ => rfl) (fun _ => rfl) hq k
theorem g6_4 {M : zM} {B : zB} {pc q : Nat} {loc : List (Option Value)} {rest : List Value} {n : Nat} {iv : zI} {rv : zR} {lv : zJ} {Q : zQ} {o idx : Nat} {r : Nat} (hd : decode M.2.1 pc = .ok (.getfield idx, 3)) (hl : Cond.fieldLink M.1.cls idx "NumberHeaps$Reader" "tape" "[B" ∈ Wd) (hs : zSH o = (26, 10)) (ho : o < n) (hr : rv o 4 = some r) (hq : pc + 3 = q) (k : Z M B q loc (.ref r :: rest) n iv rv lv Q) : Z M B pc loc (.ref o :: rest) n iv rv lv Q := Z_getR (ci := 6) (k0 := 4) (T := TX6) (C := RX6) (N := 10) hd rfl inW6 (by decide) hl hs ho rfl hr hq k
theorem pf6_4 {M : zM} {B : zB} {pc q : Nat} {loc : List (Option Value)} {rest : List Value} {n : Nat} {iv : zI} {rv : zR} {lv : zJ} {Q : zQ} {o idx : Nat} {x : Nat} (hd : decode M.2.1 pc = .ok (.putfield idx, 3)) (hl : Cond.fieldLink M.1.cls idx "NumberHeaps$Reader" "tape" "[B" ∈ Wd) (hs : zSH o = (26, 10)) (ho : o < n) (hini : M.1.name = "<init>") (hdecl : "NumberHeaps$Reader" = M.1.cls) (hq : pc + 3 = q) (k : Z M B q loc rest n iv (zu rv o 4 (some x)) lv Q) : Z M B pc loc (.ref x :: .ref o :: rest) n iv rv lv Q := Z_putRF (ci := 6) (k0 := 4) (T := TX6) (C := RX6) (N := 10) hd rfl inW6 (by decide) hl hs ho zty6_ok nmX6 rfl hini hdecl rfl (fun _ => rfl) (fun _ => rfl) hq k
theorem g6_5 {M : zM} {B : zB} {pc q : Nat} {loc : List (Option Value)} {rest : List Value} {n : Nat} {iv : zI} {rv : zR} {lv : zJ} {Q : zQ} {o idx : Nat} (hd : decode M.2.1 pc = .ok (.getfield idx, 3)) (hl : Cond.fieldLink M.1.cls idx "NumberHeaps$Reader" "length" "I" ∈ Wd) (hs : zSH o = (26, 10)) (ho : o < n) (hq : pc + 3 = q) (k : Z M B q loc (.int (iv o 5) :: rest) n iv rv lv Q) : Z M B pc loc (.ref o :: rest) n iv rv lv Q := Z_getI (ci := 6) (k0 := 5) (T := TX6) (C := RX6) (N := 10) hd rfl inW6 (by decide) hl hs ho rfl hq k
theorem p6_5 {M : zM} {B : zB} {pc q : Nat} {loc : List (Option Value)} {rest : List Value} {n : Nat} {iv : zI} {rv : zR} {lv : zJ} {Q : zQ} {o idx : Nat} {x : Int32} (hd : decode M.2.1 pc = .ok (.putfield idx, 3)) (hl : Cond.fieldLink M.1.cls idx "NumberHeaps$Reader" "length" "I" ∈ Wd) (hs : zSH o = (26, 10)) (ho : o < n) (hq : pc + 3 = q) (k : Z M B q loc rest n (zu iv o 5 x) rv lv Q) : Z M B pc loc (.int x :: .ref o :: rest) n iv rv lv Q := Z_putI (ci := 6) (k0 := 5) (T := TX6) (C := RX6) (N := 10) hd rfl inW6 (by decide) hl hs ho zty6_ok nmX6 rfl rfl (fun _ => rfl) (fun _ => rfl) hq k
theorem g6_6 {M : zM} {B : zB} {pc q : Nat} {loc : List (Option Value)} {rest : List Value} {n : Nat} {iv : zI} {rv : zR} {lv : zJ} {Q : zQ} {o idx : Nat} (hd : decode M.2.1 pc = .ok (.getfield idx, 3)) (hl : Cond.fieldLink M.1.cls idx "NumberHeaps$Reader" "at" "I" ∈ Wd) (hs : zSH o = (26, 10)) (ho : o < n) (hq : pc + 3 = q) (k : Z M B q loc (.int (iv o 6) :: rest) n iv rv lv Q) : Z M B pc loc (.ref o :: rest) n iv rv lv Q := Z_getI (ci := 6) (k0 := 6) (T := TX6) (C := RX6) (N := 10) hd rfl inW6 (by decide) hl hs ho rfl hq k
theorem p6_6 {M : zM} {B : zB} {pc q : Nat} {loc : List (Option Value)} {rest : List Value} {n : Nat} {iv : zI} {rv : zR} {lv : zJ} {Q : zQ} {o idx : Nat} {x : Int32} (hd : decode M.2.1 pc = .ok (.putfield idx, 3)) (hl : Cond.fieldLink M.1.cls idx "NumberHeaps$Reader" "at" "I" ∈ Wd) (hs : zSH o = (26, 10)) (ho : o < n) (hq : pc + 3 = q) (k : Z M B q loc rest n (zu iv o 6 x) rv lv Q) : Z M B pc loc (.int x :: .ref o :: rest) n iv rv lv Q := Z_putI (ci := 6) (k0 := 6) (T := TX6) (C := RX6) (N := 10) hd rfl inW6 (by decide) hl hs ho zty6_ok nmX6 rfl rfl (fun _ => rfl) (fun _ => rfl) hq k
theorem g6_7 {M : zM} {B : zB} {pc q : Nat} {loc : List (Option Value)} {rest : List Value} {n : Nat} {iv : zI} {rv : zR} {lv : zJ} {Q : zQ} {o idx : Nat} (hd : decode M.2.1 pc = .ok (.getfield idx, 3)) (hl : Cond.fieldLink M.1.cls idx "NumberHeaps$Reader" "kind" "I" ∈ Wd) (hs : zSH o = (26, 10)) (ho : o < n) (hq : pc + 3 = q) (k : Z M B q loc (.int (iv o 7) :: rest) n iv rv lv Q) : Z M B pc loc (.ref o :: rest) n iv rv lv Q := Z_getI (ci := 6) (k0 := 7) (T := TX6) (C := RX6) (N := 10) hd rfl inW6 (by decide) hl hs ho rfl hq k
theorem p6_7 {M : zM} {B : zB} {pc q : Nat} {loc : List (Option Value)} {rest : List Value} {n : Nat} {iv : zI} {rv : zR} {lv : zJ} {Q : zQ} {o idx : Nat} {x : Int32} (hd : decode M.2.1 pc = .ok (.putfield idx, 3)) (hl : Cond.fieldLink M.1.cls idx "NumberHeaps$Reader" "kind" "I" ∈ Wd) (hs : zSH o = (26, 10)) (ho : o < n) (hq : pc + 3 = q) (k : Z M B q loc rest n (zu iv o 7 x) rv lv Q) : Z M B pc loc (.int x :: .ref o :: rest) n iv rv lv Q := Z_putI (ci := 6) (k0 := 7) (T := TX6) (C := RX6) (N := 10) hd rfl inW6 (by decide) hl hs ho zty6_ok nmX6 rfl rfl (fun _ => rfl) (fun _ => rfl) hq k
theorem g6_8 {M : zM} {B : zB} {pc q : Nat} {loc : List (Option Value)} {rest : List Value} {n : Nat} {iv : zI} {rv : zR} {lv : zJ} {Q : zQ} {o idx : Nat} (hd : decode M.2.1 pc = .ok (.getfield idx, 3)) (hl : Cond.fieldLink M.1.cls idx "NumberHeaps$Reader" "whole" "I" ∈ Wd) (hs : zSH o = (26, 10)) (ho : o < n) (hq : pc + 3 = q) (k : Z M B q loc (.int (iv o 8) :: rest) n iv rv lv Q) : Z M B pc loc (.ref o :: rest) n iv rv lv Q := Z_getI (ci := 6) (k0 := 8) (T := TX6) (C := RX6) (N := 10) hd rfl inW6 (by decide) hl hs ho rfl hq k
theorem p6_8 {M : zM} {B : zB} {pc q : Nat} {loc : List (Option Value)} {rest : List Value} {n : Nat} {iv : zI} {rv : zR} {lv : zJ} {Q : zQ} {o idx : Nat} {x : Int32} (hd : decode M.2.1 pc = .ok (.putfield idx, 3)) (hl : Cond.fieldLink M.1.cls idx "NumberHeaps$Reader" "whole" "I" ∈ Wd) (hs : zSH o = (26, 10)) (ho : o < n) (hq : pc + 3 = q) (k : Z M B q loc rest n (zu iv o 8 x) rv lv Q) : Z M B pc loc (.int x :: .ref o :: rest) n iv rv lv Q := Z_putI (ci := 6) (k0 := 8) (T := TX6) (C := RX6) (N := 10) hd rfl inW6 (by decide) hl hs ho zty6_ok nmX6 rfl rfl (fun _ => rfl) (fun _ => rfl) hq k
theorem g6_9 {M : zM} {B : zB} {pc q : Nat} {loc : List (Option Value)} {rest : List Value} {n : Nat} {iv : zI} {rv : zR} {lv : zJ} {Q : zQ} {o idx : Nat} (hd : decode M.2.1 pc = .ok (.getfield idx, 3)) (hl : Cond.fieldLink M.1.cls idx "NumberHeaps$Reader" "heapsTold" "Z" ∈ Wd) (hs : zSH o = (26, 10)) (ho : o < n) (hq : pc + 3 = q) (k : Z M B q loc (.int (iv o 9) :: rest) n iv rv lv Q) : Z M B pc loc (.ref o :: rest) n iv rv lv Q := Z_getI (ci := 6) (k0 := 9) (T := TX6) (C := RX6) (N := 10) hd rfl inW6 (by decide) hl hs ho rfl hq k
theorem p6_9 {M : zM} {B : zB} {pc q : Nat} {loc : List (Option Value)} {rest : List Value} {n : Nat} {iv : zI} {rv : zR} {lv : zJ} {Q : zQ} {o idx : Nat} {x : Int32} (hd : decode M.2.1 pc = .ok (.putfield idx, 3)) (hl : Cond.fieldLink M.1.cls idx "NumberHeaps$Reader" "heapsTold" "Z" ∈ Wd) (hs : zSH o = (26, 10)) (ho : o < n) (hx : x = 0 ∨ x = 1) (hq : pc + 3 = q) (k : Z M B q loc rest n (zu iv o 9 x) rv lv Q) : Z M B pc loc (.int x :: .ref o :: rest) n iv rv lv Q := Z_putI (ci := 6) (k0 := 9) (T := TX6) (C := RX6) (N := 10) hd rfl inW6 (by decide) hl hs ho zty6_ok nmX6 rfl rfl (fun _ => by rcases hx with rfl | rfl <;> rfl) (fun _ => by rcases hx with rfl | rfl <;> rfl) hq k
theorem zty7_ok : ∀ k, k < 11 → parseFieldDescriptor (TX7 k).2.2.1 = some (zty 7 k) := tyX7_ok
theorem g7_0 {M : zM} {B : zB} {pc q : Nat} {loc : List (Option Value)} {rest : List Value} {n : Nat} {iv : zI} {rv : zR} {lv : zJ} {Q : zQ} {o idx : Nat} (hd : decode M.2.1 pc = .ok (.getfield idx, 3)) (hl : Cond.fieldLink M.1.cls idx "NumberHeaps$Search" "least" "I" ∈ Wd) (hs : zSH o = (27, 11)) (ho : o < n) (hq : pc + 3 = q) (k : Z M B q loc (.int (iv o 0) :: rest) n iv rv lv Q) : Z M B pc loc (.ref o :: rest) n iv rv lv Q := Z_getI (ci := 7) (k0 := 0) (T := TX7) (C := RX7) (N := 11) hd rfl inW7 (by decide) hl hs ho rfl hq k
theorem p7_0 {M : zM} {B : zB} {pc q : Nat} {loc : List (Option Value)} {rest : List Value} {n : Nat} {iv : zI} {rv : zR} {lv : zJ} {Q : zQ} {o idx : Nat} {x : Int32} (hd : decode M.2.1 pc = .ok (.putfield idx, 3)) (hl : Cond.fieldLink M.1.cls idx "NumberHeaps$Search" "least" "I" ∈ Wd) (hs : zSH o = (27, 11)) (ho : o < n) (hq : pc + 3 = q) (k : Z M B q loc rest n (zu iv o 0 x) rv lv Q) : Z M B pc loc (.int x :: .ref o :: rest) n iv rv lv Q := Z_putI (ci := 7) (k0 := 0) (T := TX7) (C := RX7) (N := 11) hd rfl inW7 (by decide) hl hs ho zty7_ok nmX7 rfl rfl (fun _ => rfl) (fun _ => rfl) hq k
theorem g7_1 {M : zM} {B : zB} {pc q : Nat} {loc : List (Option Value)} {rest : List Value} {n : Nat} {iv : zI} {rv : zR} {lv : zJ} {Q : zQ} {o idx : Nat} (hd : decode M.2.1 pc = .ok (.getfield idx, 3)) (hl : Cond.fieldLink M.1.cls idx "NumberHeaps$Search" "visited" "I" ∈ Wd) (hs : zSH o = (27, 11)) (ho : o < n) (hq : pc + 3 = q) (k : Z M B q loc (.int (iv o 1) :: rest) n iv rv lv Q) : Z M B pc loc (.ref o :: rest) n iv rv lv Q := Z_getI (ci := 7) (k0 := 1) (T := TX7) (C := RX7) (N := 11) hd rfl inW7 (by decide) hl hs ho rfl hq k
theorem p7_1 {M : zM} {B : zB} {pc q : Nat} {loc : List (Option Value)} {rest : List Value} {n : Nat} {iv : zI} {rv : zR} {lv : zJ} {Q : zQ} {o idx : Nat} {x : Int32} (hd : decode M.2.1 pc = .ok (.putfield idx, 3)) (hl : Cond.fieldLink M.1.cls idx "NumberHeaps$Search" "visited" "I" ∈ Wd) (hs : zSH o = (27, 11)) (ho : o < n) (hq : pc + 3 = q) (k : Z M B q loc rest n (zu iv o 1 x) rv lv Q) : Z M B pc loc (.int x :: .ref o :: rest) n iv rv lv Q := Z_putI (ci := 7) (k0 := 1) (T := TX7) (C := RX7) (N := 11) hd rfl inW7 (by decide) hl hs ho zty7_ok nmX7 rfl rfl (fun _ => rfl) (fun _ => rfl) hq k
theorem g7_2 {M : zM} {B : zB} {pc q : Nat} {loc : List (Option Value)} {rest : List Value} {n : Nat} {iv : zI} {rv : zR} {lv : zJ} {Q : zQ} {o idx : Nat} (hd : decode M.2.1 pc = .ok (.getfield idx, 3)) (hl : Cond.fieldLink M.1.cls idx "NumberHeaps$Search" "leaves" "I" ∈ Wd) (hs : zSH o = (27, 11)) (ho : o < n) (hq : pc + 3 = q) (k : Z M B q loc (.int (iv o 2) :: rest) n iv rv lv Q) : Z M B pc loc (.ref o :: rest) n iv rv lv Q := Z_getI (ci := 7) (k0 := 2) (T := TX7) (C := RX7) (N := 11) hd rfl inW7 (by decide) hl hs ho rfl hq k
theorem p7_2 {M : zM} {B : zB} {pc q : Nat} {loc : List (Option Value)} {rest : List Value} {n : Nat} {iv : zI} {rv : zR} {lv : zJ} {Q : zQ} {o idx : Nat} {x : Int32} (hd : decode M.2.1 pc = .ok (.putfield idx, 3)) (hl : Cond.fieldLink M.1.cls idx "NumberHeaps$Search" "leaves" "I" ∈ Wd) (hs : zSH o = (27, 11)) (ho : o < n) (hq : pc + 3 = q) (k : Z M B q loc rest n (zu iv o 2 x) rv lv Q) : Z M B pc loc (.int x :: .ref o :: rest) n iv rv lv Q := Z_putI (ci := 7) (k0 := 2) (T := TX7) (C := RX7) (N := 11) hd rfl inW7 (by decide) hl hs ho zty7_ok nmX7 rfl rfl (fun _ => rfl) (fun _ => rfl) hq k
theorem g7_3 {M : zM} {B : zB} {pc q : Nat} {loc : List (Option Value)} {rest : List Value} {n : Nat} {iv : zI} {rv : zR} {lv : zJ} {Q : zQ} {o idx : Nat} (hd : decode M.2.1 pc = .ok (.getfield idx, 3)) (hl : Cond.fieldLink M.1.cls idx "NumberHeaps$Search" "finds" "I" ∈ Wd) (hs : zSH o = (27, 11)) (ho : o < n) (hq : pc + 3 = q) (k : Z M B q loc (.int (iv o 3) :: rest) n iv rv lv Q) : Z M B pc loc (.ref o :: rest) n iv rv lv Q := Z_getI (ci := 7) (k0 := 3) (T := TX7) (C := RX7) (N := 11) hd rfl inW7 (by decide) hl hs ho rfl hq k
theorem p7_3 {M : zM} {B : zB} {pc q : Nat} {loc : List (Option Value)} {rest : List Value} {n : Nat} {iv : zI} {rv : zR} {lv : zJ} {Q : zQ} {o idx : Nat} {x : Int32} (hd : decode M.2.1 pc = .ok (.putfield idx, 3)) (hl : Cond.fieldLink M.1.cls idx "NumberHeaps$Search" "finds" "I" ∈ Wd) (hs : zSH o = (27, 11)) (ho : o < n) (hq : pc + 3 = q) (k : Z M B q loc rest n (zu iv o 3 x) rv lv Q) : Z M B pc loc (.int x :: .ref o :: rest) n iv rv lv Q := Z_putI (ci := 7) (k0 := 3) (T := TX7) (C := RX7) (N := 11) hd rfl inW7 (by decide) hl hs ho zty7_ok nmX7 rfl rfl (fun _ => rfl) (fun _ => rfl) hq k
theorem g7_4 {M : zM} {B : zB} {pc q : Nat} {loc : List (Option Value)} {rest : List Value} {n : Nat} {iv : zI} {rv : zR} {lv : zJ} {Q : zQ} {o idx : Nat} (hd : decode M.2.1 pc = .ok (.getfield idx, 3)) (hl : Cond.fieldLink M.1.cls idx "NumberHeaps$Search" "perfect" "Z" ∈ Wd) (hs : zSH o = (27, 11)) (ho : o < n) (hq : pc + 3 = q) (k : Z M B q loc (.int (iv o 4) :: rest) n iv rv lv Q) : Z M B pc loc (.ref o :: rest) n iv rv lv Q := Z_getI (ci := 7) (k0 := 4) (T := TX7) (C := RX7) (N := 11) hd rfl inW7 (by decide) hl hs ho rfl hq k
theorem p7_4 {M : zM} {B : zB} {pc q : Nat} {loc : List (Option Value)} {rest : List Value} {n : Nat} {iv : zI} {rv : zR} {lv : zJ} {Q : zQ} {o idx : Nat} {x : Int32} (hd : decode M.2.1 pc = .ok (.putfield idx, 3)) (hl : Cond.fieldLink M.1.cls idx "NumberHeaps$Search" "perfect" "Z" ∈ Wd) (hs : zSH o = (27, 11)) (ho : o < n) (hx : x = 0 ∨ x = 1) (hq : pc + 3 = q) (k : Z M B q loc rest n (zu iv o 4 x) rv lv Q) : Z M B pc loc (.int x :: .ref o :: rest) n iv rv lv Q := Z_putI (ci := 7) (k0 := 4) (T := TX7) (C := RX7) (N := 11) hd rfl inW7 (by decide) hl hs ho zty7_ok nmX7 rfl rfl (fun _ => by rcases hx with rfl | rfl <;> rfl) (fun _ => by rcases hx with rfl | rfl <;> rfl) hq k
theorem g7_5 {M : zM} {B : zB} {pc q : Nat} {loc : List (Option Value)} {rest : List Value} {n : Nat} {iv : zI} {rv : zR} {lv : zJ} {Q : zQ} {o idx : Nat} (hd : decode M.2.1 pc = .ok (.getfield idx, 3)) (hl : Cond.fieldLink M.1.cls idx "NumberHeaps$Search" "firstSide" "I" ∈ Wd) (hs : zSH o = (27, 11)) (ho : o < n) (hq : pc + 3 = q) (k : Z M B q loc (.int (iv o 5) :: rest) n iv rv lv Q) : Z M B pc loc (.ref o :: rest) n iv rv lv Q := Z_getI (ci := 7) (k0 := 5) (T := TX7) (C := RX7) (N := 11) hd rfl inW7 (by decide) hl hs ho rfl hq k
theorem p7_5 {M : zM} {B : zB} {pc q : Nat} {loc : List (Option Value)} {rest : List Value} {n : Nat} {iv : zI} {rv : zR} {lv : zJ} {Q : zQ} {o idx : Nat} {x : Int32} (hd : decode M.2.1 pc = .ok (.putfield idx, 3)) (hl : Cond.fieldLink M.1.cls idx "NumberHeaps$Search" "firstSide" "I" ∈ Wd) (hs : zSH o = (27, 11)) (ho : o < n) (hq : pc + 3 = q) (k : Z M B q loc rest n (zu iv o 5 x) rv lv Q) : Z M B pc loc (.int x :: .ref o :: rest) n iv rv lv Q := Z_putI (ci := 7) (k0 := 5) (T := TX7) (C := RX7) (N := 11) hd rfl inW7 (by decide) hl hs ho zty7_ok nmX7 rfl rfl (fun _ => rfl) (fun _ => rfl) hq k
theorem g7_6 {M : zM} {B : zB} {pc q : Nat} {loc : List (Option Value)} {rest : List Value} {n : Nat} {iv : zI} {rv : zR} {lv : zJ} {Q : zQ} {o idx : Nat} {r : Nat} (hd : decode M.2.1 pc = .ok (.getfield idx, 3)) (hl : Cond.fieldLink M.1.cls idx "NumberHeaps$Search" "found" "[I" ∈ Wd) (hs : zSH o = (27, 11)) (ho : o < n) (hr : rv o 6 = some r) (hq : pc + 3 = q) (k : Z M B q loc (.ref r :: rest) n iv rv lv Q) : Z M B pc loc (.ref o :: rest) n iv rv lv Q := Z_getR (ci := 7) (k0 := 6) (T := TX7) (C := RX7) (N := 11) hd rfl inW7 (by decide) hl hs ho rfl hr hq k
theorem pf7_6 {M : zM} {B : zB} {pc q : Nat} {loc : List (Option Value)} {rest : List Value} {n : Nat} {iv : zI} {rv : zR} {lv : zJ} {Q : zQ} {o idx : Nat} {x : Nat} (hd : decode M.2.1 pc = .ok (.putfield idx, 3)) (hl : Cond.fieldLink M.1.cls idx "NumberHeaps$Search" "found" "[I" ∈ Wd) (hs : zSH o = (27, 11)) (ho : o < n) (hini : M.1.name = "<init>") (hdecl : "NumberHeaps$Search" = M.1.cls) (hq : pc + 3 = q) (k : Z M B q loc rest n iv (zu rv o 6 (some x)) lv Q) : Z M B pc loc (.ref x :: .ref o :: rest) n iv rv lv Q := Z_putRF (ci := 7) (k0 := 6) (T := TX7) (C := RX7) (N := 11) hd rfl inW7 (by decide) hl hs ho zty7_ok nmX7 rfl hini hdecl rfl (fun _ => rfl) (fun _ => rfl) hq k
theorem g7_7 {M : zM} {B : zB} {pc q : Nat} {loc : List (Option Value)} {rest : List Value} {n : Nat} {iv : zI} {rv : zR} {lv : zJ} {Q : zQ} {o idx : Nat} {r : Nat} (hd : decode M.2.1 pc = .ok (.getfield idx, 3)) (hl : Cond.fieldLink M.1.cls idx "NumberHeaps$Search" "foundAt" "[I" ∈ Wd) (hs : zSH o = (27, 11)) (ho : o < n) (hr : rv o 7 = some r) (hq : pc + 3 = q) (k : Z M B q loc (.ref r :: rest) n iv rv lv Q) : Z M B pc loc (.ref o :: rest) n iv rv lv Q := Z_getR (ci := 7) (k0 := 7) (T := TX7) (C := RX7) (N := 11) hd rfl inW7 (by decide) hl hs ho rfl hr hq k
theorem pf7_7 {M : zM} {B : zB} {pc q : Nat} {loc : List (Option Value)} {rest : List Value} {n : Nat} {iv : zI} {rv : zR} {lv : zJ} {Q : zQ} {o idx : Nat} {x : Nat} (hd : decode M.2.1 pc = .ok (.putfield idx, 3)) (hl : Cond.fieldLink M.1.cls idx "NumberHeaps$Search" "foundAt" "[I" ∈ Wd) (hs : zSH o = (27, 11)) (ho : o < n) (hini : M.1.name = "<init>") (hdecl : "NumberHeaps$Search" = M.1.cls) (hq : pc + 3 = q) (k : Z M B q loc rest n iv (zu rv o 7 (some x)) lv Q) : Z M B pc loc (.ref x :: .ref o :: rest) n iv rv lv Q := Z_putRF (ci := 7) (k0 := 7) (T := TX7) (C := RX7) (N := 11) hd rfl inW7 (by decide) hl hs ho zty7_ok nmX7 rfl hini hdecl rfl (fun _ => rfl) (fun _ => rfl) hq k
theorem g7_8 {M : zM} {B : zB} {pc q : Nat} {loc : List (Option Value)} {rest : List Value} {n : Nat} {iv : zI} {rv : zR} {lv : zJ} {Q : zQ} {o idx : Nat} {r : Nat} (hd : decode M.2.1 pc = .ok (.getfield idx, 3)) (hl : Cond.fieldLink M.1.cls idx "NumberHeaps$Search" "rowAt" "[LNumberHeaps$ItemRow;" ∈ Wd) (hs : zSH o = (27, 11)) (ho : o < n) (hr : rv o 8 = some r) (hq : pc + 3 = q) (k : Z M B q loc (.ref r :: rest) n iv rv lv Q) : Z M B pc loc (.ref o :: rest) n iv rv lv Q := Z_getR (ci := 7) (k0 := 8) (T := TX7) (C := RX7) (N := 11) hd rfl inW7 (by decide) hl hs ho rfl hr hq k
theorem pf7_8 {M : zM} {B : zB} {pc q : Nat} {loc : List (Option Value)} {rest : List Value} {n : Nat} {iv : zI} {rv : zR} {lv : zJ} {Q : zQ} {o idx : Nat} {x : Nat} (hd : decode M.2.1 pc = .ok (.putfield idx, 3)) (hl : Cond.fieldLink M.1.cls idx "NumberHeaps$Search" "rowAt" "[LNumberHeaps$ItemRow;" ∈ Wd) (hs : zSH o = (27, 11)) (ho : o < n) (hini : M.1.name = "<init>") (hdecl : "NumberHeaps$Search" = M.1.cls) (hq : pc + 3 = q) (k : Z M B q loc rest n iv (zu rv o 8 (some x)) lv Q) : Z M B pc loc (.ref x :: .ref o :: rest) n iv rv lv Q := Z_putRF (ci := 7) (k0 := 8) (T := TX7) (C := RX7) (N := 11) hd rfl inW7 (by decide) hl hs ho zty7_ok nmX7 rfl hini hdecl rfl (fun _ => rfl) (fun _ => rfl) hq k
theorem g7_9 {M : zM} {B : zB} {pc q : Nat} {loc : List (Option Value)} {rest : List Value} {n : Nat} {iv : zI} {rv : zR} {lv : zJ} {Q : zQ} {o idx : Nat} (hd : decode M.2.1 pc = .ok (.getfield idx, 3)) (hl : Cond.fieldLink M.1.cls idx "NumberHeaps$Search" "totalModuloTwo" "I" ∈ Wd) (hs : zSH o = (27, 11)) (ho : o < n) (hq : pc + 3 = q) (k : Z M B q loc (.int (iv o 9) :: rest) n iv rv lv Q) : Z M B pc loc (.ref o :: rest) n iv rv lv Q := Z_getI (ci := 7) (k0 := 9) (T := TX7) (C := RX7) (N := 11) hd rfl inW7 (by decide) hl hs ho rfl hq k
theorem p7_9 {M : zM} {B : zB} {pc q : Nat} {loc : List (Option Value)} {rest : List Value} {n : Nat} {iv : zI} {rv : zR} {lv : zJ} {Q : zQ} {o idx : Nat} {x : Int32} (hd : decode M.2.1 pc = .ok (.putfield idx, 3)) (hl : Cond.fieldLink M.1.cls idx "NumberHeaps$Search" "totalModuloTwo" "I" ∈ Wd) (hs : zSH o = (27, 11)) (ho : o < n) (hq : pc + 3 = q) (k : Z M B q loc rest n (zu iv o 9 x) rv lv Q) : Z M B pc loc (.int x :: .ref o :: rest) n iv rv lv Q := Z_putI (ci := 7) (k0 := 9) (T := TX7) (C := RX7) (N := 11) hd rfl inW7 (by decide) hl hs ho zty7_ok nmX7 rfl rfl (fun _ => rfl) (fun _ => rfl) hq k
theorem g7_10 {M : zM} {B : zB} {pc q : Nat} {loc : List (Option Value)} {rest : List Value} {n : Nat} {iv : zI} {rv : zR} {lv : zJ} {Q : zQ} {o idx : Nat} (hd : decode M.2.1 pc = .ok (.getfield idx, 3)) (hl : Cond.fieldLink M.1.cls idx "NumberHeaps$Search" "madeFor" "I" ∈ Wd) (hs : zSH o = (27, 11)) (ho : o < n) (hq : pc + 3 = q) (k : Z M B q loc (.int (iv o 10) :: rest) n iv rv lv Q) : Z M B pc loc (.ref o :: rest) n iv rv lv Q := Z_getI (ci := 7) (k0 := 10) (T := TX7) (C := RX7) (N := 11) hd rfl inW7 (by decide) hl hs ho rfl hq k
theorem p7_10 {M : zM} {B : zB} {pc q : Nat} {loc : List (Option Value)} {rest : List Value} {n : Nat} {iv : zI} {rv : zR} {lv : zJ} {Q : zQ} {o idx : Nat} {x : Int32} (hd : decode M.2.1 pc = .ok (.putfield idx, 3)) (hl : Cond.fieldLink M.1.cls idx "NumberHeaps$Search" "madeFor" "I" ∈ Wd) (hs : zSH o = (27, 11)) (ho : o < n) (hq : pc + 3 = q) (k : Z M B q loc rest n (zu iv o 10 x) rv lv Q) : Z M B pc loc (.int x :: .ref o :: rest) n iv rv lv Q := Z_putI (ci := 7) (k0 := 10) (T := TX7) (C := RX7) (N := 11) hd rfl inW7 (by decide) hl hs ho zty7_ok nmX7 rfl rfl (fun _ => rfl) (fun _ => rfl) hq k
theorem zty8_ok : ∀ k, k < 4 → parseFieldDescriptor (TX8 k).2.2.1 = some (zty 8 k) := tyX8_ok
theorem g8_0 {M : zM} {B : zB} {pc q : Nat} {loc : List (Option Value)} {rest : List Value} {n : Nat} {iv : zI} {rv : zR} {lv : zJ} {Q : zQ} {o idx : Nat} {r : Nat} (hd : decode M.2.1 pc = .ok (.getfield idx, 3)) (hl : Cond.fieldLink M.1.cls idx "NumberHeaps$SetSums" "keys" "[I" ∈ Wd) (hs : zSH o = (28, 4)) (ho : o < n) (hr : rv o 0 = some r) (hq : pc + 3 = q) (k : Z M B q loc (.ref r :: rest) n iv rv lv Q) : Z M B pc loc (.ref o :: rest) n iv rv lv Q := Z_getR (ci := 8) (k0 := 0) (T := TX8) (C := RX8) (N := 4) hd rfl inW8 (by decide) hl hs ho rfl hr hq k
theorem p8_0 {M : zM} {B : zB} {pc q : Nat} {loc : List (Option Value)} {rest : List Value} {n : Nat} {iv : zI} {rv : zR} {lv : zJ} {Q : zQ} {o idx : Nat} {x : Nat} (hd : decode M.2.1 pc = .ok (.putfield idx, 3)) (hl : Cond.fieldLink M.1.cls idx "NumberHeaps$SetSums" "keys" "[I" ∈ Wd) (hs : zSH o = (28, 4)) (ho : o < n) (hq : pc + 3 = q) (k : Z M B q loc rest n iv (zu rv o 0 (some x)) lv Q) : Z M B pc loc (.ref x :: .ref o :: rest) n iv rv lv Q := Z_putR (ci := 8) (k0 := 0) (T := TX8) (C := RX8) (N := 4) hd rfl inW8 (by decide) hl hs ho zty8_ok nmX8 rfl rfl (fun _ => rfl) (fun _ => rfl) hq k
theorem g8_1 {M : zM} {B : zB} {pc q : Nat} {loc : List (Option Value)} {rest : List Value} {n : Nat} {iv : zI} {rv : zR} {lv : zJ} {Q : zQ} {o idx : Nat} {r : Nat} (hd : decode M.2.1 pc = .ok (.getfield idx, 3)) (hl : Cond.fieldLink M.1.cls idx "NumberHeaps$SetSums" "spare" "[I" ∈ Wd) (hs : zSH o = (28, 4)) (ho : o < n) (hr : rv o 1 = some r) (hq : pc + 3 = q) (k : Z M B q loc (.ref r :: rest) n iv rv lv Q) : Z M B pc loc (.ref o :: rest) n iv rv lv Q := Z_getR (ci := 8) (k0 := 1) (T := TX8) (C := RX8) (N := 4) hd rfl inW8 (by decide) hl hs ho rfl hr hq k
theorem p8_1 {M : zM} {B : zB} {pc q : Nat} {loc : List (Option Value)} {rest : List Value} {n : Nat} {iv : zI} {rv : zR} {lv : zJ} {Q : zQ} {o idx : Nat} {x : Nat} (hd : decode M.2.1 pc = .ok (.putfield idx, 3)) (hl : Cond.fieldLink M.1.cls idx "NumberHeaps$SetSums" "spare" "[I" ∈ Wd) (hs : zSH o = (28, 4)) (ho : o < n) (hq : pc + 3 = q) (k : Z M B q loc rest n iv (zu rv o 1 (some x)) lv Q) : Z M B pc loc (.ref x :: .ref o :: rest) n iv rv lv Q := Z_putR (ci := 8) (k0 := 1) (T := TX8) (C := RX8) (N := 4) hd rfl inW8 (by decide) hl hs ho zty8_ok nmX8 rfl rfl (fun _ => rfl) (fun _ => rfl) hq k
theorem g8_2 {M : zM} {B : zB} {pc q : Nat} {loc : List (Option Value)} {rest : List Value} {n : Nat} {iv : zI} {rv : zR} {lv : zJ} {Q : zQ} {o idx : Nat} (hd : decode M.2.1 pc = .ok (.getfield idx, 3)) (hl : Cond.fieldLink M.1.cls idx "NumberHeaps$SetSums" "sets" "I" ∈ Wd) (hs : zSH o = (28, 4)) (ho : o < n) (hq : pc + 3 = q) (k : Z M B q loc (.int (iv o 2) :: rest) n iv rv lv Q) : Z M B pc loc (.ref o :: rest) n iv rv lv Q := Z_getI (ci := 8) (k0 := 2) (T := TX8) (C := RX8) (N := 4) hd rfl inW8 (by decide) hl hs ho rfl hq k
theorem p8_2 {M : zM} {B : zB} {pc q : Nat} {loc : List (Option Value)} {rest : List Value} {n : Nat} {iv : zI} {rv : zR} {lv : zJ} {Q : zQ} {o idx : Nat} {x : Int32} (hd : decode M.2.1 pc = .ok (.putfield idx, 3)) (hl : Cond.fieldLink M.1.cls idx "NumberHeaps$SetSums" "sets" "I" ∈ Wd) (hs : zSH o = (28, 4)) (ho : o < n) (hq : pc + 3 = q) (k : Z M B q loc rest n (zu iv o 2 x) rv lv Q) : Z M B pc loc (.int x :: .ref o :: rest) n iv rv lv Q := Z_putI (ci := 8) (k0 := 2) (T := TX8) (C := RX8) (N := 4) hd rfl inW8 (by decide) hl hs ho zty8_ok nmX8 rfl rfl (fun _ => rfl) (fun _ => rfl) hq k
theorem g8_3 {M : zM} {B : zB} {pc q : Nat} {loc : List (Option Value)} {rest : List Value} {n : Nat} {iv : zI} {rv : zR} {lv : zJ} {Q : zQ} {o idx : Nat} (hd : decode M.2.1 pc = .ok (.getfield idx, 3)) (hl : Cond.fieldLink M.1.cls idx "NumberHeaps$SetSums" "madeFor" "I" ∈ Wd) (hs : zSH o = (28, 4)) (ho : o < n) (hq : pc + 3 = q) (k : Z M B q loc (.int (iv o 3) :: rest) n iv rv lv Q) : Z M B pc loc (.ref o :: rest) n iv rv lv Q := Z_getI (ci := 8) (k0 := 3) (T := TX8) (C := RX8) (N := 4) hd rfl inW8 (by decide) hl hs ho rfl hq k
theorem p8_3 {M : zM} {B : zB} {pc q : Nat} {loc : List (Option Value)} {rest : List Value} {n : Nat} {iv : zI} {rv : zR} {lv : zJ} {Q : zQ} {o idx : Nat} {x : Int32} (hd : decode M.2.1 pc = .ok (.putfield idx, 3)) (hl : Cond.fieldLink M.1.cls idx "NumberHeaps$SetSums" "madeFor" "I" ∈ Wd) (hs : zSH o = (28, 4)) (ho : o < n) (hq : pc + 3 = q) (k : Z M B q loc rest n (zu iv o 3 x) rv lv Q) : Z M B pc loc (.int x :: .ref o :: rest) n iv rv lv Q := Z_putI (ci := 8) (k0 := 3) (T := TX8) (C := RX8) (N := 4) hd rfl inW8 (by decide) hl hs ho zty8_ok nmX8 rfl rfl (fun _ => rfl) (fun _ => rfl) hq k
theorem zty9_ok : ∀ k, k < 6 → parseFieldDescriptor (TX9 k).2.2.1 = some (zty 9 k) := tyX9_ok
theorem g9_0 {M : zM} {B : zB} {pc q : Nat} {loc : List (Option Value)} {rest : List Value} {n : Nat} {iv : zI} {rv : zR} {lv : zJ} {Q : zQ} {o idx : Nat} (hd : decode M.2.1 pc = .ok (.getfield idx, 3)) (hl : Cond.fieldLink M.1.cls idx "NumberHeaps$State" "count" "I" ∈ Wd) (hs : zSH o = (29, 6)) (ho : o < n) (hq : pc + 3 = q) (k : Z M B q loc (.int (iv o 0) :: rest) n iv rv lv Q) : Z M B pc loc (.ref o :: rest) n iv rv lv Q := Z_getI (ci := 9) (k0 := 0) (T := TX9) (C := RX9) (N := 6) hd rfl inW9 (by decide) hl hs ho rfl hq k
theorem p9_0 {M : zM} {B : zB} {pc q : Nat} {loc : List (Option Value)} {rest : List Value} {n : Nat} {iv : zI} {rv : zR} {lv : zJ} {Q : zQ} {o idx : Nat} {x : Int32} (hd : decode M.2.1 pc = .ok (.putfield idx, 3)) (hl : Cond.fieldLink M.1.cls idx "NumberHeaps$State" "count" "I" ∈ Wd) (hs : zSH o = (29, 6)) (ho : o < n) (hq : pc + 3 = q) (k : Z M B q loc rest n (zu iv o 0 x) rv lv Q) : Z M B pc loc (.int x :: .ref o :: rest) n iv rv lv Q := Z_putI (ci := 9) (k0 := 0) (T := TX9) (C := RX9) (N := 6) hd rfl inW9 (by decide) hl hs ho zty9_ok nmX9 rfl rfl (fun _ => rfl) (fun _ => rfl) hq k
theorem g9_1 {M : zM} {B : zB} {pc q : Nat} {loc : List (Option Value)} {rest : List Value} {n : Nat} {iv : zI} {rv : zR} {lv : zJ} {Q : zQ} {o idx : Nat} (hd : decode M.2.1 pc = .ok (.getfield idx, 3)) (hl : Cond.fieldLink M.1.cls idx "NumberHeaps$State" "heapCount" "I" ∈ Wd) (hs : zSH o = (29, 6)) (ho : o < n) (hq : pc + 3 = q) (k : Z M B q loc (.int (iv o 1) :: rest) n iv rv lv Q) : Z M B pc loc (.ref o :: rest) n iv rv lv Q := Z_getI (ci := 9) (k0 := 1) (T := TX9) (C := RX9) (N := 6) hd rfl inW9 (by decide) hl hs ho rfl hq k
theorem p9_1 {M : zM} {B : zB} {pc q : Nat} {loc : List (Option Value)} {rest : List Value} {n : Nat} {iv : zI} {rv : zR} {lv : zJ} {Q : zQ} {o idx : Nat} {x : Int32} (hd : decode M.2.1 pc = .ok (.putfield idx, 3)) (hl : Cond.fieldLink M.1.cls idx "NumberHeaps$State" "heapCount" "I" ∈ Wd) (hs : zSH o = (29, 6)) (ho : o < n) (hq : pc + 3 = q) (k : Z M B q loc rest n (zu iv o 1 x) rv lv Q) : Z M B pc loc (.int x :: .ref o :: rest) n iv rv lv Q := Z_putI (ci := 9) (k0 := 1) (T := TX9) (C := RX9) (N := 6) hd rfl inW9 (by decide) hl hs ho zty9_ok nmX9 rfl rfl (fun _ => rfl) (fun _ => rfl) hq k
theorem g9_2 {M : zM} {B : zB} {pc q : Nat} {loc : List (Option Value)} {rest : List Value} {n : Nat} {iv : zI} {rv : zR} {lv : zJ} {Q : zQ} {o idx : Nat} {r : Nat} (hd : decode M.2.1 pc = .ok (.getfield idx, 3)) (hl : Cond.fieldLink M.1.cls idx "NumberHeaps$State" "values" "[I" ∈ Wd) (hs : zSH o = (29, 6)) (ho : o < n) (hr : rv o 2 = some r) (hq : pc + 3 = q) (k : Z M B q loc (.ref r :: rest) n iv rv lv Q) : Z M B pc loc (.ref o :: rest) n iv rv lv Q := Z_getR (ci := 9) (k0 := 2) (T := TX9) (C := RX9) (N := 6) hd rfl inW9 (by decide) hl hs ho rfl hr hq k
theorem pf9_2 {M : zM} {B : zB} {pc q : Nat} {loc : List (Option Value)} {rest : List Value} {n : Nat} {iv : zI} {rv : zR} {lv : zJ} {Q : zQ} {o idx : Nat} {x : Nat} (hd : decode M.2.1 pc = .ok (.putfield idx, 3)) (hl : Cond.fieldLink M.1.cls idx "NumberHeaps$State" "values" "[I" ∈ Wd) (hs : zSH o = (29, 6)) (ho : o < n) (hini : M.1.name = "<init>") (hdecl : "NumberHeaps$State" = M.1.cls) (hq : pc + 3 = q) (k : Z M B q loc rest n iv (zu rv o 2 (some x)) lv Q) : Z M B pc loc (.ref x :: .ref o :: rest) n iv rv lv Q := Z_putRF (ci := 9) (k0 := 2) (T := TX9) (C := RX9) (N := 6) hd rfl inW9 (by decide) hl hs ho zty9_ok nmX9 rfl hini hdecl rfl (fun _ => rfl) (fun _ => rfl) hq k
theorem g9_3 {M : zM} {B : zB} {pc q : Nat} {loc : List (Option Value)} {rest : List Value} {n : Nat} {iv : zI} {rv : zR} {lv : zJ} {Q : zQ} {o idx : Nat} {r : Nat} (hd : decode M.2.1 pc = .ok (.getfield idx, 3)) (hl : Cond.fieldLink M.1.cls idx "NumberHeaps$State" "keeper" "[I" ∈ Wd) (hs : zSH o = (29, 6)) (ho : o < n) (hr : rv o 3 = some r) (hq : pc + 3 = q) (k : Z M B q loc (.ref r :: rest) n iv rv lv Q) : Z M B pc loc (.ref o :: rest) n iv rv lv Q := Z_getR (ci := 9) (k0 := 3) (T := TX9) (C := RX9) (N := 6) hd rfl inW9 (by decide) hl hs ho rfl hr hq k
theorem pf9_3 {M : zM} {B : zB} {pc q : Nat} {loc : List (Option Value)} {rest : List Value} {n : Nat} {iv : zI} {rv : zR} {lv : zJ} {Q : zQ} {o idx : Nat} {x : Nat} (hd : decode M.2.1 pc = .ok (.putfield idx, 3)) (hl : Cond.fieldLink M.1.cls idx "NumberHeaps$State" "keeper" "[I" ∈ Wd) (hs : zSH o = (29, 6)) (ho : o < n) (hini : M.1.name = "<init>") (hdecl : "NumberHeaps$State" = M.1.cls) (hq : pc + 3 = q) (k : Z M B q loc rest n iv (zu rv o 3 (some x)) lv Q) : Z M B pc loc (.ref x :: .ref o :: rest) n iv rv lv Q := Z_putRF (ci := 9) (k0 := 3) (T := TX9) (C := RX9) (N := 6) hd rfl inW9 (by decide) hl hs ho zty9_ok nmX9 rfl hini hdecl rfl (fun _ => rfl) (fun _ => rfl) hq k
theorem g9_4 {M : zM} {B : zB} {pc q : Nat} {loc : List (Option Value)} {rest : List Value} {n : Nat} {iv : zI} {rv : zR} {lv : zJ} {Q : zQ} {o idx : Nat} {r : Nat} (hd : decode M.2.1 pc = .ok (.getfield idx, 3)) (hl : Cond.fieldLink M.1.cls idx "NumberHeaps$State" "foes" "[I" ∈ Wd) (hs : zSH o = (29, 6)) (ho : o < n) (hr : rv o 4 = some r) (hq : pc + 3 = q) (k : Z M B q loc (.ref r :: rest) n iv rv lv Q) : Z M B pc loc (.ref o :: rest) n iv rv lv Q := Z_getR (ci := 9) (k0 := 4) (T := TX9) (C := RX9) (N := 6) hd rfl inW9 (by decide) hl hs ho rfl hr hq k
theorem pf9_4 {M : zM} {B : zB} {pc q : Nat} {loc : List (Option Value)} {rest : List Value} {n : Nat} {iv : zI} {rv : zR} {lv : zJ} {Q : zQ} {o idx : Nat} {x : Nat} (hd : decode M.2.1 pc = .ok (.putfield idx, 3)) (hl : Cond.fieldLink M.1.cls idx "NumberHeaps$State" "foes" "[I" ∈ Wd) (hs : zSH o = (29, 6)) (ho : o < n) (hini : M.1.name = "<init>") (hdecl : "NumberHeaps$State" = M.1.cls) (hq : pc + 3 = q) (k : Z M B q loc rest n iv (zu rv o 4 (some x)) lv Q) : Z M B pc loc (.ref x :: .ref o :: rest) n iv rv lv Q := Z_putRF (ci := 9) (k0 := 4) (T := TX9) (C := RX9) (N := 6) hd rfl inW9 (by decide) hl hs ho zty9_ok nmX9 rfl hini hdecl rfl (fun _ => rfl) (fun _ => rfl) hq k
theorem g9_5 {M : zM} {B : zB} {pc q : Nat} {loc : List (Option Value)} {rest : List Value} {n : Nat} {iv : zI} {rv : zR} {lv : zJ} {Q : zQ} {o idx : Nat} {r : Nat} (hd : decode M.2.1 pc = .ok (.getfield idx, 3)) (hl : Cond.fieldLink M.1.cls idx "NumberHeaps$State" "bySize" "[I" ∈ Wd) (hs : zSH o = (29, 6)) (ho : o < n) (hr : rv o 5 = some r) (hq : pc + 3 = q) (k : Z M B q loc (.ref r :: rest) n iv rv lv Q) : Z M B pc loc (.ref o :: rest) n iv rv lv Q := Z_getR (ci := 9) (k0 := 5) (T := TX9) (C := RX9) (N := 6) hd rfl inW9 (by decide) hl hs ho rfl hr hq k
theorem pf9_5 {M : zM} {B : zB} {pc q : Nat} {loc : List (Option Value)} {rest : List Value} {n : Nat} {iv : zI} {rv : zR} {lv : zJ} {Q : zQ} {o idx : Nat} {x : Nat} (hd : decode M.2.1 pc = .ok (.putfield idx, 3)) (hl : Cond.fieldLink M.1.cls idx "NumberHeaps$State" "bySize" "[I" ∈ Wd) (hs : zSH o = (29, 6)) (ho : o < n) (hini : M.1.name = "<init>") (hdecl : "NumberHeaps$State" = M.1.cls) (hq : pc + 3 = q) (k : Z M B q loc rest n iv (zu rv o 5 (some x)) lv Q) : Z M B pc loc (.ref x :: .ref o :: rest) n iv rv lv Q := Z_putRF (ci := 9) (k0 := 5) (T := TX9) (C := RX9) (N := 6) hd rfl inW9 (by decide) hl hs ho zty9_ok nmX9 rfl hini hdecl rfl (fun _ => rfl) (fun _ => rfl) hq k
theorem zty10_ok : ∀ k, k < 15 → parseFieldDescriptor (TX10 k).2.2.1 = some (zty 10 k) := tyX10_ok
theorem g10_0 {M : zM} {B : zB} {pc q : Nat} {loc : List (Option Value)} {rest : List Value} {n : Nat} {iv : zI} {rv : zR} {lv : zJ} {Q : zQ} {o idx : Nat} {r : Nat} (hd : decode M.2.1 pc = .ok (.getfield idx, 3)) (hl : Cond.fieldLink M.1.cls idx "NumberHeaps" "reader" "LNumberHeaps$Reader;" ∈ Wd) (hs : zSH o = (30, 15)) (ho : o < n) (hr : rv o 0 = some r) (hq : pc + 3 = q) (k : Z M B q loc (.ref r :: rest) n iv rv lv Q) : Z M B pc loc (.ref o :: rest) n iv rv lv Q := Z_getR (ci := 10) (k0 := 0) (T := TX10) (C := RX10) (N := 15) hd rfl inW10 (by decide) hl hs ho rfl hr hq k
theorem pf10_0 {M : zM} {B : zB} {pc q : Nat} {loc : List (Option Value)} {rest : List Value} {n : Nat} {iv : zI} {rv : zR} {lv : zJ} {Q : zQ} {o idx : Nat} {x : Nat} (hd : decode M.2.1 pc = .ok (.putfield idx, 3)) (hl : Cond.fieldLink M.1.cls idx "NumberHeaps" "reader" "LNumberHeaps$Reader;" ∈ Wd) (hs : zSH o = (30, 15)) (ho : o < n) (hini : M.1.name = "<init>") (hdecl : "NumberHeaps" = M.1.cls) (hq : pc + 3 = q) (k : Z M B q loc rest n iv (zu rv o 0 (some x)) lv Q) : Z M B pc loc (.ref x :: .ref o :: rest) n iv rv lv Q := Z_putRF (ci := 10) (k0 := 0) (T := TX10) (C := RX10) (N := 15) hd rfl inW10 (by decide) hl hs ho zty10_ok nmX10 rfl hini hdecl rfl (fun _ => rfl) (fun _ => rfl) hq k
theorem g10_1 {M : zM} {B : zB} {pc q : Nat} {loc : List (Option Value)} {rest : List Value} {n : Nat} {iv : zI} {rv : zR} {lv : zJ} {Q : zQ} {o idx : Nat} {r : Nat} (hd : decode M.2.1 pc = .ok (.getfield idx, 3)) (hl : Cond.fieldLink M.1.cls idx "NumberHeaps" "state" "LNumberHeaps$State;" ∈ Wd) (hs : zSH o = (30, 15)) (ho : o < n) (hr : rv o 1 = some r) (hq : pc + 3 = q) (k : Z M B q loc (.ref r :: rest) n iv rv lv Q) : Z M B pc loc (.ref o :: rest) n iv rv lv Q := Z_getR (ci := 10) (k0 := 1) (T := TX10) (C := RX10) (N := 15) hd rfl inW10 (by decide) hl hs ho rfl hr hq k
theorem pf10_1 {M : zM} {B : zB} {pc q : Nat} {loc : List (Option Value)} {rest : List Value} {n : Nat} {iv : zI} {rv : zR} {lv : zJ} {Q : zQ} {o idx : Nat} {x : Nat} (hd : decode M.2.1 pc = .ok (.putfield idx, 3)) (hl : Cond.fieldLink M.1.cls idx "NumberHeaps" "state" "LNumberHeaps$State;" ∈ Wd) (hs : zSH o = (30, 15)) (ho : o < n) (hini : M.1.name = "<init>") (hdecl : "NumberHeaps" = M.1.cls) (hq : pc + 3 = q) (k : Z M B q loc rest n iv (zu rv o 1 (some x)) lv Q) : Z M B pc loc (.ref x :: .ref o :: rest) n iv rv lv Q := Z_putRF (ci := 10) (k0 := 1) (T := TX10) (C := RX10) (N := 15) hd rfl inW10 (by decide) hl hs ho zty10_ok nmX10 rfl hini hdecl rfl (fun _ => rfl) (fun _ => rfl) hq k
theorem g10_2 {M : zM} {B : zB} {pc q : Nat} {loc : List (Option Value)} {rest : List Value} {n : Nat} {iv : zI} {rv : zR} {lv : zJ} {Q : zQ} {o idx : Nat} {r : Nat} (hd : decode M.2.1 pc = .ok (.getfield idx, 3)) (hl : Cond.fieldLink M.1.cls idx "NumberHeaps" "history" "LNumberHeaps$History;" ∈ Wd) (hs : zSH o = (30, 15)) (ho : o < n) (hr : rv o 2 = some r) (hq : pc + 3 = q) (k : Z M B q loc (.ref r :: rest) n iv rv lv Q) : Z M B pc loc (.ref o :: rest) n iv rv lv Q := Z_getR (ci := 10) (k0 := 2) (T := TX10) (C := RX10) (N := 15) hd rfl inW10 (by decide) hl hs ho rfl hr hq k
theorem pf10_2 {M : zM} {B : zB} {pc q : Nat} {loc : List (Option Value)} {rest : List Value} {n : Nat} {iv : zI} {rv : zR} {lv : zJ} {Q : zQ} {o idx : Nat} {x : Nat} (hd : decode M.2.1 pc = .ok (.putfield idx, 3)) (hl : Cond.fieldLink M.1.cls idx "NumberHeaps" "history" "LNumberHeaps$History;" ∈ Wd) (hs : zSH o = (30, 15)) (ho : o < n) (hini : M.1.name = "<init>") (hdecl : "NumberHeaps" = M.1.cls) (hq : pc + 3 = q) (k : Z M B q loc rest n iv (zu rv o 2 (some x)) lv Q) : Z M B pc loc (.ref x :: .ref o :: rest) n iv rv lv Q := Z_putRF (ci := 10) (k0 := 2) (T := TX10) (C := RX10) (N := 15) hd rfl inW10 (by decide) hl hs ho zty10_ok nmX10 rfl hini hdecl rfl (fun _ => rfl) (fun _ => rfl) hq k
theorem g10_3 {M : zM} {B : zB} {pc q : Nat} {loc : List (Option Value)} {rest : List Value} {n : Nat} {iv : zI} {rv : zR} {lv : zJ} {Q : zQ} {o idx : Nat} (hd : decode M.2.1 pc = .ok (.getfield idx, 3)) (hl : Cond.fieldLink M.1.cls idx "NumberHeaps" "version" "I" ∈ Wd) (hs : zSH o = (30, 15)) (ho : o < n) (hq : pc + 3 = q) (k : Z M B q loc (.int (iv o 3) :: rest) n iv rv lv Q) : Z M B pc loc (.ref o :: rest) n iv rv lv Q := Z_getI (ci := 10) (k0 := 3) (T := TX10) (C := RX10) (N := 15) hd rfl inW10 (by decide) hl hs ho rfl hq k
theorem p10_3 {M : zM} {B : zB} {pc q : Nat} {loc : List (Option Value)} {rest : List Value} {n : Nat} {iv : zI} {rv : zR} {lv : zJ} {Q : zQ} {o idx : Nat} {x : Int32} (hd : decode M.2.1 pc = .ok (.putfield idx, 3)) (hl : Cond.fieldLink M.1.cls idx "NumberHeaps" "version" "I" ∈ Wd) (hs : zSH o = (30, 15)) (ho : o < n) (hq : pc + 3 = q) (k : Z M B q loc rest n (zu iv o 3 x) rv lv Q) : Z M B pc loc (.int x :: .ref o :: rest) n iv rv lv Q := Z_putI (ci := 10) (k0 := 3) (T := TX10) (C := RX10) (N := 15) hd rfl inW10 (by decide) hl hs ho zty10_ok nmX10 rfl rfl (fun _ => rfl) (fun _ => rfl) hq k
theorem g10_4 {M : zM} {B : zB} {pc q : Nat} {loc : List (Option Value)} {rest : List Value} {n : Nat} {iv : zI} {rv : zR} {lv : zJ} {Q : zQ} {o idx : Nat} {r : Nat} (hd : decode M.2.1 pc = .ok (.getfield idx, 3)) (hl : Cond.fieldLink M.1.cls idx "NumberHeaps" "filling" "LNumberHeaps$Filling;" ∈ Wd) (hs : zSH o = (30, 15)) (ho : o < n) (hr : rv o 4 = some r) (hq : pc + 3 = q) (k : Z M B q loc (.ref r :: rest) n iv rv lv Q) : Z M B pc loc (.ref o :: rest) n iv rv lv Q := Z_getR (ci := 10) (k0 := 4) (T := TX10) (C := RX10) (N := 15) hd rfl inW10 (by decide) hl hs ho rfl hr hq k
theorem pf10_4 {M : zM} {B : zB} {pc q : Nat} {loc : List (Option Value)} {rest : List Value} {n : Nat} {iv : zI} {rv : zR} {lv : zJ} {Q : zQ} {o idx : Nat} {x : Nat} (hd : decode M.2.1 pc = .ok (.putfield idx, 3)) (hl : Cond.fieldLink M.1.cls idx "NumberHeaps" "filling" "LNumberHeaps$Filling;" ∈ Wd) (hs : zSH o = (30, 15)) (ho : o < n) (hini : M.1.name = "<init>") (hdecl : "NumberHeaps" = M.1.cls) (hq : pc + 3 = q) (k : Z M B q loc rest n iv (zu rv o 4 (some x)) lv Q) : Z M B pc loc (.ref x :: .ref o :: rest) n iv rv lv Q := Z_putRF (ci := 10) (k0 := 4) (T := TX10) (C := RX10) (N := 15) hd rfl inW10 (by decide) hl hs ho zty10_ok nmX10 rfl hini hdecl rfl (fun _ => rfl) (fun _ => rfl) hq k
theorem g10_5 {M : zM} {B : zB} {pc q : Nat} {loc : List (Option Value)} {rest : List Value} {n : Nat} {iv : zI} {rv : zR} {lv : zJ} {Q : zQ} {o idx : Nat} {r : Nat} (hd : decode M.2.1 pc = .ok (.getfield idx, 3)) (hl : Cond.fieldLink M.1.cls idx "NumberHeaps" "differencing" "LNumberHeaps$Differencing;" ∈ Wd) (hs : zSH o = (30, 15)) (ho : o < n) (hr : rv o 5 = some r) (hq : pc + 3 = q) (k : Z M B q loc (.ref r :: rest) n iv rv lv Q) : Z M B pc loc (.ref o :: rest) n iv rv lv Q := Z_getR (ci := 10) (k0 := 5) (T := TX10) (C := RX10) (N := 15) hd rfl inW10 (by decide) hl hs ho rfl hr hq k
theorem pf10_5 {M : zM} {B : zB} {pc q : Nat} {loc : List (Option Value)} {rest : List Value} {n : Nat} {iv : zI} {rv : zR} {lv : zJ} {Q : zQ} {o idx : Nat} {x : Nat} (hd : decode M.2.1 pc = .ok (.putfield idx, 3)) (hl : Cond.fieldLink M.1.cls idx "NumberHeaps" "differencing" "LNumberHeaps$Differencing;" ∈ Wd) (hs : zSH o = (30, 15)) (ho : o < n) (hini : M.1.name = "<init>") (hdecl : "NumberHeaps" = M.1.cls) (hq : pc + 3 = q) (k : Z M B q loc rest n iv (zu rv o 5 (some x)) lv Q) : Z M B pc loc (.ref x :: .ref o :: rest) n iv rv lv Q := Z_putRF (ci := 10) (k0 := 5) (T := TX10) (C := RX10) (N := 15) hd rfl inW10 (by decide) hl hs ho zty10_ok nmX10 rfl hini hdecl rfl (fun _ => rfl) (fun _ => rfl) hq k
theorem g10_6 {M : zM} {B : zB} {pc q : Nat} {loc : List (Option Value)} {rest : List Value} {n : Nat} {iv : zI} {rv : zR} {lv : zJ} {Q : zQ} {o idx : Nat} {r : Nat} (hd : decode M.2.1 pc = .ok (.getfield idx, 3)) (hl : Cond.fieldLink M.1.cls idx "NumberHeaps" "searching" "LNumberHeaps$Search;" ∈ Wd) (hs : zSH o = (30, 15)) (ho : o < n) (hr : rv o 6 = some r) (hq : pc + 3 = q) (k : Z M B q loc (.ref r :: rest) n iv rv lv Q) : Z M B pc loc (.ref o :: rest) n iv rv lv Q := Z_getR (ci := 10) (k0 := 6) (T := TX10) (C := RX10) (N := 15) hd rfl inW10 (by decide) hl hs ho rfl hr hq k
theorem pf10_6 {M : zM} {B : zB} {pc q : Nat} {loc : List (Option Value)} {rest : List Value} {n : Nat} {iv : zI} {rv : zR} {lv : zJ} {Q : zQ} {o idx : Nat} {x : Nat} (hd : decode M.2.1 pc = .ok (.putfield idx, 3)) (hl : Cond.fieldLink M.1.cls idx "NumberHeaps" "searching" "LNumberHeaps$Search;" ∈ Wd) (hs : zSH o = (30, 15)) (ho : o < n) (hini : M.1.name = "<init>") (hdecl : "NumberHeaps" = M.1.cls) (hq : pc + 3 = q) (k : Z M B q loc rest n iv (zu rv o 6 (some x)) lv Q) : Z M B pc loc (.ref x :: .ref o :: rest) n iv rv lv Q := Z_putRF (ci := 10) (k0 := 6) (T := TX10) (C := RX10) (N := 15) hd rfl inW10 (by decide) hl hs ho zty10_ok nmX10 rfl hini hdecl rfl (fun _ => rfl) (fun _ => rfl) hq k
theorem g10_7 {M : zM} {B : zB} {pc q : Nat} {loc : List (Option Value)} {rest : List Value} {n : Nat} {iv : zI} {rv : zR} {lv : zJ} {Q : zQ} {o idx : Nat} {r : Nat} (hd : decode M.2.1 pc = .ok (.getfield idx, 3)) (hl : Cond.fieldLink M.1.cls idx "NumberHeaps" "several" "LNumberHeaps$Multi;" ∈ Wd) (hs : zSH o = (30, 15)) (ho : o < n) (hr : rv o 7 = some r) (hq : pc + 3 = q) (k : Z M B q loc (.ref r :: rest) n iv rv lv Q) : Z M B pc loc (.ref o :: rest) n iv rv lv Q := Z_getR (ci := 10) (k0 := 7) (T := TX10) (C := RX10) (N := 15) hd rfl inW10 (by decide) hl hs ho rfl hr hq k
theorem pf10_7 {M : zM} {B : zB} {pc q : Nat} {loc : List (Option Value)} {rest : List Value} {n : Nat} {iv : zI} {rv : zR} {lv : zJ} {Q : zQ} {o idx : Nat} {x : Nat} (hd : decode M.2.1 pc = .ok (.putfield idx, 3)) (hl : Cond.fieldLink M.1.cls idx "NumberHeaps" "several" "LNumberHeaps$Multi;" ∈ Wd) (hs : zSH o = (30, 15)) (ho : o < n) (hini : M.1.name = "<init>") (hdecl : "NumberHeaps" = M.1.cls) (hq : pc + 3 = q) (k : Z M B q loc rest n iv (zu rv o 7 (some x)) lv Q) : Z M B pc loc (.ref x :: .ref o :: rest) n iv rv lv Q := Z_putRF (ci := 10) (k0 := 7) (T := TX10) (C := RX10) (N := 15) hd rfl inW10 (by decide) hl hs ho zty10_ok nmX10 rfl hini hdecl rfl (fun _ => rfl) (fun _ => rfl) hq k
theorem g10_8 {M : zM} {B : zB} {pc q : Nat} {loc : List (Option Value)} {rest : List Value} {n : Nat} {iv : zI} {rv : zR} {lv : zJ} {Q : zQ} {o idx : Nat} {r : Nat} (hd : decode M.2.1 pc = .ok (.getfield idx, 3)) (hl : Cond.fieldLink M.1.cls idx "NumberHeaps" "partings" "[LNumberHeaps$Partings;" ∈ Wd) (hs : zSH o = (30, 15)) (ho : o < n) (hr : rv o 8 = some r) (hq : pc + 3 = q) (k : Z M B q loc (.ref r :: rest) n iv rv lv Q) : Z M B pc loc (.ref o :: rest) n iv rv lv Q := Z_getR (ci := 10) (k0 := 8) (T := TX10) (C := RX10) (N := 15) hd rfl inW10 (by decide) hl hs ho rfl hr hq k
theorem pf10_8 {M : zM} {B : zB} {pc q : Nat} {loc : List (Option Value)} {rest : List Value} {n : Nat} {iv : zI} {rv : zR} {lv : zJ} {Q : zQ} {o idx : Nat} {x : Nat} (hd : decode M.2.1 pc = .ok (.putfield idx, 3)) (hl : Cond.fieldLink M.1.cls idx "NumberHeaps" "partings" "[LNumberHeaps$Partings;" ∈ Wd) (hs : zSH o = (30, 15)) (ho : o < n) (hini : M.1.name = "<init>") (hdecl : "NumberHeaps" = M.1.cls) (hq : pc + 3 = q) (k : Z M B q loc rest n iv (zu rv o 8 (some x)) lv Q) : Z M B pc loc (.ref x :: .ref o :: rest) n iv rv lv Q := Z_putRF (ci := 10) (k0 := 8) (T := TX10) (C := RX10) (N := 15) hd rfl inW10 (by decide) hl hs ho zty10_ok nmX10 rfl hini hdecl rfl (fun _ => rfl) (fun _ => rfl) hq k
theorem g10_9 {M : zM} {B : zB} {pc q : Nat} {loc : List (Option Value)} {rest : List Value} {n : Nat} {iv : zI} {rv : zR} {lv : zJ} {Q : zQ} {o idx : Nat} {r : Nat} (hd : decode M.2.1 pc = .ok (.getfield idx, 3)) (hl : Cond.fieldLink M.1.cls idx "NumberHeaps" "setSums" "LNumberHeaps$SetSums;" ∈ Wd) (hs : zSH o = (30, 15)) (ho : o < n) (hr : rv o 9 = some r) (hq : pc + 3 = q) (k : Z M B q loc (.ref r :: rest) n iv rv lv Q) : Z M B pc loc (.ref o :: rest) n iv rv lv Q := Z_getR (ci := 10) (k0 := 9) (T := TX10) (C := RX10) (N := 15) hd rfl inW10 (by decide) hl hs ho rfl hr hq k
theorem pf10_9 {M : zM} {B : zB} {pc q : Nat} {loc : List (Option Value)} {rest : List Value} {n : Nat} {iv : zI} {rv : zR} {lv : zJ} {Q : zQ} {o idx : Nat} {x : Nat} (hd : decode M.2.1 pc = .ok (.putfield idx, 3)) (hl : Cond.fieldLink M.1.cls idx "NumberHeaps" "setSums" "LNumberHeaps$SetSums;" ∈ Wd) (hs : zSH o = (30, 15)) (ho : o < n) (hini : M.1.name = "<init>") (hdecl : "NumberHeaps" = M.1.cls) (hq : pc + 3 = q) (k : Z M B q loc rest n iv (zu rv o 9 (some x)) lv Q) : Z M B pc loc (.ref x :: .ref o :: rest) n iv rv lv Q := Z_putRF (ci := 10) (k0 := 9) (T := TX10) (C := RX10) (N := 15) hd rfl inW10 (by decide) hl hs ho zty10_ok nmX10 rfl hini hdecl rfl (fun _ => rfl) (fun _ => rfl) hq k
theorem g10_10 {M : zM} {B : zB} {pc q : Nat} {loc : List (Option Value)} {rest : List Value} {n : Nat} {iv : zI} {rv : zR} {lv : zJ} {Q : zQ} {o idx : Nat} {r : Nat} (hd : decode M.2.1 pc = .ok (.getfield idx, 3)) (hl : Cond.fieldLink M.1.cls idx "NumberHeaps" "written" "[B" ∈ Wd) (hs : zSH o = (30, 15)) (ho : o < n) (hr : rv o 10 = some r) (hq : pc + 3 = q) (k : Z M B q loc (.ref r :: rest) n iv rv lv Q) : Z M B pc loc (.ref o :: rest) n iv rv lv Q := Z_getR (ci := 10) (k0 := 10) (T := TX10) (C := RX10) (N := 15) hd rfl inW10 (by decide) hl hs ho rfl hr hq k
theorem pf10_10 {M : zM} {B : zB} {pc q : Nat} {loc : List (Option Value)} {rest : List Value} {n : Nat} {iv : zI} {rv : zR} {lv : zJ} {Q : zQ} {o idx : Nat} {x : Nat} (hd : decode M.2.1 pc = .ok (.putfield idx, 3)) (hl : Cond.fieldLink M.1.cls idx "NumberHeaps" "written" "[B" ∈ Wd) (hs : zSH o = (30, 15)) (ho : o < n) (hini : M.1.name = "<init>") (hdecl : "NumberHeaps" = M.1.cls) (hq : pc + 3 = q) (k : Z M B q loc rest n iv (zu rv o 10 (some x)) lv Q) : Z M B pc loc (.ref x :: .ref o :: rest) n iv rv lv Q := Z_putRF (ci := 10) (k0 := 10) (T := TX10) (C := RX10) (N := 15) hd rfl inW10 (by decide) hl hs ho zty10_ok nmX10 rfl hini hdecl rfl (fun _ => rfl) (fun _ => rfl) hq k
theorem g10_11 {M : zM} {B : zB} {pc q : Nat} {loc : List (Option Value)} {rest : List Value} {n : Nat} {iv : zI} {rv : zR} {lv : zJ} {Q : zQ} {o idx : Nat} (hd : decode M.2.1 pc = .ok (.getfield idx, 3)) (hl : Cond.fieldLink M.1.cls idx "NumberHeaps" "writtenBytes" "I" ∈ Wd) (hs : zSH o = (30, 15)) (ho : o < n) (hq : pc + 3 = q) (k : Z M B q loc (.int (iv o 11) :: rest) n iv rv lv Q) : Z M B pc loc (.ref o :: rest) n iv rv lv Q := Z_getI (ci := 10) (k0 := 11) (T := TX10) (C := RX10) (N := 15) hd rfl inW10 (by decide) hl hs ho rfl hq k
theorem p10_11 {M : zM} {B : zB} {pc q : Nat} {loc : List (Option Value)} {rest : List Value} {n : Nat} {iv : zI} {rv : zR} {lv : zJ} {Q : zQ} {o idx : Nat} {x : Int32} (hd : decode M.2.1 pc = .ok (.putfield idx, 3)) (hl : Cond.fieldLink M.1.cls idx "NumberHeaps" "writtenBytes" "I" ∈ Wd) (hs : zSH o = (30, 15)) (ho : o < n) (hq : pc + 3 = q) (k : Z M B q loc rest n (zu iv o 11 x) rv lv Q) : Z M B pc loc (.int x :: .ref o :: rest) n iv rv lv Q := Z_putI (ci := 10) (k0 := 11) (T := TX10) (C := RX10) (N := 15) hd rfl inW10 (by decide) hl hs ho zty10_ok nmX10 rfl rfl (fun _ => rfl) (fun _ => rfl) hq k
theorem g10_12 {M : zM} {B : zB} {pc q : Nat} {loc : List (Option Value)} {rest : List Value} {n : Nat} {iv : zI} {rv : zR} {lv : zJ} {Q : zQ} {o idx : Nat} (hd : decode M.2.1 pc = .ok (.getfield idx, 3)) (hl : Cond.fieldLink M.1.cls idx "NumberHeaps" "troubleNumber" "I" ∈ Wd) (hs : zSH o = (30, 15)) (ho : o < n) (hq : pc + 3 = q) (k : Z M B q loc (.int (iv o 12) :: rest) n iv rv lv Q) : Z M B pc loc (.ref o :: rest) n iv rv lv Q := Z_getI (ci := 10) (k0 := 12) (T := TX10) (C := RX10) (N := 15) hd rfl inW10 (by decide) hl hs ho rfl hq k
theorem p10_12 {M : zM} {B : zB} {pc q : Nat} {loc : List (Option Value)} {rest : List Value} {n : Nat} {iv : zI} {rv : zR} {lv : zJ} {Q : zQ} {o idx : Nat} {x : Int32} (hd : decode M.2.1 pc = .ok (.putfield idx, 3)) (hl : Cond.fieldLink M.1.cls idx "NumberHeaps" "troubleNumber" "I" ∈ Wd) (hs : zSH o = (30, 15)) (ho : o < n) (hq : pc + 3 = q) (k : Z M B q loc rest n (zu iv o 12 x) rv lv Q) : Z M B pc loc (.int x :: .ref o :: rest) n iv rv lv Q := Z_putI (ci := 10) (k0 := 12) (T := TX10) (C := RX10) (N := 15) hd rfl inW10 (by decide) hl hs ho zty10_ok nmX10 rfl rfl (fun _ => rfl) (fun _ => rfl) hq k
theorem g10_13 {M : zM} {B : zB} {pc q : Nat} {loc : List (Option Value)} {rest : List Value} {n : Nat} {iv : zI} {rv : zR} {lv : zJ} {Q : zQ} {o idx : Nat} (hd : decode M.2.1 pc = .ok (.getfield idx, 3)) (hl : Cond.fieldLink M.1.cls idx "NumberHeaps" "faultNumber" "I" ∈ Wd) (hs : zSH o = (30, 15)) (ho : o < n) (hq : pc + 3 = q) (k : Z M B q loc (.int (iv o 13) :: rest) n iv rv lv Q) : Z M B pc loc (.ref o :: rest) n iv rv lv Q := Z_getI (ci := 10) (k0 := 13) (T := TX10) (C := RX10) (N := 15) hd rfl inW10 (by decide) hl hs ho rfl hq k
theorem p10_13 {M : zM} {B : zB} {pc q : Nat} {loc : List (Option Value)} {rest : List Value} {n : Nat} {iv : zI} {rv : zR} {lv : zJ} {Q : zQ} {o idx : Nat} {x : Int32} (hd : decode M.2.1 pc = .ok (.putfield idx, 3)) (hl : Cond.fieldLink M.1.cls idx "NumberHeaps" "faultNumber" "I" ∈ Wd) (hs : zSH o = (30, 15)) (ho : o < n) (hq : pc + 3 = q) (k : Z M B q loc rest n (zu iv o 13 x) rv lv Q) : Z M B pc loc (.int x :: .ref o :: rest) n iv rv lv Q := Z_putI (ci := 10) (k0 := 13) (T := TX10) (C := RX10) (N := 15) hd rfl inW10 (by decide) hl hs ho zty10_ok nmX10 rfl rfl (fun _ => rfl) (fun _ => rfl) hq k
theorem g10_14 {M : zM} {B : zB} {pc q : Nat} {loc : List (Option Value)} {rest : List Value} {n : Nat} {iv : zI} {rv : zR} {lv : zJ} {Q : zQ} {o idx : Nat} (hd : decode M.2.1 pc = .ok (.getfield idx, 3)) (hl : Cond.fieldLink M.1.cls idx "NumberHeaps" "faultPlace" "I" ∈ Wd) (hs : zSH o = (30, 15)) (ho : o < n) (hq : pc + 3 = q) (k : Z M B q loc (.int (iv o 14) :: rest) n iv rv lv Q) : Z M B pc loc (.ref o :: rest) n iv rv lv Q := Z_getI (ci := 10) (k0 := 14) (T := TX10) (C := RX10) (N := 15) hd rfl inW10 (by decide) hl hs ho rfl hq k
theorem p10_14 {M : zM} {B : zB} {pc q : Nat} {loc : List (Option Value)} {rest : List Value} {n : Nat} {iv : zI} {rv : zR} {lv : zJ} {Q : zQ} {o idx : Nat} {x : Int32} (hd : decode M.2.1 pc = .ok (.putfield idx, 3)) (hl : Cond.fieldLink M.1.cls idx "NumberHeaps" "faultPlace" "I" ∈ Wd) (hs : zSH o = (30, 15)) (ho : o < n) (hq : pc + 3 = q) (k : Z M B q loc rest n (zu iv o 14 x) rv lv Q) : Z M B pc loc (.int x :: .ref o :: rest) n iv rv lv Q := Z_putI (ci := 10) (k0 := 14) (T := TX10) (C := RX10) (N := 15) hd rfl inW10 (by decide) hl hs ho zty10_ok nmX10 rfl rfl (fun _ => rfl) (fun _ => rfl) hq k
theorem zty11_ok : ∀ k, k < 52 → parseFieldDescriptor (TX11 k).2.2.1 = some (zty 11 k) := tyX11_ok
theorem g11_0 {M : zM} {B : zB} {pc q : Nat} {loc : List (Option Value)} {rest : List Value} {n : Nat} {iv : zI} {rv : zR} {lv : zJ} {Q : zQ} {o idx : Nat} (hd : decode M.2.1 pc = .ok (.getfield idx, 3)) (hl : Cond.fieldLink M.1.cls idx "NumberHeapsModel" "thrown" "I" ∈ Wd) (hs : zSH o = (31, 52)) (ho : o < n) (hq : pc + 3 = q) (k : Z M B q loc (.int (iv o 0) :: rest) n iv rv lv Q) : Z M B pc loc (.ref o :: rest) n iv rv lv Q := Z_getI (ci := 11) (k0 := 0) (T := TX11) (C := RX11) (N := 52) hd rfl inW11 (by decide) hl hs ho rfl hq k
theorem p11_0 {M : zM} {B : zB} {pc q : Nat} {loc : List (Option Value)} {rest : List Value} {n : Nat} {iv : zI} {rv : zR} {lv : zJ} {Q : zQ} {o idx : Nat} {x : Int32} (hd : decode M.2.1 pc = .ok (.putfield idx, 3)) (hl : Cond.fieldLink M.1.cls idx "NumberHeapsModel" "thrown" "I" ∈ Wd) (hs : zSH o = (31, 52)) (ho : o < n) (hq : pc + 3 = q) (k : Z M B q loc rest n (zu iv o 0 x) rv lv Q) : Z M B pc loc (.int x :: .ref o :: rest) n iv rv lv Q := Z_putI (ci := 11) (k0 := 0) (T := TX11) (C := RX11) (N := 52) hd rfl inW11 (by decide) hl hs ho zty11_ok nmX11 rfl rfl (fun _ => rfl) (fun _ => rfl) hq k
theorem g11_1 {M : zM} {B : zB} {pc q : Nat} {loc : List (Option Value)} {rest : List Value} {n : Nat} {iv : zI} {rv : zR} {lv : zJ} {Q : zQ} {o idx : Nat} (hd : decode M.2.1 pc = .ok (.getfield idx, 3)) (hl : Cond.fieldLink M.1.cls idx "NumberHeapsModel" "trouble" "I" ∈ Wd) (hs : zSH o = (31, 52)) (ho : o < n) (hq : pc + 3 = q) (k : Z M B q loc (.int (iv o 1) :: rest) n iv rv lv Q) : Z M B pc loc (.ref o :: rest) n iv rv lv Q := Z_getI (ci := 11) (k0 := 1) (T := TX11) (C := RX11) (N := 52) hd rfl inW11 (by decide) hl hs ho rfl hq k
theorem p11_1 {M : zM} {B : zB} {pc q : Nat} {loc : List (Option Value)} {rest : List Value} {n : Nat} {iv : zI} {rv : zR} {lv : zJ} {Q : zQ} {o idx : Nat} {x : Int32} (hd : decode M.2.1 pc = .ok (.putfield idx, 3)) (hl : Cond.fieldLink M.1.cls idx "NumberHeapsModel" "trouble" "I" ∈ Wd) (hs : zSH o = (31, 52)) (ho : o < n) (hq : pc + 3 = q) (k : Z M B q loc rest n (zu iv o 1 x) rv lv Q) : Z M B pc loc (.int x :: .ref o :: rest) n iv rv lv Q := Z_putI (ci := 11) (k0 := 1) (T := TX11) (C := RX11) (N := 52) hd rfl inW11 (by decide) hl hs ho zty11_ok nmX11 rfl rfl (fun _ => rfl) (fun _ => rfl) hq k
theorem g11_2 {M : zM} {B : zB} {pc q : Nat} {loc : List (Option Value)} {rest : List Value} {n : Nat} {iv : zI} {rv : zR} {lv : zJ} {Q : zQ} {o idx : Nat} (hd : decode M.2.1 pc = .ok (.getfield idx, 3)) (hl : Cond.fieldLink M.1.cls idx "NumberHeapsModel" "wrongAt" "I" ∈ Wd) (hs : zSH o = (31, 52)) (ho : o < n) (hq : pc + 3 = q) (k : Z M B q loc (.int (iv o 2) :: rest) n iv rv lv Q) : Z M B pc loc (.ref o :: rest) n iv rv lv Q := Z_getI (ci := 11) (k0 := 2) (T := TX11) (C := RX11) (N := 52) hd rfl inW11 (by decide) hl hs ho rfl hq k
theorem p11_2 {M : zM} {B : zB} {pc q : Nat} {loc : List (Option Value)} {rest : List Value} {n : Nat} {iv : zI} {rv : zR} {lv : zJ} {Q : zQ} {o idx : Nat} {x : Int32} (hd : decode M.2.1 pc = .ok (.putfield idx, 3)) (hl : Cond.fieldLink M.1.cls idx "NumberHeapsModel" "wrongAt" "I" ∈ Wd) (hs : zSH o = (31, 52)) (ho : o < n) (hq : pc + 3 = q) (k : Z M B q loc rest n (zu iv o 2 x) rv lv Q) : Z M B pc loc (.int x :: .ref o :: rest) n iv rv lv Q := Z_putI (ci := 11) (k0 := 2) (T := TX11) (C := RX11) (N := 52) hd rfl inW11 (by decide) hl hs ho zty11_ok nmX11 rfl rfl (fun _ => rfl) (fun _ => rfl) hq k
theorem g11_3 {M : zM} {B : zB} {pc q : Nat} {loc : List (Option Value)} {rest : List Value} {n : Nat} {iv : zI} {rv : zR} {lv : zJ} {Q : zQ} {o idx : Nat} {r : Nat} (hd : decode M.2.1 pc = .ok (.getfield idx, 3)) (hl : Cond.fieldLink M.1.cls idx "NumberHeapsModel" "tape" "[I" ∈ Wd) (hs : zSH o = (31, 52)) (ho : o < n) (hr : rv o 3 = some r) (hq : pc + 3 = q) (k : Z M B q loc (.ref r :: rest) n iv rv lv Q) : Z M B pc loc (.ref o :: rest) n iv rv lv Q := Z_getR (ci := 11) (k0 := 3) (T := TX11) (C := RX11) (N := 52) hd rfl inW11 (by decide) hl hs ho rfl hr hq k
theorem pf11_3 {M : zM} {B : zB} {pc q : Nat} {loc : List (Option Value)} {rest : List Value} {n : Nat} {iv : zI} {rv : zR} {lv : zJ} {Q : zQ} {o idx : Nat} {x : Nat} (hd : decode M.2.1 pc = .ok (.putfield idx, 3)) (hl : Cond.fieldLink M.1.cls idx "NumberHeapsModel" "tape" "[I" ∈ Wd) (hs : zSH o = (31, 52)) (ho : o < n) (hini : M.1.name = "<init>") (hdecl : "NumberHeapsModel" = M.1.cls) (hq : pc + 3 = q) (k : Z M B q loc rest n iv (zu rv o 3 (some x)) lv Q) : Z M B pc loc (.ref x :: .ref o :: rest) n iv rv lv Q := Z_putRF (ci := 11) (k0 := 3) (T := TX11) (C := RX11) (N := 52) hd rfl inW11 (by decide) hl hs ho zty11_ok nmX11 rfl hini hdecl rfl (fun _ => rfl) (fun _ => rfl) hq k
theorem g11_4 {M : zM} {B : zB} {pc q : Nat} {loc : List (Option Value)} {rest : List Value} {n : Nat} {iv : zI} {rv : zR} {lv : zJ} {Q : zQ} {o idx : Nat} (hd : decode M.2.1 pc = .ok (.getfield idx, 3)) (hl : Cond.fieldLink M.1.cls idx "NumberHeapsModel" "taped" "I" ∈ Wd) (hs : zSH o = (31, 52)) (ho : o < n) (hq : pc + 3 = q) (k : Z M B q loc (.int (iv o 4) :: rest) n iv rv lv Q) : Z M B pc loc (.ref o :: rest) n iv rv lv Q := Z_getI (ci := 11) (k0 := 4) (T := TX11) (C := RX11) (N := 52) hd rfl inW11 (by decide) hl hs ho rfl hq k
theorem p11_4 {M : zM} {B : zB} {pc q : Nat} {loc : List (Option Value)} {rest : List Value} {n : Nat} {iv : zI} {rv : zR} {lv : zJ} {Q : zQ} {o idx : Nat} {x : Int32} (hd : decode M.2.1 pc = .ok (.putfield idx, 3)) (hl : Cond.fieldLink M.1.cls idx "NumberHeapsModel" "taped" "I" ∈ Wd) (hs : zSH o = (31, 52)) (ho : o < n) (hq : pc + 3 = q) (k : Z M B q loc rest n (zu iv o 4 x) rv lv Q) : Z M B pc loc (.int x :: .ref o :: rest) n iv rv lv Q := Z_putI (ci := 11) (k0 := 4) (T := TX11) (C := RX11) (N := 52) hd rfl inW11 (by decide) hl hs ho zty11_ok nmX11 rfl rfl (fun _ => rfl) (fun _ => rfl) hq k
theorem g11_5 {M : zM} {B : zB} {pc q : Nat} {loc : List (Option Value)} {rest : List Value} {n : Nat} {iv : zI} {rv : zR} {lv : zJ} {Q : zQ} {o idx : Nat} (hd : decode M.2.1 pc = .ok (.getfield idx, 3)) (hl : Cond.fieldLink M.1.cls idx "NumberHeapsModel" "size" "I" ∈ Wd) (hs : zSH o = (31, 52)) (ho : o < n) (hq : pc + 3 = q) (k : Z M B q loc (.int (iv o 5) :: rest) n iv rv lv Q) : Z M B pc loc (.ref o :: rest) n iv rv lv Q := Z_getI (ci := 11) (k0 := 5) (T := TX11) (C := RX11) (N := 52) hd rfl inW11 (by decide) hl hs ho rfl hq k
theorem p11_5 {M : zM} {B : zB} {pc q : Nat} {loc : List (Option Value)} {rest : List Value} {n : Nat} {iv : zI} {rv : zR} {lv : zJ} {Q : zQ} {o idx : Nat} {x : Int32} (hd : decode M.2.1 pc = .ok (.putfield idx, 3)) (hl : Cond.fieldLink M.1.cls idx "NumberHeapsModel" "size" "I" ∈ Wd) (hs : zSH o = (31, 52)) (ho : o < n) (hq : pc + 3 = q) (k : Z M B q loc rest n (zu iv o 5 x) rv lv Q) : Z M B pc loc (.int x :: .ref o :: rest) n iv rv lv Q := Z_putI (ci := 11) (k0 := 5) (T := TX11) (C := RX11) (N := 52) hd rfl inW11 (by decide) hl hs ho zty11_ok nmX11 rfl rfl (fun _ => rfl) (fun _ => rfl) hq k
theorem g11_6 {M : zM} {B : zB} {pc q : Nat} {loc : List (Option Value)} {rest : List Value} {n : Nat} {iv : zI} {rv : zR} {lv : zJ} {Q : zQ} {o idx : Nat} (hd : decode M.2.1 pc = .ok (.getfield idx, 3)) (hl : Cond.fieldLink M.1.cls idx "NumberHeapsModel" "spot" "I" ∈ Wd) (hs : zSH o = (31, 52)) (ho : o < n) (hq : pc + 3 = q) (k : Z M B q loc (.int (iv o 6) :: rest) n iv rv lv Q) : Z M B pc loc (.ref o :: rest) n iv rv lv Q := Z_getI (ci := 11) (k0 := 6) (T := TX11) (C := RX11) (N := 52) hd rfl inW11 (by decide) hl hs ho rfl hq k
theorem p11_6 {M : zM} {B : zB} {pc q : Nat} {loc : List (Option Value)} {rest : List Value} {n : Nat} {iv : zI} {rv : zR} {lv : zJ} {Q : zQ} {o idx : Nat} {x : Int32} (hd : decode M.2.1 pc = .ok (.putfield idx, 3)) (hl : Cond.fieldLink M.1.cls idx "NumberHeapsModel" "spot" "I" ∈ Wd) (hs : zSH o = (31, 52)) (ho : o < n) (hq : pc + 3 = q) (k : Z M B q loc rest n (zu iv o 6 x) rv lv Q) : Z M B pc loc (.int x :: .ref o :: rest) n iv rv lv Q := Z_putI (ci := 11) (k0 := 6) (T := TX11) (C := RX11) (N := 52) hd rfl inW11 (by decide) hl hs ho zty11_ok nmX11 rfl rfl (fun _ => rfl) (fun _ => rfl) hq k
theorem g11_7 {M : zM} {B : zB} {pc q : Nat} {loc : List (Option Value)} {rest : List Value} {n : Nat} {iv : zI} {rv : zR} {lv : zJ} {Q : zQ} {o idx : Nat} (hd : decode M.2.1 pc = .ok (.getfield idx, 3)) (hl : Cond.fieldLink M.1.cls idx "NumberHeapsModel" "fault" "I" ∈ Wd) (hs : zSH o = (31, 52)) (ho : o < n) (hq : pc + 3 = q) (k : Z M B q loc (.int (iv o 7) :: rest) n iv rv lv Q) : Z M B pc loc (.ref o :: rest) n iv rv lv Q := Z_getI (ci := 11) (k0 := 7) (T := TX11) (C := RX11) (N := 52) hd rfl inW11 (by decide) hl hs ho rfl hq k
theorem p11_7 {M : zM} {B : zB} {pc q : Nat} {loc : List (Option Value)} {rest : List Value} {n : Nat} {iv : zI} {rv : zR} {lv : zJ} {Q : zQ} {o idx : Nat} {x : Int32} (hd : decode M.2.1 pc = .ok (.putfield idx, 3)) (hl : Cond.fieldLink M.1.cls idx "NumberHeapsModel" "fault" "I" ∈ Wd) (hs : zSH o = (31, 52)) (ho : o < n) (hq : pc + 3 = q) (k : Z M B q loc rest n (zu iv o 7 x) rv lv Q) : Z M B pc loc (.int x :: .ref o :: rest) n iv rv lv Q := Z_putI (ci := 11) (k0 := 7) (T := TX11) (C := RX11) (N := 52) hd rfl inW11 (by decide) hl hs ho zty11_ok nmX11 rfl rfl (fun _ => rfl) (fun _ => rfl) hq k
theorem g11_8 {M : zM} {B : zB} {pc q : Nat} {loc : List (Option Value)} {rest : List Value} {n : Nat} {iv : zI} {rv : zR} {lv : zJ} {Q : zQ} {o idx : Nat} (hd : decode M.2.1 pc = .ok (.getfield idx, 3)) (hl : Cond.fieldLink M.1.cls idx "NumberHeapsModel" "faultAt" "I" ∈ Wd) (hs : zSH o = (31, 52)) (ho : o < n) (hq : pc + 3 = q) (k : Z M B q loc (.int (iv o 8) :: rest) n iv rv lv Q) : Z M B pc loc (.ref o :: rest) n iv rv lv Q := Z_getI (ci := 11) (k0 := 8) (T := TX11) (C := RX11) (N := 52) hd rfl inW11 (by decide) hl hs ho rfl hq k
theorem p11_8 {M : zM} {B : zB} {pc q : Nat} {loc : List (Option Value)} {rest : List Value} {n : Nat} {iv : zI} {rv : zR} {lv : zJ} {Q : zQ} {o idx : Nat} {x : Int32} (hd : decode M.2.1 pc = .ok (.putfield idx, 3)) (hl : Cond.fieldLink M.1.cls idx "NumberHeapsModel" "faultAt" "I" ∈ Wd) (hs : zSH o = (31, 52)) (ho : o < n) (hq : pc + 3 = q) (k : Z M B q loc rest n (zu iv o 8 x) rv lv Q) : Z M B pc loc (.int x :: .ref o :: rest) n iv rv lv Q := Z_putI (ci := 11) (k0 := 8) (T := TX11) (C := RX11) (N := 52) hd rfl inW11 (by decide) hl hs ho zty11_ok nmX11 rfl rfl (fun _ => rfl) (fun _ => rfl) hq k
theorem g11_9 {M : zM} {B : zB} {pc q : Nat} {loc : List (Option Value)} {rest : List Value} {n : Nat} {iv : zI} {rv : zR} {lv : zJ} {Q : zQ} {o idx : Nat} (hd : decode M.2.1 pc = .ok (.getfield idx, 3)) (hl : Cond.fieldLink M.1.cls idx "NumberHeapsModel" "token" "I" ∈ Wd) (hs : zSH o = (31, 52)) (ho : o < n) (hq : pc + 3 = q) (k : Z M B q loc (.int (iv o 9) :: rest) n iv rv lv Q) : Z M B pc loc (.ref o :: rest) n iv rv lv Q := Z_getI (ci := 11) (k0 := 9) (T := TX11) (C := RX11) (N := 52) hd rfl inW11 (by decide) hl hs ho rfl hq k
theorem p11_9 {M : zM} {B : zB} {pc q : Nat} {loc : List (Option Value)} {rest : List Value} {n : Nat} {iv : zI} {rv : zR} {lv : zJ} {Q : zQ} {o idx : Nat} {x : Int32} (hd : decode M.2.1 pc = .ok (.putfield idx, 3)) (hl : Cond.fieldLink M.1.cls idx "NumberHeapsModel" "token" "I" ∈ Wd) (hs : zSH o = (31, 52)) (ho : o < n) (hq : pc + 3 = q) (k : Z M B q loc rest n (zu iv o 9 x) rv lv Q) : Z M B pc loc (.int x :: .ref o :: rest) n iv rv lv Q := Z_putI (ci := 11) (k0 := 9) (T := TX11) (C := RX11) (N := 52) hd rfl inW11 (by decide) hl hs ho zty11_ok nmX11 rfl rfl (fun _ => rfl) (fun _ => rfl) hq k
theorem g11_10 {M : zM} {B : zB} {pc q : Nat} {loc : List (Option Value)} {rest : List Value} {n : Nat} {iv : zI} {rv : zR} {lv : zJ} {Q : zQ} {o idx : Nat} (hd : decode M.2.1 pc = .ok (.getfield idx, 3)) (hl : Cond.fieldLink M.1.cls idx "NumberHeapsModel" "at" "I" ∈ Wd) (hs : zSH o = (31, 52)) (ho : o < n) (hq : pc + 3 = q) (k : Z M B q loc (.int (iv o 10) :: rest) n iv rv lv Q) : Z M B pc loc (.ref o :: rest) n iv rv lv Q := Z_getI (ci := 11) (k0 := 10) (T := TX11) (C := RX11) (N := 52) hd rfl inW11 (by decide) hl hs ho rfl hq k
theorem p11_10 {M : zM} {B : zB} {pc q : Nat} {loc : List (Option Value)} {rest : List Value} {n : Nat} {iv : zI} {rv : zR} {lv : zJ} {Q : zQ} {o idx : Nat} {x : Int32} (hd : decode M.2.1 pc = .ok (.putfield idx, 3)) (hl : Cond.fieldLink M.1.cls idx "NumberHeapsModel" "at" "I" ∈ Wd) (hs : zSH o = (31, 52)) (ho : o < n) (hq : pc + 3 = q) (k : Z M B q loc rest n (zu iv o 10 x) rv lv Q) : Z M B pc loc (.int x :: .ref o :: rest) n iv rv lv Q := Z_putI (ci := 11) (k0 := 10) (T := TX11) (C := RX11) (N := 52) hd rfl inW11 (by decide) hl hs ho zty11_ok nmX11 rfl rfl (fun _ => rfl) (fun _ => rfl) hq k
theorem g11_11 {M : zM} {B : zB} {pc q : Nat} {loc : List (Option Value)} {rest : List Value} {n : Nat} {iv : zI} {rv : zR} {lv : zJ} {Q : zQ} {o idx : Nat} (hd : decode M.2.1 pc = .ok (.getfield idx, 3)) (hl : Cond.fieldLink M.1.cls idx "NumberHeapsModel" "sign" "I" ∈ Wd) (hs : zSH o = (31, 52)) (ho : o < n) (hq : pc + 3 = q) (k : Z M B q loc (.int (iv o 11) :: rest) n iv rv lv Q) : Z M B pc loc (.ref o :: rest) n iv rv lv Q := Z_getI (ci := 11) (k0 := 11) (T := TX11) (C := RX11) (N := 52) hd rfl inW11 (by decide) hl hs ho rfl hq k
theorem p11_11 {M : zM} {B : zB} {pc q : Nat} {loc : List (Option Value)} {rest : List Value} {n : Nat} {iv : zI} {rv : zR} {lv : zJ} {Q : zQ} {o idx : Nat} {x : Int32} (hd : decode M.2.1 pc = .ok (.putfield idx, 3)) (hl : Cond.fieldLink M.1.cls idx "NumberHeapsModel" "sign" "I" ∈ Wd) (hs : zSH o = (31, 52)) (ho : o < n) (hq : pc + 3 = q) (k : Z M B q loc rest n (zu iv o 11 x) rv lv Q) : Z M B pc loc (.int x :: .ref o :: rest) n iv rv lv Q := Z_putI (ci := 11) (k0 := 11) (T := TX11) (C := RX11) (N := 52) hd rfl inW11 (by decide) hl hs ho zty11_ok nmX11 rfl rfl (fun _ => rfl) (fun _ => rfl) hq k
theorem g11_12 {M : zM} {B : zB} {pc q : Nat} {loc : List (Option Value)} {rest : List Value} {n : Nat} {iv : zI} {rv : zR} {lv : zJ} {Q : zQ} {o idx : Nat} (hd : decode M.2.1 pc = .ok (.getfield idx, 3)) (hl : Cond.fieldLink M.1.cls idx "NumberHeapsModel" "told" "I" ∈ Wd) (hs : zSH o = (31, 52)) (ho : o < n) (hq : pc + 3 = q) (k : Z M B q loc (.int (iv o 12) :: rest) n iv rv lv Q) : Z M B pc loc (.ref o :: rest) n iv rv lv Q := Z_getI (ci := 11) (k0 := 12) (T := TX11) (C := RX11) (N := 52) hd rfl inW11 (by decide) hl hs ho rfl hq k
theorem p11_12 {M : zM} {B : zB} {pc q : Nat} {loc : List (Option Value)} {rest : List Value} {n : Nat} {iv : zI} {rv : zR} {lv : zJ} {Q : zQ} {o idx : Nat} {x : Int32} (hd : decode M.2.1 pc = .ok (.putfield idx, 3)) (hl : Cond.fieldLink M.1.cls idx "NumberHeapsModel" "told" "I" ∈ Wd) (hs : zSH o = (31, 52)) (ho : o < n) (hq : pc + 3 = q) (k : Z M B q loc rest n (zu iv o 12 x) rv lv Q) : Z M B pc loc (.int x :: .ref o :: rest) n iv rv lv Q := Z_putI (ci := 11) (k0 := 12) (T := TX11) (C := RX11) (N := 52) hd rfl inW11 (by decide) hl hs ho zty11_ok nmX11 rfl rfl (fun _ => rfl) (fun _ => rfl) hq k
theorem g11_13 {M : zM} {B : zB} {pc q : Nat} {loc : List (Option Value)} {rest : List Value} {n : Nat} {iv : zI} {rv : zR} {lv : zJ} {Q : zQ} {o idx : Nat} (hd : decode M.2.1 pc = .ok (.getfield idx, 3)) (hl : Cond.fieldLink M.1.cls idx "NumberHeapsModel" "word" "J" ∈ Wd) (hs : zSH o = (31, 52)) (ho : o < n) (hq : pc + 3 = q) (k : Z M B q loc (.long (lv o 13) :: rest) n iv rv lv Q) : Z M B pc loc (.ref o :: rest) n iv rv lv Q := Z_getJ (ci := 11) (k0 := 13) (T := TX11) (C := RX11) (N := 52) hd rfl inW11 (by decide) hl hs ho rfl hq k
theorem p11_13 {M : zM} {B : zB} {pc q : Nat} {loc : List (Option Value)} {rest : List Value} {n : Nat} {iv : zI} {rv : zR} {lv : zJ} {Q : zQ} {o idx : Nat} {x : Int64} (hd : decode M.2.1 pc = .ok (.putfield idx, 3)) (hl : Cond.fieldLink M.1.cls idx "NumberHeapsModel" "word" "J" ∈ Wd) (hs : zSH o = (31, 52)) (ho : o < n) (hq : pc + 3 = q) (k : Z M B q loc rest n iv rv (zu lv o 13 x) Q) : Z M B pc loc (.long x :: .ref o :: rest) n iv rv lv Q := Z_putJ (ci := 11) (k0 := 13) (T := TX11) (C := RX11) (N := 52) hd rfl inW11 (by decide) hl hs ho zty11_ok nmX11 rfl rfl (fun _ => rfl) (fun _ => rfl) hq k
theorem g11_14 {M : zM} {B : zB} {pc q : Nat} {loc : List (Option Value)} {rest : List Value} {n : Nat} {iv : zI} {rv : zR} {lv : zJ} {Q : zQ} {o idx : Nat} {r : Nat} (hd : decode M.2.1 pc = .ok (.getfield idx, 3)) (hl : Cond.fieldLink M.1.cls idx "NumberHeapsModel" "now" "[I" ∈ Wd) (hs : zSH o = (31, 52)) (ho : o < n) (hr : rv o 14 = some r) (hq : pc + 3 = q) (k : Z M B q loc (.ref r :: rest) n iv rv lv Q) : Z M B pc loc (.ref o :: rest) n iv rv lv Q := Z_getR (ci := 11) (k0 := 14) (T := TX11) (C := RX11) (N := 52) hd rfl inW11 (by decide) hl hs ho rfl hr hq k
theorem pf11_14 {M : zM} {B : zB} {pc q : Nat} {loc : List (Option Value)} {rest : List Value} {n : Nat} {iv : zI} {rv : zR} {lv : zJ} {Q : zQ} {o idx : Nat} {x : Nat} (hd : decode M.2.1 pc = .ok (.putfield idx, 3)) (hl : Cond.fieldLink M.1.cls idx "NumberHeapsModel" "now" "[I" ∈ Wd) (hs : zSH o = (31, 52)) (ho : o < n) (hini : M.1.name = "<init>") (hdecl : "NumberHeapsModel" = M.1.cls) (hq : pc + 3 = q) (k : Z M B q loc rest n iv (zu rv o 14 (some x)) lv Q) : Z M B pc loc (.ref x :: .ref o :: rest) n iv rv lv Q := Z_putRF (ci := 11) (k0 := 14) (T := TX11) (C := RX11) (N := 52) hd rfl inW11 (by decide) hl hs ho zty11_ok nmX11 rfl hini hdecl rfl (fun _ => rfl) (fun _ => rfl) hq k
theorem g11_15 {M : zM} {B : zB} {pc q : Nat} {loc : List (Option Value)} {rest : List Value} {n : Nat} {iv : zI} {rv : zR} {lv : zJ} {Q : zQ} {o idx : Nat} {r : Nat} (hd : decode M.2.1 pc = .ok (.getfield idx, 3)) (hl : Cond.fieldLink M.1.cls idx "NumberHeapsModel" "read" "[I" ∈ Wd) (hs : zSH o = (31, 52)) (ho : o < n) (hr : rv o 15 = some r) (hq : pc + 3 = q) (k : Z M B q loc (.ref r :: rest) n iv rv lv Q) : Z M B pc loc (.ref o :: rest) n iv rv lv Q := Z_getR (ci := 11) (k0 := 15) (T := TX11) (C := RX11) (N := 52) hd rfl inW11 (by decide) hl hs ho rfl hr hq k
theorem pf11_15 {M : zM} {B : zB} {pc q : Nat} {loc : List (Option Value)} {rest : List Value} {n : Nat} {iv : zI} {rv : zR} {lv : zJ} {Q : zQ} {o idx : Nat} {x : Nat} (hd : decode M.2.1 pc = .ok (.putfield idx, 3)) (hl : Cond.fieldLink M.1.cls idx "NumberHeapsModel" "read" "[I" ∈ Wd) (hs : zSH o = (31, 52)) (ho : o < n) (hini : M.1.name = "<init>") (hdecl : "NumberHeapsModel" = M.1.cls) (hq : pc + 3 = q) (k : Z M B q loc rest n iv (zu rv o 15 (some x)) lv Q) : Z M B pc loc (.ref x :: .ref o :: rest) n iv rv lv Q := Z_putRF (ci := 11) (k0 := 15) (T := TX11) (C := RX11) (N := 52) hd rfl inW11 (by decide) hl hs ho zty11_ok nmX11 rfl hini hdecl rfl (fun _ => rfl) (fun _ => rfl) hq k
theorem g11_16 {M : zM} {B : zB} {pc q : Nat} {loc : List (Option Value)} {rest : List Value} {n : Nat} {iv : zI} {rv : zR} {lv : zJ} {Q : zQ} {o idx : Nat} {r : Nat} (hd : decode M.2.1 pc = .ok (.getfield idx, 3)) (hl : Cond.fieldLink M.1.cls idx "NumberHeapsModel" "past" "[I" ∈ Wd) (hs : zSH o = (31, 52)) (ho : o < n) (hr : rv o 16 = some r) (hq : pc + 3 = q) (k : Z M B q loc (.ref r :: rest) n iv rv lv Q) : Z M B pc loc (.ref o :: rest) n iv rv lv Q := Z_getR (ci := 11) (k0 := 16) (T := TX11) (C := RX11) (N := 52) hd rfl inW11 (by decide) hl hs ho rfl hr hq k
theorem pf11_16 {M : zM} {B : zB} {pc q : Nat} {loc : List (Option Value)} {rest : List Value} {n : Nat} {iv : zI} {rv : zR} {lv : zJ} {Q : zQ} {o idx : Nat} {x : Nat} (hd : decode M.2.1 pc = .ok (.putfield idx, 3)) (hl : Cond.fieldLink M.1.cls idx "NumberHeapsModel" "past" "[I" ∈ Wd) (hs : zSH o = (31, 52)) (ho : o < n) (hini : M.1.name = "<init>") (hdecl : "NumberHeapsModel" = M.1.cls) (hq : pc + 3 = q) (k : Z M B q loc rest n iv (zu rv o 16 (some x)) lv Q) : Z M B pc loc (.ref x :: .ref o :: rest) n iv rv lv Q := Z_putRF (ci := 11) (k0 := 16) (T := TX11) (C := RX11) (N := 52) hd rfl inW11 (by decide) hl hs ho zty11_ok nmX11 rfl hini hdecl rfl (fun _ => rfl) (fun _ => rfl) hq k
theorem g11_17 {M : zM} {B : zB} {pc q : Nat} {loc : List (Option Value)} {rest : List Value} {n : Nat} {iv : zI} {rv : zR} {lv : zJ} {Q : zQ} {o idx : Nat} {r : Nat} (hd : decode M.2.1 pc = .ok (.getfield idx, 3)) (hl : Cond.fieldLink M.1.cls idx "NumberHeapsModel" "images" "[I" ∈ Wd) (hs : zSH o = (31, 52)) (ho : o < n) (hr : rv o 17 = some r) (hq : pc + 3 = q) (k : Z M B q loc (.ref r :: rest) n iv rv lv Q) : Z M B pc loc (.ref o :: rest) n iv rv lv Q := Z_getR (ci := 11) (k0 := 17) (T := TX11) (C := RX11) (N := 52) hd rfl inW11 (by decide) hl hs ho rfl hr hq k
theorem pf11_17 {M : zM} {B : zB} {pc q : Nat} {loc : List (Option Value)} {rest : List Value} {n : Nat} {iv : zI} {rv : zR} {lv : zJ} {Q : zQ} {o idx : Nat} {x : Nat} (hd : decode M.2.1 pc = .ok (.putfield idx, 3)) (hl : Cond.fieldLink M.1.cls idx "NumberHeapsModel" "images" "[I" ∈ Wd) (hs : zSH o = (31, 52)) (ho : o < n) (hini : M.1.name = "<init>") (hdecl : "NumberHeapsModel" = M.1.cls) (hq : pc + 3 = q) (k : Z M B q loc rest n iv (zu rv o 17 (some x)) lv Q) : Z M B pc loc (.ref x :: .ref o :: rest) n iv rv lv Q := Z_putRF (ci := 11) (k0 := 17) (T := TX11) (C := RX11) (N := 52) hd rfl inW11 (by decide) hl hs ho zty11_ok nmX11 rfl hini hdecl rfl (fun _ => rfl) (fun _ => rfl) hq k
theorem g11_18 {M : zM} {B : zB} {pc q : Nat} {loc : List (Option Value)} {rest : List Value} {n : Nat} {iv : zI} {rv : zR} {lv : zJ} {Q : zQ} {o idx : Nat} {r : Nat} (hd : decode M.2.1 pc = .ok (.getfield idx, 3)) (hl : Cond.fieldLink M.1.cls idx "NumberHeapsModel" "kept" "[Z" ∈ Wd) (hs : zSH o = (31, 52)) (ho : o < n) (hr : rv o 18 = some r) (hq : pc + 3 = q) (k : Z M B q loc (.ref r :: rest) n iv rv lv Q) : Z M B pc loc (.ref o :: rest) n iv rv lv Q := Z_getR (ci := 11) (k0 := 18) (T := TX11) (C := RX11) (N := 52) hd rfl inW11 (by decide) hl hs ho rfl hr hq k
theorem pf11_18 {M : zM} {B : zB} {pc q : Nat} {loc : List (Option Value)} {rest : List Value} {n : Nat} {iv : zI} {rv : zR} {lv : zJ} {Q : zQ} {o idx : Nat} {x : Nat} (hd : decode M.2.1 pc = .ok (.putfield idx, 3)) (hl : Cond.fieldLink M.1.cls idx "NumberHeapsModel" "kept" "[Z" ∈ Wd) (hs : zSH o = (31, 52)) (ho : o < n) (hini : M.1.name = "<init>") (hdecl : "NumberHeapsModel" = M.1.cls) (hq : pc + 3 = q) (k : Z M B q loc rest n iv (zu rv o 18 (some x)) lv Q) : Z M B pc loc (.ref x :: .ref o :: rest) n iv rv lv Q := Z_putRF (ci := 11) (k0 := 18) (T := TX11) (C := RX11) (N := 52) hd rfl inW11 (by decide) hl hs ho zty11_ok nmX11 rfl hini hdecl rfl (fun _ => rfl) (fun _ => rfl) hq k
theorem g11_19 {M : zM} {B : zB} {pc q : Nat} {loc : List (Option Value)} {rest : List Value} {n : Nat} {iv : zI} {rv : zR} {lv : zJ} {Q : zQ} {o idx : Nat} (hd : decode M.2.1 pc = .ok (.getfield idx, 3)) (hl : Cond.fieldLink M.1.cls idx "NumberHeapsModel" "hasText" "Z" ∈ Wd) (hs : zSH o = (31, 52)) (ho : o < n) (hq : pc + 3 = q) (k : Z M B q loc (.int (iv o 19) :: rest) n iv rv lv Q) : Z M B pc loc (.ref o :: rest) n iv rv lv Q := Z_getI (ci := 11) (k0 := 19) (T := TX11) (C := RX11) (N := 52) hd rfl inW11 (by decide) hl hs ho rfl hq k
theorem p11_19 {M : zM} {B : zB} {pc q : Nat} {loc : List (Option Value)} {rest : List Value} {n : Nat} {iv : zI} {rv : zR} {lv : zJ} {Q : zQ} {o idx : Nat} {x : Int32} (hd : decode M.2.1 pc = .ok (.putfield idx, 3)) (hl : Cond.fieldLink M.1.cls idx "NumberHeapsModel" "hasText" "Z" ∈ Wd) (hs : zSH o = (31, 52)) (ho : o < n) (hx : x = 0 ∨ x = 1) (hq : pc + 3 = q) (k : Z M B q loc rest n (zu iv o 19 x) rv lv Q) : Z M B pc loc (.int x :: .ref o :: rest) n iv rv lv Q := Z_putI (ci := 11) (k0 := 19) (T := TX11) (C := RX11) (N := 52) hd rfl inW11 (by decide) hl hs ho zty11_ok nmX11 rfl rfl (fun _ => by rcases hx with rfl | rfl <;> rfl) (fun _ => by rcases hx with rfl | rfl <;> rfl) hq k
theorem g11_20 {M : zM} {B : zB} {pc q : Nat} {loc : List (Option Value)} {rest : List Value} {n : Nat} {iv : zI} {rv : zR} {lv : zJ} {Q : zQ} {o idx : Nat} (hd : decode M.2.1 pc = .ok (.getfield idx, 3)) (hl : Cond.fieldLink M.1.cls idx "NumberHeapsModel" "hasHeaps" "Z" ∈ Wd) (hs : zSH o = (31, 52)) (ho : o < n) (hq : pc + 3 = q) (k : Z M B q loc (.int (iv o 20) :: rest) n iv rv lv Q) : Z M B pc loc (.ref o :: rest) n iv rv lv Q := Z_getI (ci := 11) (k0 := 20) (T := TX11) (C := RX11) (N := 52) hd rfl inW11 (by decide) hl hs ho rfl hq k
theorem p11_20 {M : zM} {B : zB} {pc q : Nat} {loc : List (Option Value)} {rest : List Value} {n : Nat} {iv : zI} {rv : zR} {lv : zJ} {Q : zQ} {o idx : Nat} {x : Int32} (hd : decode M.2.1 pc = .ok (.putfield idx, 3)) (hl : Cond.fieldLink M.1.cls idx "NumberHeapsModel" "hasHeaps" "Z" ∈ Wd) (hs : zSH o = (31, 52)) (ho : o < n) (hx : x = 0 ∨ x = 1) (hq : pc + 3 = q) (k : Z M B q loc rest n (zu iv o 20 x) rv lv Q) : Z M B pc loc (.int x :: .ref o :: rest) n iv rv lv Q := Z_putI (ci := 11) (k0 := 20) (T := TX11) (C := RX11) (N := 52) hd rfl inW11 (by decide) hl hs ho zty11_ok nmX11 rfl rfl (fun _ => by rcases hx with rfl | rfl <;> rfl) (fun _ => by rcases hx with rfl | rfl <;> rfl) hq k
theorem g11_21 {M : zM} {B : zB} {pc q : Nat} {loc : List (Option Value)} {rest : List Value} {n : Nat} {iv : zI} {rv : zR} {lv : zJ} {Q : zQ} {o idx : Nat} (hd : decode M.2.1 pc = .ok (.getfield idx, 3)) (hl : Cond.fieldLink M.1.cls idx "NumberHeapsModel" "acts" "I" ∈ Wd) (hs : zSH o = (31, 52)) (ho : o < n) (hq : pc + 3 = q) (k : Z M B q loc (.int (iv o 21) :: rest) n iv rv lv Q) : Z M B pc loc (.ref o :: rest) n iv rv lv Q := Z_getI (ci := 11) (k0 := 21) (T := TX11) (C := RX11) (N := 52) hd rfl inW11 (by decide) hl hs ho rfl hq k
theorem p11_21 {M : zM} {B : zB} {pc q : Nat} {loc : List (Option Value)} {rest : List Value} {n : Nat} {iv : zI} {rv : zR} {lv : zJ} {Q : zQ} {o idx : Nat} {x : Int32} (hd : decode M.2.1 pc = .ok (.putfield idx, 3)) (hl : Cond.fieldLink M.1.cls idx "NumberHeapsModel" "acts" "I" ∈ Wd) (hs : zSH o = (31, 52)) (ho : o < n) (hq : pc + 3 = q) (k : Z M B q loc rest n (zu iv o 21 x) rv lv Q) : Z M B pc loc (.int x :: .ref o :: rest) n iv rv lv Q := Z_putI (ci := 11) (k0 := 21) (T := TX11) (C := RX11) (N := 52) hd rfl inW11 (by decide) hl hs ho zty11_ok nmX11 rfl rfl (fun _ => rfl) (fun _ => rfl) hq k
theorem g11_22 {M : zM} {B : zB} {pc q : Nat} {loc : List (Option Value)} {rest : List Value} {n : Nat} {iv : zI} {rv : zR} {lv : zJ} {Q : zQ} {o idx : Nat} {r : Nat} (hd : decode M.2.1 pc = .ok (.getfield idx, 3)) (hl : Cond.fieldLink M.1.cls idx "NumberHeapsModel" "row" "[I" ∈ Wd) (hs : zSH o = (31, 52)) (ho : o < n) (hr : rv o 22 = some r) (hq : pc + 3 = q) (k : Z M B q loc (.ref r :: rest) n iv rv lv Q) : Z M B pc loc (.ref o :: rest) n iv rv lv Q := Z_getR (ci := 11) (k0 := 22) (T := TX11) (C := RX11) (N := 52) hd rfl inW11 (by decide) hl hs ho rfl hr hq k
theorem pf11_22 {M : zM} {B : zB} {pc q : Nat} {loc : List (Option Value)} {rest : List Value} {n : Nat} {iv : zI} {rv : zR} {lv : zJ} {Q : zQ} {o idx : Nat} {x : Nat} (hd : decode M.2.1 pc = .ok (.putfield idx, 3)) (hl : Cond.fieldLink M.1.cls idx "NumberHeapsModel" "row" "[I" ∈ Wd) (hs : zSH o = (31, 52)) (ho : o < n) (hini : M.1.name = "<init>") (hdecl : "NumberHeapsModel" = M.1.cls) (hq : pc + 3 = q) (k : Z M B q loc rest n iv (zu rv o 22 (some x)) lv Q) : Z M B pc loc (.ref x :: .ref o :: rest) n iv rv lv Q := Z_putRF (ci := 11) (k0 := 22) (T := TX11) (C := RX11) (N := 52) hd rfl inW11 (by decide) hl hs ho zty11_ok nmX11 rfl hini hdecl rfl (fun _ => rfl) (fun _ => rfl) hq k
theorem g11_23 {M : zM} {B : zB} {pc q : Nat} {loc : List (Option Value)} {rest : List Value} {n : Nat} {iv : zI} {rv : zR} {lv : zJ} {Q : zQ} {o idx : Nat} {r : Nat} (hd : decode M.2.1 pc = .ok (.getfield idx, 3)) (hl : Cond.fieldLink M.1.cls idx "NumberHeapsModel" "sum" "[I" ∈ Wd) (hs : zSH o = (31, 52)) (ho : o < n) (hr : rv o 23 = some r) (hq : pc + 3 = q) (k : Z M B q loc (.ref r :: rest) n iv rv lv Q) : Z M B pc loc (.ref o :: rest) n iv rv lv Q := Z_getR (ci := 11) (k0 := 23) (T := TX11) (C := RX11) (N := 52) hd rfl inW11 (by decide) hl hs ho rfl hr hq k
theorem pf11_23 {M : zM} {B : zB} {pc q : Nat} {loc : List (Option Value)} {rest : List Value} {n : Nat} {iv : zI} {rv : zR} {lv : zJ} {Q : zQ} {o idx : Nat} {x : Nat} (hd : decode M.2.1 pc = .ok (.putfield idx, 3)) (hl : Cond.fieldLink M.1.cls idx "NumberHeapsModel" "sum" "[I" ∈ Wd) (hs : zSH o = (31, 52)) (ho : o < n) (hini : M.1.name = "<init>") (hdecl : "NumberHeapsModel" = M.1.cls) (hq : pc + 3 = q) (k : Z M B q loc rest n iv (zu rv o 23 (some x)) lv Q) : Z M B pc loc (.ref x :: .ref o :: rest) n iv rv lv Q := Z_putRF (ci := 11) (k0 := 23) (T := TX11) (C := RX11) (N := 52) hd rfl inW11 (by decide) hl hs ho zty11_ok nmX11 rfl hini hdecl rfl (fun _ => rfl) (fun _ => rfl) hq k
theorem g11_24 {M : zM} {B : zB} {pc q : Nat} {loc : List (Option Value)} {rest : List Value} {n : Nat} {iv : zI} {rv : zR} {lv : zJ} {Q : zQ} {o idx : Nat} {r : Nat} (hd : decode M.2.1 pc = .ok (.getfield idx, 3)) (hl : Cond.fieldLink M.1.cls idx "NumberHeapsModel" "bestRow" "[I" ∈ Wd) (hs : zSH o = (31, 52)) (ho : o < n) (hr : rv o 24 = some r) (hq : pc + 3 = q) (k : Z M B q loc (.ref r :: rest) n iv rv lv Q) : Z M B pc loc (.ref o :: rest) n iv rv lv Q := Z_getR (ci := 11) (k0 := 24) (T := TX11) (C := RX11) (N := 52) hd rfl inW11 (by decide) hl hs ho rfl hr hq k
theorem pf11_24 {M : zM} {B : zB} {pc q : Nat} {loc : List (Option Value)} {rest : List Value} {n : Nat} {iv : zI} {rv : zR} {lv : zJ} {Q : zQ} {o idx : Nat} {x : Nat} (hd : decode M.2.1 pc = .ok (.putfield idx, 3)) (hl : Cond.fieldLink M.1.cls idx "NumberHeapsModel" "bestRow" "[I" ∈ Wd) (hs : zSH o = (31, 52)) (ho : o < n) (hini : M.1.name = "<init>") (hdecl : "NumberHeapsModel" = M.1.cls) (hq : pc + 3 = q) (k : Z M B q loc rest n iv (zu rv o 24 (some x)) lv Q) : Z M B pc loc (.ref x :: .ref o :: rest) n iv rv lv Q := Z_putRF (ci := 11) (k0 := 24) (T := TX11) (C := RX11) (N := 52) hd rfl inW11 (by decide) hl hs ho zty11_ok nmX11 rfl hini hdecl rfl (fun _ => rfl) (fun _ => rfl) hq k
theorem g11_25 {M : zM} {B : zB} {pc q : Nat} {loc : List (Option Value)} {rest : List Value} {n : Nat} {iv : zI} {rv : zR} {lv : zJ} {Q : zQ} {o idx : Nat} {r : Nat} (hd : decode M.2.1 pc = .ok (.getfield idx, 3)) (hl : Cond.fieldLink M.1.cls idx "NumberHeapsModel" "many" "[I" ∈ Wd) (hs : zSH o = (31, 52)) (ho : o < n) (hr : rv o 25 = some r) (hq : pc + 3 = q) (k : Z M B q loc (.ref r :: rest) n iv rv lv Q) : Z M B pc loc (.ref o :: rest) n iv rv lv Q := Z_getR (ci := 11) (k0 := 25) (T := TX11) (C := RX11) (N := 52) hd rfl inW11 (by decide) hl hs ho rfl hr hq k
theorem pf11_25 {M : zM} {B : zB} {pc q : Nat} {loc : List (Option Value)} {rest : List Value} {n : Nat} {iv : zI} {rv : zR} {lv : zJ} {Q : zQ} {o idx : Nat} {x : Nat} (hd : decode M.2.1 pc = .ok (.putfield idx, 3)) (hl : Cond.fieldLink M.1.cls idx "NumberHeapsModel" "many" "[I" ∈ Wd) (hs : zSH o = (31, 52)) (ho : o < n) (hini : M.1.name = "<init>") (hdecl : "NumberHeapsModel" = M.1.cls) (hq : pc + 3 = q) (k : Z M B q loc rest n iv (zu rv o 25 (some x)) lv Q) : Z M B pc loc (.ref x :: .ref o :: rest) n iv rv lv Q := Z_putRF (ci := 11) (k0 := 25) (T := TX11) (C := RX11) (N := 52) hd rfl inW11 (by decide) hl hs ho zty11_ok nmX11 rfl hini hdecl rfl (fun _ => rfl) (fun _ => rfl) hq k
theorem g11_26 {M : zM} {B : zB} {pc q : Nat} {loc : List (Option Value)} {rest : List Value} {n : Nat} {iv : zI} {rv : zR} {lv : zJ} {Q : zQ} {o idx : Nat} {r : Nat} (hd : decode M.2.1 pc = .ok (.getfield idx, 3)) (hl : Cond.fieldLink M.1.cls idx "NumberHeapsModel" "worth" "[I" ∈ Wd) (hs : zSH o = (31, 52)) (ho : o < n) (hr : rv o 26 = some r) (hq : pc + 3 = q) (k : Z M B q loc (.ref r :: rest) n iv rv lv Q) : Z M B pc loc (.ref o :: rest) n iv rv lv Q := Z_getR (ci := 11) (k0 := 26) (T := TX11) (C := RX11) (N := 52) hd rfl inW11 (by decide) hl hs ho rfl hr hq k
theorem pf11_26 {M : zM} {B : zB} {pc q : Nat} {loc : List (Option Value)} {rest : List Value} {n : Nat} {iv : zI} {rv : zR} {lv : zJ} {Q : zQ} {o idx : Nat} {x : Nat} (hd : decode M.2.1 pc = .ok (.putfield idx, 3)) (hl : Cond.fieldLink M.1.cls idx "NumberHeapsModel" "worth" "[I" ∈ Wd) (hs : zSH o = (31, 52)) (ho : o < n) (hini : M.1.name = "<init>") (hdecl : "NumberHeapsModel" = M.1.cls) (hq : pc + 3 = q) (k : Z M B q loc rest n iv (zu rv o 26 (some x)) lv Q) : Z M B pc loc (.ref x :: .ref o :: rest) n iv rv lv Q := Z_putRF (ci := 11) (k0 := 26) (T := TX11) (C := RX11) (N := 52) hd rfl inW11 (by decide) hl hs ho zty11_ok nmX11 rfl hini hdecl rfl (fun _ => rfl) (fun _ => rfl) hq k
theorem g11_27 {M : zM} {B : zB} {pc q : Nat} {loc : List (Option Value)} {rest : List Value} {n : Nat} {iv : zI} {rv : zR} {lv : zJ} {Q : zQ} {o idx : Nat} {r : Nat} (hd : decode M.2.1 pc = .ok (.getfield idx, 3)) (hl : Cond.fieldLink M.1.cls idx "NumberHeapsModel" "first" "[I" ∈ Wd) (hs : zSH o = (31, 52)) (ho : o < n) (hr : rv o 27 = some r) (hq : pc + 3 = q) (k : Z M B q loc (.ref r :: rest) n iv rv lv Q) : Z M B pc loc (.ref o :: rest) n iv rv lv Q := Z_getR (ci := 11) (k0 := 27) (T := TX11) (C := RX11) (N := 52) hd rfl inW11 (by decide) hl hs ho rfl hr hq k
theorem pf11_27 {M : zM} {B : zB} {pc q : Nat} {loc : List (Option Value)} {rest : List Value} {n : Nat} {iv : zI} {rv : zR} {lv : zJ} {Q : zQ} {o idx : Nat} {x : Nat} (hd : decode M.2.1 pc = .ok (.putfield idx, 3)) (hl : Cond.fieldLink M.1.cls idx "NumberHeapsModel" "first" "[I" ∈ Wd) (hs : zSH o = (31, 52)) (ho : o < n) (hini : M.1.name = "<init>") (hdecl : "NumberHeapsModel" = M.1.cls) (hq : pc + 3 = q) (k : Z M B q loc rest n iv (zu rv o 27 (some x)) lv Q) : Z M B pc loc (.ref x :: .ref o :: rest) n iv rv lv Q := Z_putRF (ci := 11) (k0 := 27) (T := TX11) (C := RX11) (N := 52) hd rfl inW11 (by decide) hl hs ho zty11_ok nmX11 rfl hini hdecl rfl (fun _ => rfl) (fun _ => rfl) hq k
theorem g11_28 {M : zM} {B : zB} {pc q : Nat} {loc : List (Option Value)} {rest : List Value} {n : Nat} {iv : zI} {rv : zR} {lv : zJ} {Q : zQ} {o idx : Nat} {r : Nat} (hd : decode M.2.1 pc = .ok (.getfield idx, 3)) (hl : Cond.fieldLink M.1.cls idx "NumberHeapsModel" "second" "[I" ∈ Wd) (hs : zSH o = (31, 52)) (ho : o < n) (hr : rv o 28 = some r) (hq : pc + 3 = q) (k : Z M B q loc (.ref r :: rest) n iv rv lv Q) : Z M B pc loc (.ref o :: rest) n iv rv lv Q := Z_getR (ci := 11) (k0 := 28) (T := TX11) (C := RX11) (N := 52) hd rfl inW11 (by decide) hl hs ho rfl hr hq k
theorem pf11_28 {M : zM} {B : zB} {pc q : Nat} {loc : List (Option Value)} {rest : List Value} {n : Nat} {iv : zI} {rv : zR} {lv : zJ} {Q : zQ} {o idx : Nat} {x : Nat} (hd : decode M.2.1 pc = .ok (.putfield idx, 3)) (hl : Cond.fieldLink M.1.cls idx "NumberHeapsModel" "second" "[I" ∈ Wd) (hs : zSH o = (31, 52)) (ho : o < n) (hini : M.1.name = "<init>") (hdecl : "NumberHeapsModel" = M.1.cls) (hq : pc + 3 = q) (k : Z M B q loc rest n iv (zu rv o 28 (some x)) lv Q) : Z M B pc loc (.ref x :: .ref o :: rest) n iv rv lv Q := Z_putRF (ci := 11) (k0 := 28) (T := TX11) (C := RX11) (N := 52) hd rfl inW11 (by decide) hl hs ho zty11_ok nmX11 rfl hini hdecl rfl (fun _ => rfl) (fun _ => rfl) hq k
theorem g11_29 {M : zM} {B : zB} {pc q : Nat} {loc : List (Option Value)} {rest : List Value} {n : Nat} {iv : zI} {rv : zR} {lv : zJ} {Q : zQ} {o idx : Nat} {r : Nat} (hd : decode M.2.1 pc = .ok (.getfield idx, 3)) (hl : Cond.fieldLink M.1.cls idx "NumberHeapsModel" "stepA" "[I" ∈ Wd) (hs : zSH o = (31, 52)) (ho : o < n) (hr : rv o 29 = some r) (hq : pc + 3 = q) (k : Z M B q loc (.ref r :: rest) n iv rv lv Q) : Z M B pc loc (.ref o :: rest) n iv rv lv Q := Z_getR (ci := 11) (k0 := 29) (T := TX11) (C := RX11) (N := 52) hd rfl inW11 (by decide) hl hs ho rfl hr hq k
theorem pf11_29 {M : zM} {B : zB} {pc q : Nat} {loc : List (Option Value)} {rest : List Value} {n : Nat} {iv : zI} {rv : zR} {lv : zJ} {Q : zQ} {o idx : Nat} {x : Nat} (hd : decode M.2.1 pc = .ok (.putfield idx, 3)) (hl : Cond.fieldLink M.1.cls idx "NumberHeapsModel" "stepA" "[I" ∈ Wd) (hs : zSH o = (31, 52)) (ho : o < n) (hini : M.1.name = "<init>") (hdecl : "NumberHeapsModel" = M.1.cls) (hq : pc + 3 = q) (k : Z M B q loc rest n iv (zu rv o 29 (some x)) lv Q) : Z M B pc loc (.ref x :: .ref o :: rest) n iv rv lv Q := Z_putRF (ci := 11) (k0 := 29) (T := TX11) (C := RX11) (N := 52) hd rfl inW11 (by decide) hl hs ho zty11_ok nmX11 rfl hini hdecl rfl (fun _ => rfl) (fun _ => rfl) hq k
theorem g11_30 {M : zM} {B : zB} {pc q : Nat} {loc : List (Option Value)} {rest : List Value} {n : Nat} {iv : zI} {rv : zR} {lv : zJ} {Q : zQ} {o idx : Nat} {r : Nat} (hd : decode M.2.1 pc = .ok (.getfield idx, 3)) (hl : Cond.fieldLink M.1.cls idx "NumberHeapsModel" "stepB" "[I" ∈ Wd) (hs : zSH o = (31, 52)) (ho : o < n) (hr : rv o 30 = some r) (hq : pc + 3 = q) (k : Z M B q loc (.ref r :: rest) n iv rv lv Q) : Z M B pc loc (.ref o :: rest) n iv rv lv Q := Z_getR (ci := 11) (k0 := 30) (T := TX11) (C := RX11) (N := 52) hd rfl inW11 (by decide) hl hs ho rfl hr hq k
theorem pf11_30 {M : zM} {B : zB} {pc q : Nat} {loc : List (Option Value)} {rest : List Value} {n : Nat} {iv : zI} {rv : zR} {lv : zJ} {Q : zQ} {o idx : Nat} {x : Nat} (hd : decode M.2.1 pc = .ok (.putfield idx, 3)) (hl : Cond.fieldLink M.1.cls idx "NumberHeapsModel" "stepB" "[I" ∈ Wd) (hs : zSH o = (31, 52)) (ho : o < n) (hini : M.1.name = "<init>") (hdecl : "NumberHeapsModel" = M.1.cls) (hq : pc + 3 = q) (k : Z M B q loc rest n iv (zu rv o 30 (some x)) lv Q) : Z M B pc loc (.ref x :: .ref o :: rest) n iv rv lv Q := Z_putRF (ci := 11) (k0 := 30) (T := TX11) (C := RX11) (N := 52) hd rfl inW11 (by decide) hl hs ho zty11_ok nmX11 rfl hini hdecl rfl (fun _ => rfl) (fun _ => rfl) hq k
theorem g11_31 {M : zM} {B : zB} {pc q : Nat} {loc : List (Option Value)} {rest : List Value} {n : Nat} {iv : zI} {rv : zR} {lv : zJ} {Q : zQ} {o idx : Nat} {r : Nat} (hd : decode M.2.1 pc = .ok (.getfield idx, 3)) (hl : Cond.fieldLink M.1.cls idx "NumberHeapsModel" "findOf" "[I" ∈ Wd) (hs : zSH o = (31, 52)) (ho : o < n) (hr : rv o 31 = some r) (hq : pc + 3 = q) (k : Z M B q loc (.ref r :: rest) n iv rv lv Q) : Z M B pc loc (.ref o :: rest) n iv rv lv Q := Z_getR (ci := 11) (k0 := 31) (T := TX11) (C := RX11) (N := 52) hd rfl inW11 (by decide) hl hs ho rfl hr hq k
theorem pf11_31 {M : zM} {B : zB} {pc q : Nat} {loc : List (Option Value)} {rest : List Value} {n : Nat} {iv : zI} {rv : zR} {lv : zJ} {Q : zQ} {o idx : Nat} {x : Nat} (hd : decode M.2.1 pc = .ok (.putfield idx, 3)) (hl : Cond.fieldLink M.1.cls idx "NumberHeapsModel" "findOf" "[I" ∈ Wd) (hs : zSH o = (31, 52)) (ho : o < n) (hini : M.1.name = "<init>") (hdecl : "NumberHeapsModel" = M.1.cls) (hq : pc + 3 = q) (k : Z M B q loc rest n iv (zu rv o 31 (some x)) lv Q) : Z M B pc loc (.ref x :: .ref o :: rest) n iv rv lv Q := Z_putRF (ci := 11) (k0 := 31) (T := TX11) (C := RX11) (N := 52) hd rfl inW11 (by decide) hl hs ho zty11_ok nmX11 rfl hini hdecl rfl (fun _ => rfl) (fun _ => rfl) hq k
theorem g11_32 {M : zM} {B : zB} {pc q : Nat} {loc : List (Option Value)} {rest : List Value} {n : Nat} {iv : zI} {rv : zR} {lv : zJ} {Q : zQ} {o idx : Nat} {r : Nat} (hd : decode M.2.1 pc = .ok (.getfield idx, 3)) (hl : Cond.fieldLink M.1.cls idx "NumberHeapsModel" "findAt" "[I" ∈ Wd) (hs : zSH o = (31, 52)) (ho : o < n) (hr : rv o 32 = some r) (hq : pc + 3 = q) (k : Z M B q loc (.ref r :: rest) n iv rv lv Q) : Z M B pc loc (.ref o :: rest) n iv rv lv Q := Z_getR (ci := 11) (k0 := 32) (T := TX11) (C := RX11) (N := 52) hd rfl inW11 (by decide) hl hs ho rfl hr hq k
theorem pf11_32 {M : zM} {B : zB} {pc q : Nat} {loc : List (Option Value)} {rest : List Value} {n : Nat} {iv : zI} {rv : zR} {lv : zJ} {Q : zQ} {o idx : Nat} {x : Nat} (hd : decode M.2.1 pc = .ok (.putfield idx, 3)) (hl : Cond.fieldLink M.1.cls idx "NumberHeapsModel" "findAt" "[I" ∈ Wd) (hs : zSH o = (31, 52)) (ho : o < n) (hini : M.1.name = "<init>") (hdecl : "NumberHeapsModel" = M.1.cls) (hq : pc + 3 = q) (k : Z M B q loc rest n iv (zu rv o 32 (some x)) lv Q) : Z M B pc loc (.ref x :: .ref o :: rest) n iv rv lv Q := Z_putRF (ci := 11) (k0 := 32) (T := TX11) (C := RX11) (N := 52) hd rfl inW11 (by decide) hl hs ho zty11_ok nmX11 rfl hini hdecl rfl (fun _ => rfl) (fun _ => rfl) hq k
theorem g11_33 {M : zM} {B : zB} {pc q : Nat} {loc : List (Option Value)} {rest : List Value} {n : Nat} {iv : zI} {rv : zR} {lv : zJ} {Q : zQ} {o idx : Nat} (hd : decode M.2.1 pc = .ok (.getfield idx, 3)) (hl : Cond.fieldLink M.1.cls idx "NumberHeapsModel" "leastLeaf" "I" ∈ Wd) (hs : zSH o = (31, 52)) (ho : o < n) (hq : pc + 3 = q) (k : Z M B q loc (.int (iv o 33) :: rest) n iv rv lv Q) : Z M B pc loc (.ref o :: rest) n iv rv lv Q := Z_getI (ci := 11) (k0 := 33) (T := TX11) (C := RX11) (N := 52) hd rfl inW11 (by decide) hl hs ho rfl hq k
theorem p11_33 {M : zM} {B : zB} {pc q : Nat} {loc : List (Option Value)} {rest : List Value} {n : Nat} {iv : zI} {rv : zR} {lv : zJ} {Q : zQ} {o idx : Nat} {x : Int32} (hd : decode M.2.1 pc = .ok (.putfield idx, 3)) (hl : Cond.fieldLink M.1.cls idx "NumberHeapsModel" "leastLeaf" "I" ∈ Wd) (hs : zSH o = (31, 52)) (ho : o < n) (hq : pc + 3 = q) (k : Z M B q loc rest n (zu iv o 33 x) rv lv Q) : Z M B pc loc (.int x :: .ref o :: rest) n iv rv lv Q := Z_putI (ci := 11) (k0 := 33) (T := TX11) (C := RX11) (N := 52) hd rfl inW11 (by decide) hl hs ho zty11_ok nmX11 rfl rfl (fun _ => rfl) (fun _ => rfl) hq k
theorem g11_34 {M : zM} {B : zB} {pc q : Nat} {loc : List (Option Value)} {rest : List Value} {n : Nat} {iv : zI} {rv : zR} {lv : zJ} {Q : zQ} {o idx : Nat} (hd : decode M.2.1 pc = .ok (.getfield idx, 3)) (hl : Cond.fieldLink M.1.cls idx "NumberHeapsModel" "visited" "I" ∈ Wd) (hs : zSH o = (31, 52)) (ho : o < n) (hq : pc + 3 = q) (k : Z M B q loc (.int (iv o 34) :: rest) n iv rv lv Q) : Z M B pc loc (.ref o :: rest) n iv rv lv Q := Z_getI (ci := 11) (k0 := 34) (T := TX11) (C := RX11) (N := 52) hd rfl inW11 (by decide) hl hs ho rfl hq k
theorem p11_34 {M : zM} {B : zB} {pc q : Nat} {loc : List (Option Value)} {rest : List Value} {n : Nat} {iv : zI} {rv : zR} {lv : zJ} {Q : zQ} {o idx : Nat} {x : Int32} (hd : decode M.2.1 pc = .ok (.putfield idx, 3)) (hl : Cond.fieldLink M.1.cls idx "NumberHeapsModel" "visited" "I" ∈ Wd) (hs : zSH o = (31, 52)) (ho : o < n) (hq : pc + 3 = q) (k : Z M B q loc rest n (zu iv o 34 x) rv lv Q) : Z M B pc loc (.int x :: .ref o :: rest) n iv rv lv Q := Z_putI (ci := 11) (k0 := 34) (T := TX11) (C := RX11) (N := 52) hd rfl inW11 (by decide) hl hs ho zty11_ok nmX11 rfl rfl (fun _ => rfl) (fun _ => rfl) hq k
theorem g11_35 {M : zM} {B : zB} {pc q : Nat} {loc : List (Option Value)} {rest : List Value} {n : Nat} {iv : zI} {rv : zR} {lv : zJ} {Q : zQ} {o idx : Nat} (hd : decode M.2.1 pc = .ok (.getfield idx, 3)) (hl : Cond.fieldLink M.1.cls idx "NumberHeapsModel" "leaves" "I" ∈ Wd) (hs : zSH o = (31, 52)) (ho : o < n) (hq : pc + 3 = q) (k : Z M B q loc (.int (iv o 35) :: rest) n iv rv lv Q) : Z M B pc loc (.ref o :: rest) n iv rv lv Q := Z_getI (ci := 11) (k0 := 35) (T := TX11) (C := RX11) (N := 52) hd rfl inW11 (by decide) hl hs ho rfl hq k
theorem p11_35 {M : zM} {B : zB} {pc q : Nat} {loc : List (Option Value)} {rest : List Value} {n : Nat} {iv : zI} {rv : zR} {lv : zJ} {Q : zQ} {o idx : Nat} {x : Int32} (hd : decode M.2.1 pc = .ok (.putfield idx, 3)) (hl : Cond.fieldLink M.1.cls idx "NumberHeapsModel" "leaves" "I" ∈ Wd) (hs : zSH o = (31, 52)) (ho : o < n) (hq : pc + 3 = q) (k : Z M B q loc rest n (zu iv o 35 x) rv lv Q) : Z M B pc loc (.int x :: .ref o :: rest) n iv rv lv Q := Z_putI (ci := 11) (k0 := 35) (T := TX11) (C := RX11) (N := 52) hd rfl inW11 (by decide) hl hs ho zty11_ok nmX11 rfl rfl (fun _ => rfl) (fun _ => rfl) hq k
theorem g11_36 {M : zM} {B : zB} {pc q : Nat} {loc : List (Option Value)} {rest : List Value} {n : Nat} {iv : zI} {rv : zR} {lv : zJ} {Q : zQ} {o idx : Nat} (hd : decode M.2.1 pc = .ok (.getfield idx, 3)) (hl : Cond.fieldLink M.1.cls idx "NumberHeapsModel" "finds" "I" ∈ Wd) (hs : zSH o = (31, 52)) (ho : o < n) (hq : pc + 3 = q) (k : Z M B q loc (.int (iv o 36) :: rest) n iv rv lv Q) : Z M B pc loc (.ref o :: rest) n iv rv lv Q := Z_getI (ci := 11) (k0 := 36) (T := TX11) (C := RX11) (N := 52) hd rfl inW11 (by decide) hl hs ho rfl hq k
theorem p11_36 {M : zM} {B : zB} {pc q : Nat} {loc : List (Option Value)} {rest : List Value} {n : Nat} {iv : zI} {rv : zR} {lv : zJ} {Q : zQ} {o idx : Nat} {x : Int32} (hd : decode M.2.1 pc = .ok (.putfield idx, 3)) (hl : Cond.fieldLink M.1.cls idx "NumberHeapsModel" "finds" "I" ∈ Wd) (hs : zSH o = (31, 52)) (ho : o < n) (hq : pc + 3 = q) (k : Z M B q loc rest n (zu iv o 36 x) rv lv Q) : Z M B pc loc (.int x :: .ref o :: rest) n iv rv lv Q := Z_putI (ci := 11) (k0 := 36) (T := TX11) (C := RX11) (N := 52) hd rfl inW11 (by decide) hl hs ho zty11_ok nmX11 rfl rfl (fun _ => rfl) (fun _ => rfl) hq k
theorem g11_37 {M : zM} {B : zB} {pc q : Nat} {loc : List (Option Value)} {rest : List Value} {n : Nat} {iv : zI} {rv : zR} {lv : zJ} {Q : zQ} {o idx : Nat} (hd : decode M.2.1 pc = .ok (.getfield idx, 3)) (hl : Cond.fieldLink M.1.cls idx "NumberHeapsModel" "foundSide" "I" ∈ Wd) (hs : zSH o = (31, 52)) (ho : o < n) (hq : pc + 3 = q) (k : Z M B q loc (.int (iv o 37) :: rest) n iv rv lv Q) : Z M B pc loc (.ref o :: rest) n iv rv lv Q := Z_getI (ci := 11) (k0 := 37) (T := TX11) (C := RX11) (N := 52) hd rfl inW11 (by decide) hl hs ho rfl hq k
theorem p11_37 {M : zM} {B : zB} {pc q : Nat} {loc : List (Option Value)} {rest : List Value} {n : Nat} {iv : zI} {rv : zR} {lv : zJ} {Q : zQ} {o idx : Nat} {x : Int32} (hd : decode M.2.1 pc = .ok (.putfield idx, 3)) (hl : Cond.fieldLink M.1.cls idx "NumberHeapsModel" "foundSide" "I" ∈ Wd) (hs : zSH o = (31, 52)) (ho : o < n) (hq : pc + 3 = q) (k : Z M B q loc rest n (zu iv o 37 x) rv lv Q) : Z M B pc loc (.int x :: .ref o :: rest) n iv rv lv Q := Z_putI (ci := 11) (k0 := 37) (T := TX11) (C := RX11) (N := 52) hd rfl inW11 (by decide) hl hs ho zty11_ok nmX11 rfl rfl (fun _ => rfl) (fun _ => rfl) hq k
theorem g11_38 {M : zM} {B : zB} {pc q : Nat} {loc : List (Option Value)} {rest : List Value} {n : Nat} {iv : zI} {rv : zR} {lv : zJ} {Q : zQ} {o idx : Nat} (hd : decode M.2.1 pc = .ok (.getfield idx, 3)) (hl : Cond.fieldLink M.1.cls idx "NumberHeapsModel" "isPerfect" "Z" ∈ Wd) (hs : zSH o = (31, 52)) (ho : o < n) (hq : pc + 3 = q) (k : Z M B q loc (.int (iv o 38) :: rest) n iv rv lv Q) : Z M B pc loc (.ref o :: rest) n iv rv lv Q := Z_getI (ci := 11) (k0 := 38) (T := TX11) (C := RX11) (N := 52) hd rfl inW11 (by decide) hl hs ho rfl hq k
theorem p11_38 {M : zM} {B : zB} {pc q : Nat} {loc : List (Option Value)} {rest : List Value} {n : Nat} {iv : zI} {rv : zR} {lv : zJ} {Q : zQ} {o idx : Nat} {x : Int32} (hd : decode M.2.1 pc = .ok (.putfield idx, 3)) (hl : Cond.fieldLink M.1.cls idx "NumberHeapsModel" "isPerfect" "Z" ∈ Wd) (hs : zSH o = (31, 52)) (ho : o < n) (hx : x = 0 ∨ x = 1) (hq : pc + 3 = q) (k : Z M B q loc rest n (zu iv o 38 x) rv lv Q) : Z M B pc loc (.int x :: .ref o :: rest) n iv rv lv Q := Z_putI (ci := 11) (k0 := 38) (T := TX11) (C := RX11) (N := 52) hd rfl inW11 (by decide) hl hs ho zty11_ok nmX11 rfl rfl (fun _ => by rcases hx with rfl | rfl <;> rfl) (fun _ => by rcases hx with rfl | rfl <;> rfl) hq k
theorem g11_39 {M : zM} {B : zB} {pc q : Nat} {loc : List (Option Value)} {rest : List Value} {n : Nat} {iv : zI} {rv : zR} {lv : zJ} {Q : zQ} {o idx : Nat} {r : Nat} (hd : decode M.2.1 pc = .ok (.getfield idx, 3)) (hl : Cond.fieldLink M.1.cls idx "NumberHeapsModel" "partWorth" "[I" ∈ Wd) (hs : zSH o = (31, 52)) (ho : o < n) (hr : rv o 39 = some r) (hq : pc + 3 = q) (k : Z M B q loc (.ref r :: rest) n iv rv lv Q) : Z M B pc loc (.ref o :: rest) n iv rv lv Q := Z_getR (ci := 11) (k0 := 39) (T := TX11) (C := RX11) (N := 52) hd rfl inW11 (by decide) hl hs ho rfl hr hq k
theorem pf11_39 {M : zM} {B : zB} {pc q : Nat} {loc : List (Option Value)} {rest : List Value} {n : Nat} {iv : zI} {rv : zR} {lv : zJ} {Q : zQ} {o idx : Nat} {x : Nat} (hd : decode M.2.1 pc = .ok (.putfield idx, 3)) (hl : Cond.fieldLink M.1.cls idx "NumberHeapsModel" "partWorth" "[I" ∈ Wd) (hs : zSH o = (31, 52)) (ho : o < n) (hini : M.1.name = "<init>") (hdecl : "NumberHeapsModel" = M.1.cls) (hq : pc + 3 = q) (k : Z M B q loc rest n iv (zu rv o 39 (some x)) lv Q) : Z M B pc loc (.ref x :: .ref o :: rest) n iv rv lv Q := Z_putRF (ci := 11) (k0 := 39) (T := TX11) (C := RX11) (N := 52) hd rfl inW11 (by decide) hl hs ho zty11_ok nmX11 rfl hini hdecl rfl (fun _ => rfl) (fun _ => rfl) hq k
theorem g11_40 {M : zM} {B : zB} {pc q : Nat} {loc : List (Option Value)} {rest : List Value} {n : Nat} {iv : zI} {rv : zR} {lv : zJ} {Q : zQ} {o idx : Nat} {r : Nat} (hd : decode M.2.1 pc = .ok (.getfield idx, 3)) (hl : Cond.fieldLink M.1.cls idx "NumberHeapsModel" "partSet" "[I" ∈ Wd) (hs : zSH o = (31, 52)) (ho : o < n) (hr : rv o 40 = some r) (hq : pc + 3 = q) (k : Z M B q loc (.ref r :: rest) n iv rv lv Q) : Z M B pc loc (.ref o :: rest) n iv rv lv Q := Z_getR (ci := 11) (k0 := 40) (T := TX11) (C := RX11) (N := 52) hd rfl inW11 (by decide) hl hs ho rfl hr hq k
theorem pf11_40 {M : zM} {B : zB} {pc q : Nat} {loc : List (Option Value)} {rest : List Value} {n : Nat} {iv : zI} {rv : zR} {lv : zJ} {Q : zQ} {o idx : Nat} {x : Nat} (hd : decode M.2.1 pc = .ok (.putfield idx, 3)) (hl : Cond.fieldLink M.1.cls idx "NumberHeapsModel" "partSet" "[I" ∈ Wd) (hs : zSH o = (31, 52)) (ho : o < n) (hini : M.1.name = "<init>") (hdecl : "NumberHeapsModel" = M.1.cls) (hq : pc + 3 = q) (k : Z M B q loc rest n iv (zu rv o 40 (some x)) lv Q) : Z M B pc loc (.ref x :: .ref o :: rest) n iv rv lv Q := Z_putRF (ci := 11) (k0 := 40) (T := TX11) (C := RX11) (N := 52) hd rfl inW11 (by decide) hl hs ho zty11_ok nmX11 rfl hini hdecl rfl (fun _ => rfl) (fun _ => rfl) hq k
theorem g11_41 {M : zM} {B : zB} {pc q : Nat} {loc : List (Option Value)} {rest : List Value} {n : Nat} {iv : zI} {rv : zR} {lv : zJ} {Q : zQ} {o idx : Nat} {r : Nat} (hd : decode M.2.1 pc = .ok (.getfield idx, 3)) (hl : Cond.fieldLink M.1.cls idx "NumberHeapsModel" "newWorth" "[I" ∈ Wd) (hs : zSH o = (31, 52)) (ho : o < n) (hr : rv o 41 = some r) (hq : pc + 3 = q) (k : Z M B q loc (.ref r :: rest) n iv rv lv Q) : Z M B pc loc (.ref o :: rest) n iv rv lv Q := Z_getR (ci := 11) (k0 := 41) (T := TX11) (C := RX11) (N := 52) hd rfl inW11 (by decide) hl hs ho rfl hr hq k
theorem pf11_41 {M : zM} {B : zB} {pc q : Nat} {loc : List (Option Value)} {rest : List Value} {n : Nat} {iv : zI} {rv : zR} {lv : zJ} {Q : zQ} {o idx : Nat} {x : Nat} (hd : decode M.2.1 pc = .ok (.putfield idx, 3)) (hl : Cond.fieldLink M.1.cls idx "NumberHeapsModel" "newWorth" "[I" ∈ Wd) (hs : zSH o = (31, 52)) (ho : o < n) (hini : M.1.name = "<init>") (hdecl : "NumberHeapsModel" = M.1.cls) (hq : pc + 3 = q) (k : Z M B q loc rest n iv (zu rv o 41 (some x)) lv Q) : Z M B pc loc (.ref x :: .ref o :: rest) n iv rv lv Q := Z_putRF (ci := 11) (k0 := 41) (T := TX11) (C := RX11) (N := 52) hd rfl inW11 (by decide) hl hs ho zty11_ok nmX11 rfl hini hdecl rfl (fun _ => rfl) (fun _ => rfl) hq k
theorem g11_42 {M : zM} {B : zB} {pc q : Nat} {loc : List (Option Value)} {rest : List Value} {n : Nat} {iv : zI} {rv : zR} {lv : zJ} {Q : zQ} {o idx : Nat} {r : Nat} (hd : decode M.2.1 pc = .ok (.getfield idx, 3)) (hl : Cond.fieldLink M.1.cls idx "NumberHeapsModel" "newSet" "[I" ∈ Wd) (hs : zSH o = (31, 52)) (ho : o < n) (hr : rv o 42 = some r) (hq : pc + 3 = q) (k : Z M B q loc (.ref r :: rest) n iv rv lv Q) : Z M B pc loc (.ref o :: rest) n iv rv lv Q := Z_getR (ci := 11) (k0 := 42) (T := TX11) (C := RX11) (N := 52) hd rfl inW11 (by decide) hl hs ho rfl hr hq k
theorem pf11_42 {M : zM} {B : zB} {pc q : Nat} {loc : List (Option Value)} {rest : List Value} {n : Nat} {iv : zI} {rv : zR} {lv : zJ} {Q : zQ} {o idx : Nat} {x : Nat} (hd : decode M.2.1 pc = .ok (.putfield idx, 3)) (hl : Cond.fieldLink M.1.cls idx "NumberHeapsModel" "newSet" "[I" ∈ Wd) (hs : zSH o = (31, 52)) (ho : o < n) (hini : M.1.name = "<init>") (hdecl : "NumberHeapsModel" = M.1.cls) (hq : pc + 3 = q) (k : Z M B q loc rest n iv (zu rv o 42 (some x)) lv Q) : Z M B pc loc (.ref x :: .ref o :: rest) n iv rv lv Q := Z_putRF (ci := 11) (k0 := 42) (T := TX11) (C := RX11) (N := 52) hd rfl inW11 (by decide) hl hs ho zty11_ok nmX11 rfl hini hdecl rfl (fun _ => rfl) (fun _ => rfl) hq k
theorem g11_43 {M : zM} {B : zB} {pc q : Nat} {loc : List (Option Value)} {rest : List Value} {n : Nat} {iv : zI} {rv : zR} {lv : zJ} {Q : zQ} {o idx : Nat} (hd : decode M.2.1 pc = .ok (.getfield idx, 3)) (hl : Cond.fieldLink M.1.cls idx "NumberHeapsModel" "items" "I" ∈ Wd) (hs : zSH o = (31, 52)) (ho : o < n) (hq : pc + 3 = q) (k : Z M B q loc (.int (iv o 43) :: rest) n iv rv lv Q) : Z M B pc loc (.ref o :: rest) n iv rv lv Q := Z_getI (ci := 11) (k0 := 43) (T := TX11) (C := RX11) (N := 52) hd rfl inW11 (by decide) hl hs ho rfl hq k
theorem p11_43 {M : zM} {B : zB} {pc q : Nat} {loc : List (Option Value)} {rest : List Value} {n : Nat} {iv : zI} {rv : zR} {lv : zJ} {Q : zQ} {o idx : Nat} {x : Int32} (hd : decode M.2.1 pc = .ok (.putfield idx, 3)) (hl : Cond.fieldLink M.1.cls idx "NumberHeapsModel" "items" "I" ∈ Wd) (hs : zSH o = (31, 52)) (ho : o < n) (hq : pc + 3 = q) (k : Z M B q loc rest n (zu iv o 43 x) rv lv Q) : Z M B pc loc (.int x :: .ref o :: rest) n iv rv lv Q := Z_putI (ci := 11) (k0 := 43) (T := TX11) (C := RX11) (N := 52) hd rfl inW11 (by decide) hl hs ho zty11_ok nmX11 rfl rfl (fun _ => rfl) (fun _ => rfl) hq k
theorem g11_44 {M : zM} {B : zB} {pc q : Nat} {loc : List (Option Value)} {rest : List Value} {n : Nat} {iv : zI} {rv : zR} {lv : zJ} {Q : zQ} {o idx : Nat} (hd : decode M.2.1 pc = .ok (.getfield idx, 3)) (hl : Cond.fieldLink M.1.cls idx "NumberHeapsModel" "rowsAllowed" "I" ∈ Wd) (hs : zSH o = (31, 52)) (ho : o < n) (hq : pc + 3 = q) (k : Z M B q loc (.int (iv o 44) :: rest) n iv rv lv Q) : Z M B pc loc (.ref o :: rest) n iv rv lv Q := Z_getI (ci := 11) (k0 := 44) (T := TX11) (C := RX11) (N := 52) hd rfl inW11 (by decide) hl hs ho rfl hq k
theorem p11_44 {M : zM} {B : zB} {pc q : Nat} {loc : List (Option Value)} {rest : List Value} {n : Nat} {iv : zI} {rv : zR} {lv : zJ} {Q : zQ} {o idx : Nat} {x : Int32} (hd : decode M.2.1 pc = .ok (.putfield idx, 3)) (hl : Cond.fieldLink M.1.cls idx "NumberHeapsModel" "rowsAllowed" "I" ∈ Wd) (hs : zSH o = (31, 52)) (ho : o < n) (hq : pc + 3 = q) (k : Z M B q loc rest n (zu iv o 44 x) rv lv Q) : Z M B pc loc (.int x :: .ref o :: rest) n iv rv lv Q := Z_putI (ci := 11) (k0 := 44) (T := TX11) (C := RX11) (N := 52) hd rfl inW11 (by decide) hl hs ho zty11_ok nmX11 rfl rfl (fun _ => rfl) (fun _ => rfl) hq k
theorem g11_45 {M : zM} {B : zB} {pc q : Nat} {loc : List (Option Value)} {rest : List Value} {n : Nat} {iv : zI} {rv : zR} {lv : zJ} {Q : zQ} {o idx : Nat} (hd : decode M.2.1 pc = .ok (.getfield idx, 3)) (hl : Cond.fieldLink M.1.cls idx "NumberHeapsModel" "leastSpread" "I" ∈ Wd) (hs : zSH o = (31, 52)) (ho : o < n) (hq : pc + 3 = q) (k : Z M B q loc (.int (iv o 45) :: rest) n iv rv lv Q) : Z M B pc loc (.ref o :: rest) n iv rv lv Q := Z_getI (ci := 11) (k0 := 45) (T := TX11) (C := RX11) (N := 52) hd rfl inW11 (by decide) hl hs ho rfl hq k
theorem p11_45 {M : zM} {B : zB} {pc q : Nat} {loc : List (Option Value)} {rest : List Value} {n : Nat} {iv : zI} {rv : zR} {lv : zJ} {Q : zQ} {o idx : Nat} {x : Int32} (hd : decode M.2.1 pc = .ok (.putfield idx, 3)) (hl : Cond.fieldLink M.1.cls idx "NumberHeapsModel" "leastSpread" "I" ∈ Wd) (hs : zSH o = (31, 52)) (ho : o < n) (hq : pc + 3 = q) (k : Z M B q loc rest n (zu iv o 45 x) rv lv Q) : Z M B pc loc (.int x :: .ref o :: rest) n iv rv lv Q := Z_putI (ci := 11) (k0 := 45) (T := TX11) (C := RX11) (N := 52) hd rfl inW11 (by decide) hl hs ho zty11_ok nmX11 rfl rfl (fun _ => rfl) (fun _ => rfl) hq k
theorem g11_46 {M : zM} {B : zB} {pc q : Nat} {loc : List (Option Value)} {rest : List Value} {n : Nat} {iv : zI} {rv : zR} {lv : zJ} {Q : zQ} {o idx : Nat} (hd : decode M.2.1 pc = .ok (.getfield idx, 3)) (hl : Cond.fieldLink M.1.cls idx "NumberHeapsModel" "leastMany" "I" ∈ Wd) (hs : zSH o = (31, 52)) (ho : o < n) (hq : pc + 3 = q) (k : Z M B q loc (.int (iv o 46) :: rest) n iv rv lv Q) : Z M B pc loc (.ref o :: rest) n iv rv lv Q := Z_getI (ci := 11) (k0 := 46) (T := TX11) (C := RX11) (N := 52) hd rfl inW11 (by decide) hl hs ho rfl hq k
theorem p11_46 {M : zM} {B : zB} {pc q : Nat} {loc : List (Option Value)} {rest : List Value} {n : Nat} {iv : zI} {rv : zR} {lv : zJ} {Q : zQ} {o idx : Nat} {x : Int32} (hd : decode M.2.1 pc = .ok (.putfield idx, 3)) (hl : Cond.fieldLink M.1.cls idx "NumberHeapsModel" "leastMany" "I" ∈ Wd) (hs : zSH o = (31, 52)) (ho : o < n) (hq : pc + 3 = q) (k : Z M B q loc rest n (zu iv o 46 x) rv lv Q) : Z M B pc loc (.int x :: .ref o :: rest) n iv rv lv Q := Z_putI (ci := 11) (k0 := 46) (T := TX11) (C := RX11) (N := 52) hd rfl inW11 (by decide) hl hs ho zty11_ok nmX11 rfl rfl (fun _ => rfl) (fun _ => rfl) hq k
theorem g11_47 {M : zM} {B : zB} {pc q : Nat} {loc : List (Option Value)} {rest : List Value} {n : Nat} {iv : zI} {rv : zR} {lv : zJ} {Q : zQ} {o idx : Nat} (hd : decode M.2.1 pc = .ok (.getfield idx, 3)) (hl : Cond.fieldLink M.1.cls idx "NumberHeapsModel" "leastTop" "I" ∈ Wd) (hs : zSH o = (31, 52)) (ho : o < n) (hq : pc + 3 = q) (k : Z M B q loc (.int (iv o 47) :: rest) n iv rv lv Q) : Z M B pc loc (.ref o :: rest) n iv rv lv Q := Z_getI (ci := 11) (k0 := 47) (T := TX11) (C := RX11) (N := 52) hd rfl inW11 (by decide) hl hs ho rfl hq k
theorem p11_47 {M : zM} {B : zB} {pc q : Nat} {loc : List (Option Value)} {rest : List Value} {n : Nat} {iv : zI} {rv : zR} {lv : zJ} {Q : zQ} {o idx : Nat} {x : Int32} (hd : decode M.2.1 pc = .ok (.putfield idx, 3)) (hl : Cond.fieldLink M.1.cls idx "NumberHeapsModel" "leastTop" "I" ∈ Wd) (hs : zSH o = (31, 52)) (ho : o < n) (hq : pc + 3 = q) (k : Z M B q loc rest n (zu iv o 47 x) rv lv Q) : Z M B pc loc (.int x :: .ref o :: rest) n iv rv lv Q := Z_putI (ci := 11) (k0 := 47) (T := TX11) (C := RX11) (N := 52) hd rfl inW11 (by decide) hl hs ho zty11_ok nmX11 rfl rfl (fun _ => rfl) (fun _ => rfl) hq k
theorem g11_48 {M : zM} {B : zB} {pc q : Nat} {loc : List (Option Value)} {rest : List Value} {n : Nat} {iv : zI} {rv : zR} {lv : zJ} {Q : zQ} {o idx : Nat} {r : Nat} (hd : decode M.2.1 pc = .ok (.getfield idx, 3)) (hl : Cond.fieldLink M.1.cls idx "NumberHeapsModel" "sumOf" "[I" ∈ Wd) (hs : zSH o = (31, 52)) (ho : o < n) (hr : rv o 48 = some r) (hq : pc + 3 = q) (k : Z M B q loc (.ref r :: rest) n iv rv lv Q) : Z M B pc loc (.ref o :: rest) n iv rv lv Q := Z_getR (ci := 11) (k0 := 48) (T := TX11) (C := RX11) (N := 52) hd rfl inW11 (by decide) hl hs ho rfl hr hq k
theorem pf11_48 {M : zM} {B : zB} {pc q : Nat} {loc : List (Option Value)} {rest : List Value} {n : Nat} {iv : zI} {rv : zR} {lv : zJ} {Q : zQ} {o idx : Nat} {x : Nat} (hd : decode M.2.1 pc = .ok (.putfield idx, 3)) (hl : Cond.fieldLink M.1.cls idx "NumberHeapsModel" "sumOf" "[I" ∈ Wd) (hs : zSH o = (31, 52)) (ho : o < n) (hini : M.1.name = "<init>") (hdecl : "NumberHeapsModel" = M.1.cls) (hq : pc + 3 = q) (k : Z M B q loc rest n iv (zu rv o 48 (some x)) lv Q) : Z M B pc loc (.ref x :: .ref o :: rest) n iv rv lv Q := Z_putRF (ci := 11) (k0 := 48) (T := TX11) (C := RX11) (N := 52) hd rfl inW11 (by decide) hl hs ho zty11_ok nmX11 rfl hini hdecl rfl (fun _ => rfl) (fun _ => rfl) hq k
theorem g11_49 {M : zM} {B : zB} {pc q : Nat} {loc : List (Option Value)} {rest : List Value} {n : Nat} {iv : zI} {rv : zR} {lv : zJ} {Q : zQ} {o idx : Nat} {r : Nat} (hd : decode M.2.1 pc = .ok (.getfield idx, 3)) (hl : Cond.fieldLink M.1.cls idx "NumberHeapsModel" "other" "[I" ∈ Wd) (hs : zSH o = (31, 52)) (ho : o < n) (hr : rv o 49 = some r) (hq : pc + 3 = q) (k : Z M B q loc (.ref r :: rest) n iv rv lv Q) : Z M B pc loc (.ref o :: rest) n iv rv lv Q := Z_getR (ci := 11) (k0 := 49) (T := TX11) (C := RX11) (N := 52) hd rfl inW11 (by decide) hl hs ho rfl hr hq k
theorem pf11_49 {M : zM} {B : zB} {pc q : Nat} {loc : List (Option Value)} {rest : List Value} {n : Nat} {iv : zI} {rv : zR} {lv : zJ} {Q : zQ} {o idx : Nat} {x : Nat} (hd : decode M.2.1 pc = .ok (.putfield idx, 3)) (hl : Cond.fieldLink M.1.cls idx "NumberHeapsModel" "other" "[I" ∈ Wd) (hs : zSH o = (31, 52)) (ho : o < n) (hini : M.1.name = "<init>") (hdecl : "NumberHeapsModel" = M.1.cls) (hq : pc + 3 = q) (k : Z M B q loc rest n iv (zu rv o 49 (some x)) lv Q) : Z M B pc loc (.ref x :: .ref o :: rest) n iv rv lv Q := Z_putRF (ci := 11) (k0 := 49) (T := TX11) (C := RX11) (N := 52) hd rfl inW11 (by decide) hl hs ho zty11_ok nmX11 rfl hini hdecl rfl (fun _ => rfl) (fun _ => rfl) hq k
theorem g11_50 {M : zM} {B : zB} {pc q : Nat} {loc : List (Option Value)} {rest : List Value} {n : Nat} {iv : zI} {rv : zR} {lv : zJ} {Q : zQ} {o idx : Nat} {r : Nat} (hd : decode M.2.1 pc = .ok (.getfield idx, 3)) (hl : Cond.fieldLink M.1.cls idx "NumberHeapsModel" "ink" "[I" ∈ Wd) (hs : zSH o = (31, 52)) (ho : o < n) (hr : rv o 50 = some r) (hq : pc + 3 = q) (k : Z M B q loc (.ref r :: rest) n iv rv lv Q) : Z M B pc loc (.ref o :: rest) n iv rv lv Q := Z_getR (ci := 11) (k0 := 50) (T := TX11) (C := RX11) (N := 52) hd rfl inW11 (by decide) hl hs ho rfl hr hq k
theorem pf11_50 {M : zM} {B : zB} {pc q : Nat} {loc : List (Option Value)} {rest : List Value} {n : Nat} {iv : zI} {rv : zR} {lv : zJ} {Q : zQ} {o idx : Nat} {x : Nat} (hd : decode M.2.1 pc = .ok (.putfield idx, 3)) (hl : Cond.fieldLink M.1.cls idx "NumberHeapsModel" "ink" "[I" ∈ Wd) (hs : zSH o = (31, 52)) (ho : o < n) (hini : M.1.name = "<init>") (hdecl : "NumberHeapsModel" = M.1.cls) (hq : pc + 3 = q) (k : Z M B q loc rest n iv (zu rv o 50 (some x)) lv Q) : Z M B pc loc (.ref x :: .ref o :: rest) n iv rv lv Q := Z_putRF (ci := 11) (k0 := 50) (T := TX11) (C := RX11) (N := 52) hd rfl inW11 (by decide) hl hs ho zty11_ok nmX11 rfl hini hdecl rfl (fun _ => rfl) (fun _ => rfl) hq k
theorem g11_51 {M : zM} {B : zB} {pc q : Nat} {loc : List (Option Value)} {rest : List Value} {n : Nat} {iv : zI} {rv : zR} {lv : zJ} {Q : zQ} {o idx : Nat} (hd : decode M.2.1 pc = .ok (.getfield idx, 3)) (hl : Cond.fieldLink M.1.cls idx "NumberHeapsModel" "inked" "I" ∈ Wd) (hs : zSH o = (31, 52)) (ho : o < n) (hq : pc + 3 = q) (k : Z M B q loc (.int (iv o 51) :: rest) n iv rv lv Q) : Z M B pc loc (.ref o :: rest) n iv rv lv Q := Z_getI (ci := 11) (k0 := 51) (T := TX11) (C := RX11) (N := 52) hd rfl inW11 (by decide) hl hs ho rfl hq k
theorem p11_51 {M : zM} {B : zB} {pc q : Nat} {loc : List (Option Value)} {rest : List Value} {n : Nat} {iv : zI} {rv : zR} {lv : zJ} {Q : zQ} {o idx : Nat} {x : Int32} (hd : decode M.2.1 pc = .ok (.putfield idx, 3)) (hl : Cond.fieldLink M.1.cls idx "NumberHeapsModel" "inked" "I" ∈ Wd) (hs : zSH o = (31, 52)) (ho : o < n) (hq : pc + 3 = q) (k : Z M B q loc rest n (zu iv o 51 x) rv lv Q) : Z M B pc loc (.int x :: .ref o :: rest) n iv rv lv Q := Z_putI (ci := 11) (k0 := 51) (T := TX11) (C := RX11) (N := 52) hd rfl inW11 (by decide) hl hs ho zty11_ok nmX11 rfl rfl (fun _ => rfl) (fun _ => rfl) hq k
def zTl : List (Nat × Nat × Nat) := [(0, 0, 1), (0, 1, 8), (0, 2, 13), (0, 4, 76), (0, 5, 79), (0, 6, 86), (0, 7, 130), (0, 8, 154), (0, 9, 155), (0, 10, 158), (1, 1, 2), (1, 4, 7), (13, 0, 14), (13, 3, 15), (76, 0, 77), (76, 2, 78), (79, 0, 80), (79, 1, 84), (79, 2, 85), (86, 6, 87), (86, 7, 88), (86, 8, 89), (130, 0, 131), (130, 1, 142), (130, 2, 153), (174, 3, 175), (174, 14, 176), (174, 15, 177), (174, 16, 178), (174, 17, 179), (174, 18, 180), (174, 22, 181), (174, 23, 182), (174, 24, 183), (174, 25, 184), (174, 26, 185), (174, 27, 186), (174, 28, 187), (174, 29, 188), (174, 30, 189), (174, 31, 190), (174, 32, 191), (174, 39, 192), (174, 40, 193), (174, 41, 194), (174, 42, 195), (174, 48, 196), (174, 49, 197), (174, 50, 198)]
def zSts : List Nat := [2, 8, 16, 21, 26, 31, 36, 41, 46, 51, 56, 61, 66, 71]
def zIts : List Nat := [80, 90, 94, 98, 102, 106, 110, 114, 118, 122, 126]
def zPts : List Nat := [159, 164, 169]
/-- which object holds which, once all is made -/
def zTop (rv : zR) : Prop := (∀ q ∈ zTl, rv q.1 q.2.1 = some q.2.2) ∧ (∀ o ∈ zSts, rv o 2 = some (o + 1) ∧ rv o 3 = some (o + 2) ∧ rv o 4 = some (o + 3) ∧ rv o 5 = some (o + 4)) ∧ (∀ o ∈ zIts, rv o 1 = some (o + 1) ∧ rv o 2 = some (o + 2) ∧ rv o 3 = some (o + 3)) ∧ (∀ o ∈ zPts, rv o 3 = some (o + 1) ∧ rv o 5 = some (o + 2) ∧ rv o 6 = some (o + 3) ∧ rv o 7 = some (o + 4)) ∧
  (∀ j, j < 10 → rv 14 j = some (16 + 5 * j)) ∧ (∀ j, j < 2 → rv 15 j = some (66 + 5 * j)) ∧ (∀ j, j < 10 → rv 89 j = some (90 + 4 * j)) ∧ (∀ j, j < 3 → rv 154 j = some (159 + 5 * j)) ∧ (∀ j, j < 10 → rv 131 j = some (132 + j)) ∧ (∀ j, j < 10 → rv 142 j = some (143 + j))
theorem sSts : ∀ o ∈ zSts, zSH o = (29, 6) ∧ zSH (o + 1) = (0, 10) ∧ zSH (o + 2) = (0, 10) ∧ zSH (o + 3) = (0, 10) ∧ zSH (o + 4) = (0, 10) ∧ o + 4 < 200 := by decide +kernel
theorem sIts : ∀ o ∈ zIts, zSH o = (23, 4) ∧ zSH (o + 1) = (0, 10) ∧ zSH (o + 2) = (0, 10) ∧ zSH (o + 3) = (0, 10) ∧ o + 3 < 200 := by decide +kernel
theorem sPts : ∀ o ∈ zPts, zSH o = (25, 13) ∧ zSH (o + 1) = (0, 10) ∧ zSH (o + 2) = (0, 10) ∧ zSH (o + 3) = (0, 4) ∧ zSH (o + 4) = (0, 4) ∧ o + 4 < 200 := by decide +kernel
theorem t10_0 {rv : zR} (h : zTop rv) : rv 0 0 = some 1 := h.1 (0, 0, 1) (List.mem_of_getElem? (i := 0) rfl)
theorem t10_1 {rv : zR} (h : zTop rv) : rv 0 1 = some 8 := h.1 (0, 1, 8) (List.mem_of_getElem? (i := 1) rfl)
theorem t10_2 {rv : zR} (h : zTop rv) : rv 0 2 = some 13 := h.1 (0, 2, 13) (List.mem_of_getElem? (i := 2) rfl)
theorem t10_4 {rv : zR} (h : zTop rv) : rv 0 4 = some 76 := h.1 (0, 4, 76) (List.mem_of_getElem? (i := 3) rfl)
theorem t10_5 {rv : zR} (h : zTop rv) : rv 0 5 = some 79 := h.1 (0, 5, 79) (List.mem_of_getElem? (i := 4) rfl)
theorem t10_6 {rv : zR} (h : zTop rv) : rv 0 6 = some 86 := h.1 (0, 6, 86) (List.mem_of_getElem? (i := 5) rfl)
theorem t10_7 {rv : zR} (h : zTop rv) : rv 0 7 = some 130 := h.1 (0, 7, 130) (List.mem_of_getElem? (i := 6) rfl)
theorem t10_8 {rv : zR} (h : zTop rv) : rv 0 8 = some 154 := h.1 (0, 8, 154) (List.mem_of_getElem? (i := 7) rfl)
theorem t10_9 {rv : zR} (h : zTop rv) : rv 0 9 = some 155 := h.1 (0, 9, 155) (List.mem_of_getElem? (i := 8) rfl)
theorem t10_10 {rv : zR} (h : zTop rv) : rv 0 10 = some 158 := h.1 (0, 10, 158) (List.mem_of_getElem? (i := 9) rfl)
theorem t6_1 {rv : zR} (h : zTop rv) : rv 1 1 = some 2 := h.1 (1, 1, 2) (List.mem_of_getElem? (i := 10) rfl)
theorem t6_4 {rv : zR} (h : zTop rv) : rv 1 4 = some 7 := h.1 (1, 4, 7) (List.mem_of_getElem? (i := 11) rfl)
theorem t2_0 {rv : zR} (h : zTop rv) : rv 13 0 = some 14 := h.1 (13, 0, 14) (List.mem_of_getElem? (i := 12) rfl)
theorem t2_3 {rv : zR} (h : zTop rv) : rv 13 3 = some 15 := h.1 (13, 3, 15) (List.mem_of_getElem? (i := 13) rfl)
theorem t1_0 {rv : zR} (h : zTop rv) : rv 76 0 = some 77 := h.1 (76, 0, 77) (List.mem_of_getElem? (i := 14) rfl)
theorem t1_2 {rv : zR} (h : zTop rv) : rv 76 2 = some 78 := h.1 (76, 2, 78) (List.mem_of_getElem? (i := 15) rfl)
theorem t0_0 {rv : zR} (h : zTop rv) : rv 79 0 = some 80 := h.1 (79, 0, 80) (List.mem_of_getElem? (i := 16) rfl)
theorem t0_1 {rv : zR} (h : zTop rv) : rv 79 1 = some 84 := h.1 (79, 1, 84) (List.mem_of_getElem? (i := 17) rfl)
theorem t0_2 {rv : zR} (h : zTop rv) : rv 79 2 = some 85 := h.1 (79, 2, 85) (List.mem_of_getElem? (i := 18) rfl)
theorem t7_6 {rv : zR} (h : zTop rv) : rv 86 6 = some 87 := h.1 (86, 6, 87) (List.mem_of_getElem? (i := 19) rfl)
theorem t7_7 {rv : zR} (h : zTop rv) : rv 86 7 = some 88 := h.1 (86, 7, 88) (List.mem_of_getElem? (i := 20) rfl)
theorem t7_8 {rv : zR} (h : zTop rv) : rv 86 8 = some 89 := h.1 (86, 8, 89) (List.mem_of_getElem? (i := 21) rfl)
theorem t4_0 {rv : zR} (h : zTop rv) : rv 130 0 = some 131 := h.1 (130, 0, 131) (List.mem_of_getElem? (i := 22) rfl)
theorem t4_1 {rv : zR} (h : zTop rv) : rv 130 1 = some 142 := h.1 (130, 1, 142) (List.mem_of_getElem? (i := 23) rfl)
theorem t4_2 {rv : zR} (h : zTop rv) : rv 130 2 = some 153 := h.1 (130, 2, 153) (List.mem_of_getElem? (i := 24) rfl)
theorem t11_3 {rv : zR} (h : zTop rv) : rv 174 3 = some 175 := h.1 (174, 3, 175) (List.mem_of_getElem? (i := 25) rfl)
theorem t11_14 {rv : zR} (h : zTop rv) : rv 174 14 = some 176 := h.1 (174, 14, 176) (List.mem_of_getElem? (i := 26) rfl)
theorem t11_15 {rv : zR} (h : zTop rv) : rv 174 15 = some 177 := h.1 (174, 15, 177) (List.mem_of_getElem? (i := 27) rfl)
theorem t11_16 {rv : zR} (h : zTop rv) : rv 174 16 = some 178 := h.1 (174, 16, 178) (List.mem_of_getElem? (i := 28) rfl)
theorem t11_17 {rv : zR} (h : zTop rv) : rv 174 17 = some 179 := h.1 (174, 17, 179) (List.mem_of_getElem? (i := 29) rfl)
theorem t11_18 {rv : zR} (h : zTop rv) : rv 174 18 = some 180 := h.1 (174, 18, 180) (List.mem_of_getElem? (i := 30) rfl)
theorem t11_22 {rv : zR} (h : zTop rv) : rv 174 22 = some 181 := h.1 (174, 22, 181) (List.mem_of_getElem? (i := 31) rfl)
theorem t11_23 {rv : zR} (h : zTop rv) : rv 174 23 = some 182 := h.1 (174, 23, 182) (List.mem_of_getElem? (i := 32) rfl)
theorem t11_24 {rv : zR} (h : zTop rv) : rv 174 24 = some 183 := h.1 (174, 24, 183) (List.mem_of_getElem? (i := 33) rfl)
theorem t11_25 {rv : zR} (h : zTop rv) : rv 174 25 = some 184 := h.1 (174, 25, 184) (List.mem_of_getElem? (i := 34) rfl)
theorem t11_26 {rv : zR} (h : zTop rv) : rv 174 26 = some 185 := h.1 (174, 26, 185) (List.mem_of_getElem? (i := 35) rfl)
theorem t11_27 {rv : zR} (h : zTop rv) : rv 174 27 = some 186 := h.1 (174, 27, 186) (List.mem_of_getElem? (i := 36) rfl)
theorem t11_28 {rv : zR} (h : zTop rv) : rv 174 28 = some 187 := h.1 (174, 28, 187) (List.mem_of_getElem? (i := 37) rfl)
theorem t11_29 {rv : zR} (h : zTop rv) : rv 174 29 = some 188 := h.1 (174, 29, 188) (List.mem_of_getElem? (i := 38) rfl)
theorem t11_30 {rv : zR} (h : zTop rv) : rv 174 30 = some 189 := h.1 (174, 30, 189) (List.mem_of_getElem? (i := 39) rfl)
theorem t11_31 {rv : zR} (h : zTop rv) : rv 174 31 = some 190 := h.1 (174, 31, 190) (List.mem_of_getElem? (i := 40) rfl)
theorem t11_32 {rv : zR} (h : zTop rv) : rv 174 32 = some 191 := h.1 (174, 32, 191) (List.mem_of_getElem? (i := 41) rfl)
theorem t11_39 {rv : zR} (h : zTop rv) : rv 174 39 = some 192 := h.1 (174, 39, 192) (List.mem_of_getElem? (i := 42) rfl)
theorem t11_40 {rv : zR} (h : zTop rv) : rv 174 40 = some 193 := h.1 (174, 40, 193) (List.mem_of_getElem? (i := 43) rfl)
theorem t11_41 {rv : zR} (h : zTop rv) : rv 174 41 = some 194 := h.1 (174, 41, 194) (List.mem_of_getElem? (i := 44) rfl)
theorem t11_42 {rv : zR} (h : zTop rv) : rv 174 42 = some 195 := h.1 (174, 42, 195) (List.mem_of_getElem? (i := 45) rfl)
theorem t11_48 {rv : zR} (h : zTop rv) : rv 174 48 = some 196 := h.1 (174, 48, 196) (List.mem_of_getElem? (i := 46) rfl)
theorem t11_49 {rv : zR} (h : zTop rv) : rv 174 49 = some 197 := h.1 (174, 49, 197) (List.mem_of_getElem? (i := 47) rfl)
theorem t11_50 {rv : zR} (h : zTop rv) : rv 174 50 = some 198 := h.1 (174, 50, 198) (List.mem_of_getElem? (i := 48) rfl)
theorem t9_2 {rv : zR} (h : zTop rv) {o : Nat} (ho : o ∈ zSts) : rv o 2 = some (o + 1) := (h.2.1 o ho).1
theorem t9_3 {rv : zR} (h : zTop rv) {o : Nat} (ho : o ∈ zSts) : rv o 3 = some (o + 2) := (h.2.1 o ho).2.1
theorem t9_4 {rv : zR} (h : zTop rv) {o : Nat} (ho : o ∈ zSts) : rv o 4 = some (o + 3) := (h.2.1 o ho).2.2.1
theorem t9_5 {rv : zR} (h : zTop rv) {o : Nat} (ho : o ∈ zSts) : rv o 5 = some (o + 4) := (h.2.1 o ho).2.2.2
theorem t3_1 {rv : zR} (h : zTop rv) {o : Nat} (ho : o ∈ zIts) : rv o 1 = some (o + 1) := (h.2.2.1 o ho).1
theorem t3_2 {rv : zR} (h : zTop rv) {o : Nat} (ho : o ∈ zIts) : rv o 2 = some (o + 2) := (h.2.2.1 o ho).2.1
theorem t3_3 {rv : zR} (h : zTop rv) {o : Nat} (ho : o ∈ zIts) : rv o 3 = some (o + 3) := (h.2.2.1 o ho).2.2
theorem t5_3 {rv : zR} (h : zTop rv) {o : Nat} (ho : o ∈ zPts) : rv o 3 = some (o + 1) := (h.2.2.2.1 o ho).1
theorem t5_5 {rv : zR} (h : zTop rv) {o : Nat} (ho : o ∈ zPts) : rv o 5 = some (o + 2) := (h.2.2.2.1 o ho).2.1
theorem t5_6 {rv : zR} (h : zTop rv) {o : Nat} (ho : o ∈ zPts) : rv o 6 = some (o + 3) := (h.2.2.2.1 o ho).2.2.1
theorem t5_7 {rv : zR} (h : zTop rv) {o : Nat} (ho : o ∈ zPts) : rv o 7 = some (o + 4) := (h.2.2.2.1 o ho).2.2.2
end
section
/-! CALLS of methods that make nothing, by what they answer; places of the kinds of objects. -/
theorem Z_callVi {M : zM} {B : zB} {pc q : Nat} {loc : List (Option Value)} {rest st : List Value} {iv : zI} {rv : zR} {lv : zJ} {Q : zQ} {M2 : zM} {idx d2 na o : Nat} {As : List Value} {Q2 : Int32 → zI → zR → zJ → Prop} (hd : decode M.2.1 pc = .ok (.invokevirtual idx, 3)) (hk : zMi M2 na) (hl : Cond.methodLink M.1.cls idx M2.1 ∈ Wd) {ci N : Nat} {T : u_T} (hc : vwCl[ci]? = some (M2.1.cls, T, N)) (hs : zSH o = (ci + 20, N)) (ho : o < 200) (hst : As.reverse ++ .ref o :: rest = st) (hna : As.length = na) (hml : M2.2.2.1 ≤ 40) (hcat : (rest.map fun v => v.category).sum ≤ 8) (hd2 : d2 + 1 ≤ B.1) (hm : Ci M2 d2 (.ref o :: As) iv rv lv Q2) (hq : pc + 3 = q) (k : ∀ (x : Int32) (iv' : zI) (rv' : zR) (lv' : zJ), Q2 x iv' rv' lv' → Z M B q loc (.int x :: rest) 200 iv' rv' lv' Q) : Z M B pc loc st 200 iv rv lv Q := Z_callV hd hk hl hc hs ho hst hna hml hcat hd2 hm hq (fun r iv' rv' lv' h => by obtain ⟨x, rfl, h⟩ := h; exact k x iv' rv' lv' h)
theorem Z_callVv {M : zM} {B : zB} {pc q : Nat} {loc : List (Option Value)} {rest st : List Value} {iv : zI} {rv : zR} {lv : zJ} {Q : zQ} {M2 : zM} {idx d2 na o : Nat} {As : List Value} {Q2 : zI → zR → zJ → Prop} (hd : decode M.2.1 pc = .ok (.invokevirtual idx, 3)) (hk : zMi M2 na) (hl : Cond.methodLink M.1.cls idx M2.1 ∈ Wd) {ci N : Nat} {T : u_T} (hc : vwCl[ci]? = some (M2.1.cls, T, N)) (hs : zSH o = (ci + 20, N)) (ho : o < 200) (hst : As.reverse ++ .ref o :: rest = st) (hna : As.length = na) (hml : M2.2.2.1 ≤ 40) (hcat : (rest.map fun v => v.category).sum ≤ 8) (hd2 : d2 + 1 ≤ B.1) (hm : Cv M2 d2 (.ref o :: As) iv rv lv Q2) (hq : pc + 3 = q) (k : ∀ (iv' : zI) (rv' : zR) (lv' : zJ), Q2 iv' rv' lv' → Z M B q loc (rest) 200 iv' rv' lv' Q) : Z M B pc loc st 200 iv rv lv Q := Z_callV hd hk hl hc hs ho hst hna hml hcat hd2 hm hq (fun r iv' rv' lv' h => by obtain ⟨rfl, h⟩ := h; exact k iv' rv' lv' h)
theorem Z_callVl {M : zM} {B : zB} {pc q : Nat} {loc : List (Option Value)} {rest st : List Value} {iv : zI} {rv : zR} {lv : zJ} {Q : zQ} {M2 : zM} {idx d2 na o : Nat} {As : List Value} {Q2 : Int64 → zI → zR → zJ → Prop} (hd : decode M.2.1 pc = .ok (.invokevirtual idx, 3)) (hk : zMi M2 na) (hl : Cond.methodLink M.1.cls idx M2.1 ∈ Wd) {ci N : Nat} {T : u_T} (hc : vwCl[ci]? = some (M2.1.cls, T, N)) (hs : zSH o = (ci + 20, N)) (ho : o < 200) (hst : As.reverse ++ .ref o :: rest = st) (hna : As.length = na) (hml : M2.2.2.1 ≤ 40) (hcat : (rest.map fun v => v.category).sum ≤ 8) (hd2 : d2 + 1 ≤ B.1) (hm : Cl M2 d2 (.ref o :: As) iv rv lv Q2) (hq : pc + 3 = q) (k : ∀ (x : Int64) (iv' : zI) (rv' : zR) (lv' : zJ), Q2 x iv' rv' lv' → Z M B q loc (.long x :: rest) 200 iv' rv' lv' Q) : Z M B pc loc st 200 iv rv lv Q := Z_callV hd hk hl hc hs ho hst hna hml hcat hd2 hm hq (fun r iv' rv' lv' h => by obtain ⟨x, rfl, h⟩ := h; exact k x iv' rv' lv' h)
theorem Z_callVr {M : zM} {B : zB} {pc q : Nat} {loc : List (Option Value)} {rest st : List Value} {iv : zI} {rv : zR} {lv : zJ} {Q : zQ} {M2 : zM} {idx d2 na o : Nat} {As : List Value} {Q2 : Nat → zI → zR → zJ → Prop} (hd : decode M.2.1 pc = .ok (.invokevirtual idx, 3)) (hk : zMi M2 na) (hl : Cond.methodLink M.1.cls idx M2.1 ∈ Wd) {ci N : Nat} {T : u_T} (hc : vwCl[ci]? = some (M2.1.cls, T, N)) (hs : zSH o = (ci + 20, N)) (ho : o < 200) (hst : As.reverse ++ .ref o :: rest = st) (hna : As.length = na) (hml : M2.2.2.1 ≤ 40) (hcat : (rest.map fun v => v.category).sum ≤ 8) (hd2 : d2 + 1 ≤ B.1) (hm : Cr M2 d2 (.ref o :: As) iv rv lv Q2) (hq : pc + 3 = q) (k : ∀ (x : Nat) (iv' : zI) (rv' : zR) (lv' : zJ), Q2 x iv' rv' lv' → Z M B q loc (.ref x :: rest) 200 iv' rv' lv' Q) : Z M B pc loc st 200 iv rv lv Q := Z_callV hd hk hl hc hs ho hst hna hml hcat hd2 hm hq (fun r iv' rv' lv' h => by obtain ⟨x, rfl, h⟩ := h; exact k x iv' rv' lv' h)
theorem Z_callSi {M : zM} {B : zB} {pc q : Nat} {loc : List (Option Value)} {rest st : List Value} {iv : zI} {rv : zR} {lv : zJ} {Q : zQ} {M2 : zM} {idx d2 na : Nat} {As : List Value} {Q2 : Int32 → zI → zR → zJ → Prop} (hd : decode M.2.1 pc = .ok (.invokestatic idx, 3)) (hk : zMs M2 na) (hl : Cond.methodLink M.1.cls idx M2.1 ∈ Wd) (hst : As.reverse ++ rest = st) (hna : As.length = na) (hml : M2.2.2.1 ≤ 40) (hcat : (rest.map fun v => v.category).sum ≤ 8) (hd2 : d2 + 1 ≤ B.1) (hm : Ci M2 d2 As iv rv lv Q2) (hq : pc + 3 = q) (k : ∀ (x : Int32) (iv' : zI) (rv' : zR) (lv' : zJ), Q2 x iv' rv' lv' → Z M B q loc (.int x :: rest) 200 iv' rv' lv' Q) : Z M B pc loc st 200 iv rv lv Q := Z_callS hd hk hl hst hna hml hcat hd2 hm hq (fun r iv' rv' lv' h => by obtain ⟨x, rfl, h⟩ := h; exact k x iv' rv' lv' h)
theorem Z_callSv {M : zM} {B : zB} {pc q : Nat} {loc : List (Option Value)} {rest st : List Value} {iv : zI} {rv : zR} {lv : zJ} {Q : zQ} {M2 : zM} {idx d2 na : Nat} {As : List Value} {Q2 : zI → zR → zJ → Prop} (hd : decode M.2.1 pc = .ok (.invokestatic idx, 3)) (hk : zMs M2 na) (hl : Cond.methodLink M.1.cls idx M2.1 ∈ Wd) (hst : As.reverse ++ rest = st) (hna : As.length = na) (hml : M2.2.2.1 ≤ 40) (hcat : (rest.map fun v => v.category).sum ≤ 8) (hd2 : d2 + 1 ≤ B.1) (hm : Cv M2 d2 As iv rv lv Q2) (hq : pc + 3 = q) (k : ∀ (iv' : zI) (rv' : zR) (lv' : zJ), Q2 iv' rv' lv' → Z M B q loc (rest) 200 iv' rv' lv' Q) : Z M B pc loc st 200 iv rv lv Q := Z_callS hd hk hl hst hna hml hcat hd2 hm hq (fun r iv' rv' lv' h => by obtain ⟨rfl, h⟩ := h; exact k iv' rv' lv' h)
theorem Z_callSl {M : zM} {B : zB} {pc q : Nat} {loc : List (Option Value)} {rest st : List Value} {iv : zI} {rv : zR} {lv : zJ} {Q : zQ} {M2 : zM} {idx d2 na : Nat} {As : List Value} {Q2 : Int64 → zI → zR → zJ → Prop} (hd : decode M.2.1 pc = .ok (.invokestatic idx, 3)) (hk : zMs M2 na) (hl : Cond.methodLink M.1.cls idx M2.1 ∈ Wd) (hst : As.reverse ++ rest = st) (hna : As.length = na) (hml : M2.2.2.1 ≤ 40) (hcat : (rest.map fun v => v.category).sum ≤ 8) (hd2 : d2 + 1 ≤ B.1) (hm : Cl M2 d2 As iv rv lv Q2) (hq : pc + 3 = q) (k : ∀ (x : Int64) (iv' : zI) (rv' : zR) (lv' : zJ), Q2 x iv' rv' lv' → Z M B q loc (.long x :: rest) 200 iv' rv' lv' Q) : Z M B pc loc st 200 iv rv lv Q := Z_callS hd hk hl hst hna hml hcat hd2 hm hq (fun r iv' rv' lv' h => by obtain ⟨x, rfl, h⟩ := h; exact k x iv' rv' lv' h)
theorem Z_callSr {M : zM} {B : zB} {pc q : Nat} {loc : List (Option Value)} {rest st : List Value} {iv : zI} {rv : zR} {lv : zJ} {Q : zQ} {M2 : zM} {idx d2 na : Nat} {As : List Value} {Q2 : Nat → zI → zR → zJ → Prop} (hd : decode M.2.1 pc = .ok (.invokestatic idx, 3)) (hk : zMs M2 na) (hl : Cond.methodLink M.1.cls idx M2.1 ∈ Wd) (hst : As.reverse ++ rest = st) (hna : As.length = na) (hml : M2.2.2.1 ≤ 40) (hcat : (rest.map fun v => v.category).sum ≤ 8) (hd2 : d2 + 1 ≤ B.1) (hm : Cr M2 d2 As iv rv lv Q2) (hq : pc + 3 = q) (k : ∀ (x : Nat) (iv' : zI) (rv' : zR) (lv' : zJ), Q2 x iv' rv' lv' → Z M B q loc (.ref x :: rest) 200 iv' rv' lv' Q) : Z M B pc loc st 200 iv rv lv Q := Z_callS hd hk hl hst hna hml hcat hd2 hm hq (fun r iv' rv' lv' h => by obtain ⟨x, rfl, h⟩ := h; exact k x iv' rv' lv' h)
theorem Z_callSNi {M : zM} {B : zB} {pc q : Nat} {loc : List (Option Value)} {rest st : List Value} {iv : zI} {rv : zR} {lv : zJ} {Q : zQ} {M2 : zM} {idx d2 na : Nat} {As : List Value} {Q2 : Int32 → zI → zR → zJ → Prop} (hd : decode M.2.1 pc = .ok (.invokestatic idx, 3)) (hk : zMs M2 na) (hl : (M.1.cls, idx, M2.1) ∈ zNs) (hst : As.reverse ++ rest = st) (hna : As.length = na) (hml : M2.2.2.1 ≤ 40) (hcat : (rest.map fun v => v.category).sum ≤ 8) (hd2 : d2 + 1 ≤ B.1) (hm : Ci M2 d2 As iv rv lv Q2) (hq : pc + 3 = q) (k : ∀ (x : Int32) (iv' : zI) (rv' : zR) (lv' : zJ), Q2 x iv' rv' lv' → Z M B q loc (.int x :: rest) 200 iv' rv' lv' Q) : Z M B pc loc st 200 iv rv lv Q := Z_callSN hd hk hl hst hna hml hcat hd2 hm hq (fun r iv' rv' lv' h => by obtain ⟨x, rfl, h⟩ := h; exact k x iv' rv' lv' h)
theorem Z_callSNv {M : zM} {B : zB} {pc q : Nat} {loc : List (Option Value)} {rest st : List Value} {iv : zI} {rv : zR} {lv : zJ} {Q : zQ} {M2 : zM} {idx d2 na : Nat} {As : List Value} {Q2 : zI → zR → zJ → Prop} (hd : decode M.2.1 pc = .ok (.invokestatic idx, 3)) (hk : zMs M2 na) (hl : (M.1.cls, idx, M2.1) ∈ zNs) (hst : As.reverse ++ rest = st) (hna : As.length = na) (hml : M2.2.2.1 ≤ 40) (hcat : (rest.map fun v => v.category).sum ≤ 8) (hd2 : d2 + 1 ≤ B.1) (hm : Cv M2 d2 As iv rv lv Q2) (hq : pc + 3 = q) (k : ∀ (iv' : zI) (rv' : zR) (lv' : zJ), Q2 iv' rv' lv' → Z M B q loc (rest) 200 iv' rv' lv' Q) : Z M B pc loc st 200 iv rv lv Q := Z_callSN hd hk hl hst hna hml hcat hd2 hm hq (fun r iv' rv' lv' h => by obtain ⟨rfl, h⟩ := h; exact k iv' rv' lv' h)
theorem Z_callSNl {M : zM} {B : zB} {pc q : Nat} {loc : List (Option Value)} {rest st : List Value} {iv : zI} {rv : zR} {lv : zJ} {Q : zQ} {M2 : zM} {idx d2 na : Nat} {As : List Value} {Q2 : Int64 → zI → zR → zJ → Prop} (hd : decode M.2.1 pc = .ok (.invokestatic idx, 3)) (hk : zMs M2 na) (hl : (M.1.cls, idx, M2.1) ∈ zNs) (hst : As.reverse ++ rest = st) (hna : As.length = na) (hml : M2.2.2.1 ≤ 40) (hcat : (rest.map fun v => v.category).sum ≤ 8) (hd2 : d2 + 1 ≤ B.1) (hm : Cl M2 d2 As iv rv lv Q2) (hq : pc + 3 = q) (k : ∀ (x : Int64) (iv' : zI) (rv' : zR) (lv' : zJ), Q2 x iv' rv' lv' → Z M B q loc (.long x :: rest) 200 iv' rv' lv' Q) : Z M B pc loc st 200 iv rv lv Q := Z_callSN hd hk hl hst hna hml hcat hd2 hm hq (fun r iv' rv' lv' h => by obtain ⟨x, rfl, h⟩ := h; exact k x iv' rv' lv' h)
theorem Z_callSNr {M : zM} {B : zB} {pc q : Nat} {loc : List (Option Value)} {rest st : List Value} {iv : zI} {rv : zR} {lv : zJ} {Q : zQ} {M2 : zM} {idx d2 na : Nat} {As : List Value} {Q2 : Nat → zI → zR → zJ → Prop} (hd : decode M.2.1 pc = .ok (.invokestatic idx, 3)) (hk : zMs M2 na) (hl : (M.1.cls, idx, M2.1) ∈ zNs) (hst : As.reverse ++ rest = st) (hna : As.length = na) (hml : M2.2.2.1 ≤ 40) (hcat : (rest.map fun v => v.category).sum ≤ 8) (hd2 : d2 + 1 ≤ B.1) (hm : Cr M2 d2 As iv rv lv Q2) (hq : pc + 3 = q) (k : ∀ (x : Nat) (iv' : zI) (rv' : zR) (lv' : zJ), Q2 x iv' rv' lv' → Z M B q loc (.ref x :: rest) 200 iv' rv' lv' Q) : Z M B pc loc st 200 iv rv lv Q := Z_callSN hd hk hl hst hna hml hcat hd2 hm hq (fun r iv' rv' lv' h => by obtain ⟨x, rfl, h⟩ := h; exact k x iv' rv' lv' h)
theorem hS9_0 {o : Nat} (ho : o ∈ zSts) : zSH (o) = (29, 6) := (sSts o ho).1
theorem hL9_0 {o : Nat} (ho : o ∈ zSts) : o < 200 := by
  have h := (sSts o ho).2.2.2.2.2
  omega
theorem hS9_1 {o : Nat} (ho : o ∈ zSts) : zSH (o + 1) = (0, 10) := (sSts o ho).2.1
theorem hL9_1 {o : Nat} (ho : o ∈ zSts) : o + 1 < 200 := by
  have h := (sSts o ho).2.2.2.2.2
  omega
theorem hS9_2 {o : Nat} (ho : o ∈ zSts) : zSH (o + 2) = (0, 10) := (sSts o ho).2.2.1
theorem hL9_2 {o : Nat} (ho : o ∈ zSts) : o + 2 < 200 := by
  have h := (sSts o ho).2.2.2.2.2
  omega
theorem hS9_3 {o : Nat} (ho : o ∈ zSts) : zSH (o + 3) = (0, 10) := (sSts o ho).2.2.2.1
theorem hL9_3 {o : Nat} (ho : o ∈ zSts) : o + 3 < 200 := by
  have h := (sSts o ho).2.2.2.2.2
  omega
theorem hS9_4 {o : Nat} (ho : o ∈ zSts) : zSH (o + 4) = (0, 10) := (sSts o ho).2.2.2.2.1
theorem hL9_4 {o : Nat} (ho : o ∈ zSts) : o + 4 < 200 := by
  have h := (sSts o ho).2.2.2.2.2
  omega
theorem hS3_0 {o : Nat} (ho : o ∈ zIts) : zSH (o) = (23, 4) := (sIts o ho).1
theorem hL3_0 {o : Nat} (ho : o ∈ zIts) : o < 200 := by
  have h := (sIts o ho).2.2.2.2
  omega
theorem hS3_1 {o : Nat} (ho : o ∈ zIts) : zSH (o + 1) = (0, 10) := (sIts o ho).2.1
theorem hL3_1 {o : Nat} (ho : o ∈ zIts) : o + 1 < 200 := by
  have h := (sIts o ho).2.2.2.2
  omega
theorem hS3_2 {o : Nat} (ho : o ∈ zIts) : zSH (o + 2) = (0, 10) := (sIts o ho).2.2.1
theorem hL3_2 {o : Nat} (ho : o ∈ zIts) : o + 2 < 200 := by
  have h := (sIts o ho).2.2.2.2
  omega
theorem hS3_3 {o : Nat} (ho : o ∈ zIts) : zSH (o + 3) = (0, 10) := (sIts o ho).2.2.2.1
theorem hL3_3 {o : Nat} (ho : o ∈ zIts) : o + 3 < 200 := by
  have h := (sIts o ho).2.2.2.2
  omega
theorem hS5_0 {o : Nat} (ho : o ∈ zPts) : zSH (o) = (25, 13) := (sPts o ho).1
theorem hL5_0 {o : Nat} (ho : o ∈ zPts) : o < 200 := by
  have h := (sPts o ho).2.2.2.2.2
  omega
theorem hS5_1 {o : Nat} (ho : o ∈ zPts) : zSH (o + 1) = (0, 10) := (sPts o ho).2.1
theorem hL5_1 {o : Nat} (ho : o ∈ zPts) : o + 1 < 200 := by
  have h := (sPts o ho).2.2.2.2.2
  omega
theorem hS5_2 {o : Nat} (ho : o ∈ zPts) : zSH (o + 2) = (0, 10) := (sPts o ho).2.2.1
theorem hL5_2 {o : Nat} (ho : o ∈ zPts) : o + 2 < 200 := by
  have h := (sPts o ho).2.2.2.2.2
  omega
theorem hS5_3 {o : Nat} (ho : o ∈ zPts) : zSH (o + 3) = (0, 4) := (sPts o ho).2.2.2.1
theorem hL5_3 {o : Nat} (ho : o ∈ zPts) : o + 3 < 200 := by
  have h := (sPts o ho).2.2.2.2.2
  omega
theorem hS5_4 {o : Nat} (ho : o ∈ zPts) : zSH (o + 4) = (0, 4) := (sPts o ho).2.2.2.2.1
theorem hL5_4 {o : Nat} (ho : o ∈ zPts) : o + 4 < 200 := by
  have h := (sPts o ho).2.2.2.2.2
  omega
def zmx (x y : Int32) : Int32 := if x < y then y else x
def zmn (x y : Int32) : Int32 := if y < x then y else x
theorem zinc (x : Int32) : x + Int32.ofInt 1 = x + 1 := rfl
theorem zdec (x : Int32) : x + Int32.ofInt (-1) = x + -1 := rfl
theorem zinc6 (x : Int32) : x + Int32.ofInt 6 = x + 6 := rfl
theorem zinc8 (x : Int32) : x + Int32.ofInt (-8) = x + -8 := rfl
theorem zeqI {x k : Int32} (h : x.toInt = k.toInt) : x = k := Int32.toInt_inj.mp h
end
section
/-! THE ROWS OF Z: what is made. -/
def zFresh (n : Nat) (iv : zI) (rv : zR) (lv : zJ) : Prop := (∀ a, n ≤ a → ∀ k, iv a k = 0 ∧ rv a k = none ∧ lv a k = 0) ∧ ∀ a k r, rv a k = some r → r < n
theorem zFresh.up {n m : Nat} {iv : zI} {rv : zR} {lv : zJ} (h : zFresh n iv rv lv) (hm : n ≤ m) : zFresh m iv rv lv := ⟨fun a ha => h.1 a (Nat.le_trans hm ha), fun a k r hr => Nat.lt_of_lt_of_le (h.2 a k r hr) hm⟩
theorem zFresh.putI {n o k : Nat} {x : Int32} {iv : zI} {rv : zR} {lv : zJ} (h : zFresh n iv rv lv) (ho : o < n) : zFresh n (zu iv o k x) rv lv := ⟨fun a ha b => by rw [zu_o (by omega)]; exact h.1 a ha b, h.2⟩
theorem zFresh.putR {n o k r : Nat} {iv : zI} {rv : zR} {lv : zJ} (h : zFresh n iv rv lv) (ho : o < n) (hr : r < n) : zFresh n iv (zu rv o k (some r)) lv := ⟨fun a ha b => by rw [zu_o (by omega)]; exact h.1 a ha b, fun a b c hc => by
  by_cases e : a = o ∧ b = k
  · rw [e.1, e.2, zu_eq] at hc
    cases hc
    exact hr
  · refine h.2 a b c ?_
    simp only [zu] at hc
    rwa [if_neg e] at hc⟩
theorem zFresh.putJ {n o k : Nat} {x : Int64} {iv : zI} {rv : zR} {lv : zJ} (h : zFresh n iv rv lv) (ho : o < n) : zFresh n iv rv (zu lv o k x) := ⟨fun a ha b => by rw [zu_o (by omega)]; exact h.1 a ha b, h.2⟩
theorem zmap_ad {ad ad' : Nat → Nat} {x : Option Nat} (h : ∀ r, x = some r → ad' r = ad r) : x.map ad' = x.map ad := by
  cases x with
  | none => rfl
  | some r => simp [h r rfl]
theorem zE_ad {dA : Nat → ClassId} {ad ad' : Nat → Nat} {iv : zI} {rv : zR} {lv : zJ} {i : Nat} (h : ∀ k r, rv i k = some r → ad' r = ad r) : zE dA ad' iv rv lv i = zE dA ad iv rv lv i := by
  have h1 : (fun j => (rv i j).map ad') = fun j => (rv i j).map ad := funext fun j => zmap_ad (h j)
  have h2 : ∀ k t, zFv ad' iv rv lv i k t = zFv ad iv rv lv i k t := fun k t => by
    unfold zFv
    split
    · rfl
    · rfl
    · rw [zmap_ad (h k)]
  simp only [zE, zEk, h1, h2]
theorem zW_push {dA : Nat → ClassId} {ad : Nat → Nat} {n q : Nat} {iv : zI} {rv : zR} {lv : zJ} {ent : va_E} (hf : ∀ a k r, rv a k = some r → r < n) (he : zE dA (fun i => if i = n then q else ad i) iv rv lv n = ent) : zW dA (fun i => if i = n then q else ad i) (n + 1) iv rv lv = zW dA ad n iv rv lv ++ [(q, ent)] := by
  subst he
  unfold zW
  rw [List.range_succ, List.map_append]
  congr 1
  · apply List.map_congr_left
    intro i hi
    have hi : i < n := List.mem_range.mp hi
    have e : i ≠ n := by omega
    simp only [e, if_false]
    rw [zE_ad (ad := ad) (fun k r hr => by
      have := hf i k r hr
      have e : r ≠ n := by omega
      simp [e])]
  · simp
theorem zAg_push {n0 n q : Nat} {ad0 ad : Nat → Nat} (h : zAg n0 n ad0 ad) (hn : n0 ≤ n) : zAg n0 (n + 1) ad0 (fun i => if i = n then q else ad i) := fun i hi => by
  have e : i ≠ n := by omega
  simp only [e, if_false]
  exact h i (by omega)
theorem zAg_one {n q : Nat} {ad : Nat → Nat} : zAg n (n + 1) ad (fun i => if i = n then q else ad i) := fun i hi => by
  have e : i ≠ n := by omega
  simp [e]
theorem zSL_succ {n : Nat} {t N : Nat} (h : zSH n = (t, N)) (hn : n < 200) : zSL (n + 1) = zSL n + N := by
  have hl : n < zSHl.length := hn
  unfold zSL
  rw [List.take_succ, List.map_append, List.sum_append]
  have e : zSHl[n]? = some (t, N) := by
    unfold zSH at h
    rw [List.getD_eq_getElem?_getD] at h
    rw [List.getElem?_eq_getElem hl] at h ⊢
    simpa using h
  rw [e]
  simp
def zdv (t : Nat) : Value := match t with
  | 0 => .int 0
  | 1 => .long 0
  | _ => .null
theorem zFv_0 {ad : Nat → Nat} {iv : zI} {rv : zR} {lv : zJ} {i k t : Nat} (h1 : iv i k = 0) (h2 : rv i k = none) (h3 : lv i k = 0) : zFv ad iv rv lv i k t = zdv t := by
  match t with
  | 0 => exact congrArg Value.int h1
  | 1 => exact congrArg Value.long h3
  | t + 2 =>
    show va_rf ((rv i k).map ad) = .null
    rw [h2]
    rfl
theorem Z_new {M : zM} {B : zB} {pc q : Nat} {loc : List (Option Value)} {rest : List Value} {n : Nat} {iv : zI} {rv : zR} {lv : zJ} {Q : zQ} {idx ci N : Nat} {C : String} {T : u_T} (hd : decode M.2.1 pc = .ok (.new idx, 3)) (hc : vwCl[ci]? = some (C, T, N)) (hin : ∀ w ∈ u_ws C T N, w ∈ Wd) (hcl : Cond.classLink M.1.cls idx C ∈ Wd) (hinst : Cond.instantiable C N ∈ Wd) (hini : Cond.initialized C ∈ Wd) (hty : ∀ k, k < N → parseFieldDescriptor (T k).2.2.1 = some (zty ci k)) (hdef : ∀ j, j < N → defaultValue (zty ci j) = zdv (zkf (zty ci j))) (hsh : zSH n = (ci + 20, N)) (hn : n < 200) (hf : zFresh n iv rv lv) (hn1 : n + 1 ≤ B.2.2.1) (hokS : rest.all (zok n (n + 1)) = true) (hokL : loc.all (fun v => match v with | some v => zok n (n + 1) v | none => true) = true) (hq : pc + 3 = q) (k : Z M B q loc (.ref n :: rest) (n + 1) iv rv lv Q) : Z M B pc loc rest n iv rv lv Q := by
  subst hq
  intro l p e R s m args below meth c D dA ad0 adV xc xs Qm hC hR ad H locs ls h1 h2 h3 h4 h5 h6 h7
  have hC' := hC
  obtain ⟨hx, hb, hmlc, hown, hts, hK, hnm, hfr, hroom, hX, hB⟩ := hC'
  have hsl := zSL_succ hsh hn
  have a1 := zSL_le h6
  have a2 := zSL_le hn1
  refine va_new (ci := ci) (fs := (List.range N).map (fun k => zFv ad iv rv lv n k (zkf (zty ci k)))) (C := C) (T := T) (N := N) hx hb hts hin (zty ci) hty hown (hts _ hcl) (hts _ hinst) (hts _ hini) hK h3 h4 h5 (fun q hq => Or.inr hq) hc (fun j hj => ?_) (by omega) (by omega) hd (fun q1 H1 hP hD hS => ?_)
  · have hv := zFv_0 (ad := ad) (t := zkf (zty ci j)) (hf.1 n (Nat.le_refl _) j).1 (hf.1 n (Nat.le_refl _) j).2.1 (hf.1 n (Nat.le_refl _) j).2.2
    simp only [vp_V, List.getD_eq_getElem?_getD, List.getElem?_map, List.getElem?_range hj, Option.map_some, Option.getD_some]
    rw [hv]
    exact hdef j hj
  · have ew := zW_push (dA := dA) (ad := ad) (n := n) (q := q1) (iv := iv) (rv := rv) (lv := lv) (ent := .inr (ci, (List.range N).map (fun k => zFv ad iv rv lv n k (zkf (zty ci k))))) hf.2 (by
      rw [zE_ad (ad := ad) (fun k r hr => by rw [(hf.1 n (Nat.le_refl _) k).2.1] at hr; cases hr), zE_o hsh])
    have hag2 := zAg_push (q := q1) h1 h6
    have hag1 : zAg n (n + 1) ad (fun i => if i = n then q1 else ad i) := zAg_one
    have hL2 : zL ls M.2.2.1 (fun i => if i = n then q1 else ad i) loc := zL_ad h2 (fun v hv => zok_cv hag1 (by simpa using List.all_eq_true.mp hokL _ hv))
    have hst2 : rest.map (zcv ad) = rest.map (zcv (fun i => if i = n then q1 else ad i)) := List.map_congr_left (fun v hv => (zok_cv hag1 (List.all_eq_true.mp hokS _ hv)).symm)
    have hw := k l p e R s m args below meth c D dA ad0 adV xc xs Qm hC hR _ H1 locs ls hag2 hL2 (by rw [ew]; exact hP) (by rw [ew]; exact hD) hS (Nat.le_succ_of_le h6) hn1
    have e1 : n - B.2.1 + xc + 1 = n + 1 - B.2.1 + xc := by omega
    have e2 : zSL n - zSL B.2.1 + xs + N = zSL (n + 1) - zSL B.2.1 + xs := by
      have a1 := zSL_le h6
      omega
    rw [e1, e2, hst2]
    have e3 : Value.ref q1 :: rest.map (zcv (fun i => if i = n then q1 else ad i)) = (Value.ref n :: rest).map (zcv (fun i => if i = n then q1 else ad i)) := by simp [zcv]
    rw [e3]
    exact hw
theorem Z_newaI {M : zM} {B : zB} {pc q : Nat} {loc : List (Option Value)} {rest : List Value} {n : Nat} {iv : zI} {rv : zR} {lv : zJ} {Q : zQ} {len : Int32} {N : Nat} (hd : decode M.2.1 pc = .ok (.newarray .int, 2)) (hlen : ¬ len < 0) (hN : len.toNatClampNeg = N) (hby : N * componentBytes .int ≤ 536870912) (hsh : zSH n = (0, N)) (hn : n < 200) (hf : zFresh n iv rv lv) (hn1 : n + 1 ≤ B.2.2.1) (hokS : rest.all (zok n (n + 1)) = true) (hokL : loc.all (fun v => match v with | some v => zok n (n + 1) v | none => true) = true) (hq : pc + 2 = q) (k : Z M B q loc (.ref n :: rest) (n + 1) iv rv lv Q) : Z M B pc loc (.int len :: rest) n iv rv lv Q := by
  subst hq
  intro l p e R s m args below meth c D dA ad0 adV xc xs Qm hC hR ad H locs ls h1 h2 h3 h4 h5 h6 h7
  have hC' := hC
  obtain ⟨hx, hb, hmlc, hown, hts, hK, hnm, hfr, hroom, hX, hB⟩ := hC'
  have hsl := zSL_succ hsh hn
  have a1 := zSL_le h6
  have a2 := zSL_le hn1
  have hz : iv n = fun _ => 0 := funext fun j => (hf.1 n (Nat.le_refl _) j).1
  refine va_newa (atype := .int) (ty := .int) (a0 := (N, .inl (fun _ => 0))) hx hb (hts _ a_arrayClass_int) rfl hK h3 h4 h5 (fun q hq => Or.inr hq) (fun cA => rfl) hlen hN hby (by omega) (by omega) hd (fun q1 cA H1 hK2 hP hD hS => ?_)
  · have r1 : s.vm.findClass ("[" ++ (FieldType.int).toString) = some cA := (hK2.2 8 (cA, .int) rfl).2
    have r2 : s.vm.findClass ("[" ++ (FieldType.int).toString) = some (dA 0) := (hK.2 0 (dA 0, .int) rfl).2
    have ec : cA = dA 0 := Option.some.inj (r1.symm.trans r2)
    subst ec
    have ew := zW_push (dA := dA) (ad := ad) (n := n) (q := q1) (iv := iv) (rv := rv) (lv := lv) (ent := .inl (dA 0, N, .inl (fun _ => 0))) hf.2 (by
      rw [zE_0 hsh, hz])
    have hag2 := zAg_push (q := q1) h1 h6
    have hag1 : zAg n (n + 1) ad (fun i => if i = n then q1 else ad i) := zAg_one
    have hL2 : zL ls M.2.2.1 (fun i => if i = n then q1 else ad i) loc := zL_ad h2 (fun v hv => zok_cv hag1 (by simpa using List.all_eq_true.mp hokL _ hv))
    have hst2 : rest.map (zcv ad) = rest.map (zcv (fun i => if i = n then q1 else ad i)) := List.map_congr_left (fun v hv => (zok_cv hag1 (List.all_eq_true.mp hokS _ hv)).symm)
    have hw := k l p e R s m args below meth c D dA ad0 adV xc xs Qm hC hR _ H1 locs ls hag2 hL2 (by rw [ew]; exact hP) (by rw [ew]; exact hD) hS (Nat.le_succ_of_le h6) hn1
    have e1 : n - B.2.1 + xc + 1 = n + 1 - B.2.1 + xc := by omega
    have e2 : zSL n - zSL B.2.1 + xs + N = zSL (n + 1) - zSL B.2.1 + xs := by
      have a1 := zSL_le h6
      omega
    rw [e1, e2, hst2]
    have e3 : Value.ref q1 :: rest.map (zcv (fun i => if i = n then q1 else ad i)) = (Value.ref n :: rest).map (zcv (fun i => if i = n then q1 else ad i)) := by simp [zcv]
    rw [e3]
    exact hw
theorem Z_newaB {M : zM} {B : zB} {pc q : Nat} {loc : List (Option Value)} {rest : List Value} {n : Nat} {iv : zI} {rv : zR} {lv : zJ} {Q : zQ} {len : Int32} {N : Nat} (hd : decode M.2.1 pc = .ok (.newarray .byte, 2)) (hlen : ¬ len < 0) (hN : len.toNatClampNeg = N) (hby : N * componentBytes .byte ≤ 536870912) (hsh : zSH n = (1, N)) (hn : n < 200) (hf : zFresh n iv rv lv) (hn1 : n + 1 ≤ B.2.2.1) (hokS : rest.all (zok n (n + 1)) = true) (hokL : loc.all (fun v => match v with | some v => zok n (n + 1) v | none => true) = true) (hq : pc + 2 = q) (k : Z M B q loc (.ref n :: rest) (n + 1) iv rv lv Q) : Z M B pc loc (.int len :: rest) n iv rv lv Q := by
  subst hq
  intro l p e R s m args below meth c D dA ad0 adV xc xs Qm hC hR ad H locs ls h1 h2 h3 h4 h5 h6 h7
  have hC' := hC
  obtain ⟨hx, hb, hmlc, hown, hts, hK, hnm, hfr, hroom, hX, hB⟩ := hC'
  have hsl := zSL_succ hsh hn
  have a1 := zSL_le h6
  have a2 := zSL_le hn1
  have hz : iv n = fun _ => 0 := funext fun j => (hf.1 n (Nat.le_refl _) j).1
  refine va_newa (atype := .byte) (ty := .byte) (a0 := (N, .inl (fun _ => 0))) hx hb (hts _ a_arrayClass_byte) rfl hK h3 h4 h5 (fun q hq => Or.inr hq) (fun cA => rfl) hlen hN hby (by omega) (by omega) hd (fun q1 cA H1 hK2 hP hD hS => ?_)
  · have r1 : s.vm.findClass ("[" ++ (FieldType.byte).toString) = some cA := (hK2.2 8 (cA, .byte) rfl).2
    have r2 : s.vm.findClass ("[" ++ (FieldType.byte).toString) = some (dA 1) := (hK.2 1 (dA 1, .byte) rfl).2
    have ec : cA = dA 1 := Option.some.inj (r1.symm.trans r2)
    subst ec
    have ew := zW_push (dA := dA) (ad := ad) (n := n) (q := q1) (iv := iv) (rv := rv) (lv := lv) (ent := .inl (dA 1, N, .inl (fun _ => 0))) hf.2 (by
      rw [zE_1 hsh, hz])
    have hag2 := zAg_push (q := q1) h1 h6
    have hag1 : zAg n (n + 1) ad (fun i => if i = n then q1 else ad i) := zAg_one
    have hL2 : zL ls M.2.2.1 (fun i => if i = n then q1 else ad i) loc := zL_ad h2 (fun v hv => zok_cv hag1 (by simpa using List.all_eq_true.mp hokL _ hv))
    have hst2 : rest.map (zcv ad) = rest.map (zcv (fun i => if i = n then q1 else ad i)) := List.map_congr_left (fun v hv => (zok_cv hag1 (List.all_eq_true.mp hokS _ hv)).symm)
    have hw := k l p e R s m args below meth c D dA ad0 adV xc xs Qm hC hR _ H1 locs ls hag2 hL2 (by rw [ew]; exact hP) (by rw [ew]; exact hD) hS (Nat.le_succ_of_le h6) hn1
    have e1 : n - B.2.1 + xc + 1 = n + 1 - B.2.1 + xc := by omega
    have e2 : zSL n - zSL B.2.1 + xs + N = zSL (n + 1) - zSL B.2.1 + xs := by
      have a1 := zSL_le h6
      omega
    rw [e1, e2, hst2]
    have e3 : Value.ref q1 :: rest.map (zcv (fun i => if i = n then q1 else ad i)) = (Value.ref n :: rest).map (zcv (fun i => if i = n then q1 else ad i)) := by simp [zcv]
    rw [e3]
    exact hw
theorem Z_newaZ {M : zM} {B : zB} {pc q : Nat} {loc : List (Option Value)} {rest : List Value} {n : Nat} {iv : zI} {rv : zR} {lv : zJ} {Q : zQ} {len : Int32} {N : Nat} (hd : decode M.2.1 pc = .ok (.newarray .boolean, 2)) (hlen : ¬ len < 0) (hN : len.toNatClampNeg = N) (hby : N * componentBytes .boolean ≤ 536870912) (hsh : zSH n = (2, N)) (hn : n < 200) (hf : zFresh n iv rv lv) (hn1 : n + 1 ≤ B.2.2.1) (hokS : rest.all (zok n (n + 1)) = true) (hokL : loc.all (fun v => match v with | some v => zok n (n + 1) v | none => true) = true) (hq : pc + 2 = q) (k : Z M B q loc (.ref n :: rest) (n + 1) iv rv lv Q) : Z M B pc loc (.int len :: rest) n iv rv lv Q := by
  subst hq
  intro l p e R s m args below meth c D dA ad0 adV xc xs Qm hC hR ad H locs ls h1 h2 h3 h4 h5 h6 h7
  have hC' := hC
  obtain ⟨hx, hb, hmlc, hown, hts, hK, hnm, hfr, hroom, hX, hB⟩ := hC'
  have hsl := zSL_succ hsh hn
  have a1 := zSL_le h6
  have a2 := zSL_le hn1
  have hz : iv n = fun _ => 0 := funext fun j => (hf.1 n (Nat.le_refl _) j).1
  refine va_newa (atype := .boolean) (ty := .boolean) (a0 := (N, .inl (fun _ => 0))) hx hb (hts _ a_arrayClass_boolean) rfl hK h3 h4 h5 (fun q hq => Or.inr hq) (fun cA => rfl) hlen hN hby (by omega) (by omega) hd (fun q1 cA H1 hK2 hP hD hS => ?_)
  · have r1 : s.vm.findClass ("[" ++ (FieldType.boolean).toString) = some cA := (hK2.2 8 (cA, .boolean) rfl).2
    have r2 : s.vm.findClass ("[" ++ (FieldType.boolean).toString) = some (dA 2) := (hK.2 2 (dA 2, .boolean) rfl).2
    have ec : cA = dA 2 := Option.some.inj (r1.symm.trans r2)
    subst ec
    have ew := zW_push (dA := dA) (ad := ad) (n := n) (q := q1) (iv := iv) (rv := rv) (lv := lv) (ent := .inl (dA 2, N, .inl (fun _ => 0))) hf.2 (by
      rw [zE_2 hsh, hz])
    have hag2 := zAg_push (q := q1) h1 h6
    have hag1 : zAg n (n + 1) ad (fun i => if i = n then q1 else ad i) := zAg_one
    have hL2 : zL ls M.2.2.1 (fun i => if i = n then q1 else ad i) loc := zL_ad h2 (fun v hv => zok_cv hag1 (by simpa using List.all_eq_true.mp hokL _ hv))
    have hst2 : rest.map (zcv ad) = rest.map (zcv (fun i => if i = n then q1 else ad i)) := List.map_congr_left (fun v hv => (zok_cv hag1 (List.all_eq_true.mp hokS _ hv)).symm)
    have hw := k l p e R s m args below meth c D dA ad0 adV xc xs Qm hC hR _ H1 locs ls hag2 hL2 (by rw [ew]; exact hP) (by rw [ew]; exact hD) hS (Nat.le_succ_of_le h6) hn1
    have e1 : n - B.2.1 + xc + 1 = n + 1 - B.2.1 + xc := by omega
    have e2 : zSL n - zSL B.2.1 + xs + N = zSL (n + 1) - zSL B.2.1 + xs := by
      have a1 := zSL_le h6
      omega
    rw [e1, e2, hst2]
    have e3 : Value.ref q1 :: rest.map (zcv (fun i => if i = n then q1 else ad i)) = (Value.ref n :: rest).map (zcv (fun i => if i = n then q1 else ad i)) := by simp [zcv]
    rw [e3]
    exact hw
theorem Z_newaJ {M : zM} {B : zB} {pc q : Nat} {loc : List (Option Value)} {rest : List Value} {n : Nat} {iv : zI} {rv : zR} {lv : zJ} {Q : zQ} {len : Int32} {N : Nat} (hd : decode M.2.1 pc = .ok (.newarray .long, 2)) (hlen : ¬ len < 0) (hN : len.toNatClampNeg = N) (hby : N * componentBytes .long ≤ 536870912) (hsh : zSH n = (3, N)) (hn : n < 200) (hf : zFresh n iv rv lv) (hn1 : n + 1 ≤ B.2.2.1) (hokS : rest.all (zok n (n + 1)) = true) (hokL : loc.all (fun v => match v with | some v => zok n (n + 1) v | none => true) = true) (hq : pc + 2 = q) (k : Z M B q loc (.ref n :: rest) (n + 1) iv rv lv Q) : Z M B pc loc (.int len :: rest) n iv rv lv Q := by
  subst hq
  intro l p e R s m args below meth c D dA ad0 adV xc xs Qm hC hR ad H locs ls h1 h2 h3 h4 h5 h6 h7
  have hC' := hC
  obtain ⟨hx, hb, hmlc, hown, hts, hK, hnm, hfr, hroom, hX, hB⟩ := hC'
  have hsl := zSL_succ hsh hn
  have a1 := zSL_le h6
  have a2 := zSL_le hn1
  have hz : lv n = fun _ => 0 := funext fun j => (hf.1 n (Nat.le_refl _) j).2.2
  refine va_newa (atype := .long) (ty := .long) (a0 := (N, .inr (.inl (fun _ => 0)))) hx hb (hts _ a_arrayClass_long) rfl hK h3 h4 h5 (fun q hq => Or.inr hq) (fun cA => rfl) hlen hN hby (by omega) (by omega) hd (fun q1 cA H1 hK2 hP hD hS => ?_)
  · have r1 : s.vm.findClass ("[" ++ (FieldType.long).toString) = some cA := (hK2.2 8 (cA, .long) rfl).2
    have r2 : s.vm.findClass ("[" ++ (FieldType.long).toString) = some (dA 3) := (hK.2 3 (dA 3, .long) rfl).2
    have ec : cA = dA 3 := Option.some.inj (r1.symm.trans r2)
    subst ec
    have ew := zW_push (dA := dA) (ad := ad) (n := n) (q := q1) (iv := iv) (rv := rv) (lv := lv) (ent := .inl (dA 3, N, .inr (.inl (fun _ => 0)))) hf.2 (by
      rw [zE_3 hsh, hz])
    have hag2 := zAg_push (q := q1) h1 h6
    have hag1 : zAg n (n + 1) ad (fun i => if i = n then q1 else ad i) := zAg_one
    have hL2 : zL ls M.2.2.1 (fun i => if i = n then q1 else ad i) loc := zL_ad h2 (fun v hv => zok_cv hag1 (by simpa using List.all_eq_true.mp hokL _ hv))
    have hst2 : rest.map (zcv ad) = rest.map (zcv (fun i => if i = n then q1 else ad i)) := List.map_congr_left (fun v hv => (zok_cv hag1 (List.all_eq_true.mp hokS _ hv)).symm)
    have hw := k l p e R s m args below meth c D dA ad0 adV xc xs Qm hC hR _ H1 locs ls hag2 hL2 (by rw [ew]; exact hP) (by rw [ew]; exact hD) hS (Nat.le_succ_of_le h6) hn1
    have e1 : n - B.2.1 + xc + 1 = n + 1 - B.2.1 + xc := by omega
    have e2 : zSL n - zSL B.2.1 + xs + N = zSL (n + 1) - zSL B.2.1 + xs := by
      have a1 := zSL_le h6
      omega
    rw [e1, e2, hst2]
    have e3 : Value.ref q1 :: rest.map (zcv (fun i => if i = n then q1 else ad i)) = (Value.ref n :: rest).map (zcv (fun i => if i = n then q1 else ad i)) := by simp [zcv]
    rw [e3]
    exact hw
theorem Z_newqS {M : zM} {B : zB} {pc q : Nat} {loc : List (Option Value)} {rest : List Value} {n : Nat} {iv : zI} {rv : zR} {lv : zJ} {Q : zQ} {idx : Nat} {len : Int32} {N : Nat} (hd : decode M.2.1 pc = .ok (.anewarray idx, 3)) (hcl : Cond.classLink M.1.cls idx RX9 ∈ Wd) (hlen : ¬ len < 0) (hN : len.toNatClampNeg = N) (hby : N * 4 ≤ 536870912) (hsh : zSH n = (4, N)) (hn : n < 200) (hf : zFresh n iv rv lv) (hn1 : n + 1 ≤ B.2.2.1) (hokS : rest.all (zok n (n + 1)) = true) (hokL : loc.all (fun v => match v with | some v => zok n (n + 1) v | none => true) = true) (hq : pc + 3 = q) (k : Z M B q loc (.ref n :: rest) (n + 1) iv rv lv Q) : Z M B pc loc (.int len :: rest) n iv rv lv Q := by
  subst hq
  intro l p e R s m args below meth c D dA ad0 adV xc xs Qm hC hR ad H locs ls h1 h2 h3 h4 h5 h6 h7
  have hC' := hC
  obtain ⟨hx, hb, hmlc, hown, hts, hK, hnm, hfr, hroom, hX, hB⟩ := hC'
  have hsl := zSL_succ hsh hn
  have a1 := zSL_le h6
  have a2 := zSL_le hn1
  have hz : (fun j => (rv n j).map (fun i => (0 : Nat))) = fun _ => none := funext fun j => by rw [(hf.1 n (Nat.le_refl _) j).2.1]; rfl
  refine va_newq (C := RX9) hx hb hown (hts _ hcl) hX.2.2.2.2.2.2.1 hK h3 h4 h5 (fun q hq => Or.inr hq) hlen hN hby (by omega) (by omega) hd (fun q1 cA H1 hK2 hP hD hS => ?_)
  · obtain ⟨kA, comp, -, -, -, r1⟩ := (hK2.2 8 (cA, .object RX9) rfl).2
    obtain ⟨kA2, comp2, -, -, -, r2⟩ := (hK.2 4 (dA 4, .object RX9) rfl).2
    have ec : cA = dA 4 := Option.some.inj (r1.symm.trans r2)
    subst ec
    have ew := zW_push (dA := dA) (ad := ad) (n := n) (q := q1) (iv := iv) (rv := rv) (lv := lv) (ent := .inl (dA 4, N, .inr (.inr (.inr (.inr (fun _ => none)))))) hf.2 (by
      rw [zE_q hsh (by decide) (by decide)]
      refine congrArg (fun f : Nat → Option Nat => (.inl (dA 4, N, .inr (.inr (.inr (.inr f)))) : va_E)) (funext fun j => ?_)
      rw [(hf.1 n (Nat.le_refl _) j).2.1]
      rfl)
    have hag2 := zAg_push (q := q1) h1 h6
    have hag1 : zAg n (n + 1) ad (fun i => if i = n then q1 else ad i) := zAg_one
    have hL2 : zL ls M.2.2.1 (fun i => if i = n then q1 else ad i) loc := zL_ad h2 (fun v hv => zok_cv hag1 (by simpa using List.all_eq_true.mp hokL _ hv))
    have hst2 : rest.map (zcv ad) = rest.map (zcv (fun i => if i = n then q1 else ad i)) := List.map_congr_left (fun v hv => (zok_cv hag1 (List.all_eq_true.mp hokS _ hv)).symm)
    have hw := k l p e R s m args below meth c D dA ad0 adV xc xs Qm hC hR _ H1 locs ls hag2 hL2 (by rw [ew]; exact hP) (by rw [ew]; exact hD) hS (Nat.le_succ_of_le h6) hn1
    have e1 : n - B.2.1 + xc + 1 = n + 1 - B.2.1 + xc := by omega
    have e2 : zSL n - zSL B.2.1 + xs + N = zSL (n + 1) - zSL B.2.1 + xs := by
      have a1 := zSL_le h6
      omega
    rw [e1, e2, hst2]
    have e3 : Value.ref q1 :: rest.map (zcv (fun i => if i = n then q1 else ad i)) = (Value.ref n :: rest).map (zcv (fun i => if i = n then q1 else ad i)) := by simp [zcv]
    rw [e3]
    exact hw
theorem Z_aastS {M : zM} {B : zB} {pc q : Nat} {loc : List (Option Value)} {rest : List Value} {n : Nat} {iv : zI} {rv : zR} {lv : zJ} {Q : zQ} {a len r N : Nat} {T : u_T} {i : Int32} (hd : decode M.2.1 pc = .ok (.aastore, 1)) (hs : zSH a = (4, len)) (ha : a < n) (hc : vwCl[9]? = some (RX9, T, N)) (hs2 : zSH r = (29, N)) (hr : r < n) (hin : vp_in i len) (hq : pc + 1 = q) (k : Z M B q loc rest n iv (zu rv a i.toNatClampNeg (some r)) lv Q) : Z M B pc loc (.ref r :: .int i :: .ref a :: rest) n iv rv lv Q := by
  subst hq
  intro l p e R s m args below meth c D dA ad0 adV xc xs Qm hC hR ad H locs ls h1 h2 h3 h4 h5 h6 h7
  have ew : (zW dA ad n iv rv lv).set a (ad a, .inl (dA 4, len, .inr (.inr (.inr (.inr (va_up (fun j => (rv a j).map ad) i.toNatClampNeg (some (ad r)))))))) = zW dA ad n iv (zu rv a i.toNatClampNeg (some r)) lv := zW_set (by
    rw [zE_q hs (by decide) (by decide)]
    refine congrArg (fun f : Nat → Option Nat => (.inl (dA 4, len, .inr (.inr (.inr (.inr f)))) : va_E)) (funext fun j => ?_)
    simp only [zu, va_up, true_and]
    split <;> rfl) (fun j hj => zE_r (zu_row hj))
  exact va_astq hC.1 hC.2.1 hC.2.2.2.2.2.1 h3 h4 h5 a 4 r 9 (r := (RX9, T, N)) ((zW_at ha).trans (by rw [zE_q hs (by decide) (by decide)])) rfl ((zW_at hr).trans (by rw [zE_o (ci := 9) hs2])) hc hin hd (fun H1 locs1 hP hD hS => k l p e R s m args below meth c D dA ad0 adV xc xs Qm hC hR ad H1 locs1 ls h1 h2 (ew ▸ hP) (ew ▸ hD) hS h6 h7)
theorem Z_newqR {M : zM} {B : zB} {pc q : Nat} {loc : List (Option Value)} {rest : List Value} {n : Nat} {iv : zI} {rv : zR} {lv : zJ} {Q : zQ} {idx : Nat} {len : Int32} {N : Nat} (hd : decode M.2.1 pc = .ok (.anewarray idx, 3)) (hcl : Cond.classLink M.1.cls idx RX3 ∈ Wd) (hlen : ¬ len < 0) (hN : len.toNatClampNeg = N) (hby : N * 4 ≤ 536870912) (hsh : zSH n = (5, N)) (hn : n < 200) (hf : zFresh n iv rv lv) (hn1 : n + 1 ≤ B.2.2.1) (hokS : rest.all (zok n (n + 1)) = true) (hokL : loc.all (fun v => match v with | some v => zok n (n + 1) v | none => true) = true) (hq : pc + 3 = q) (k : Z M B q loc (.ref n :: rest) (n + 1) iv rv lv Q) : Z M B pc loc (.int len :: rest) n iv rv lv Q := by
  subst hq
  intro l p e R s m args below meth c D dA ad0 adV xc xs Qm hC hR ad H locs ls h1 h2 h3 h4 h5 h6 h7
  have hC' := hC
  obtain ⟨hx, hb, hmlc, hown, hts, hK, hnm, hfr, hroom, hX, hB⟩ := hC'
  have hsl := zSL_succ hsh hn
  have a1 := zSL_le h6
  have a2 := zSL_le hn1
  have hz : (fun j => (rv n j).map (fun i => (0 : Nat))) = fun _ => none := funext fun j => by rw [(hf.1 n (Nat.le_refl _) j).2.1]; rfl
  refine va_newq (C := RX3) hx hb hown (hts _ hcl) hX.2.2.2.2.2.2.2.1 hK h3 h4 h5 (fun q hq => Or.inr hq) hlen hN hby (by omega) (by omega) hd (fun q1 cA H1 hK2 hP hD hS => ?_)
  · obtain ⟨kA, comp, -, -, -, r1⟩ := (hK2.2 8 (cA, .object RX3) rfl).2
    obtain ⟨kA2, comp2, -, -, -, r2⟩ := (hK.2 5 (dA 5, .object RX3) rfl).2
    have ec : cA = dA 5 := Option.some.inj (r1.symm.trans r2)
    subst ec
    have ew := zW_push (dA := dA) (ad := ad) (n := n) (q := q1) (iv := iv) (rv := rv) (lv := lv) (ent := .inl (dA 5, N, .inr (.inr (.inr (.inr (fun _ => none)))))) hf.2 (by
      rw [zE_q hsh (by decide) (by decide)]
      refine congrArg (fun f : Nat → Option Nat => (.inl (dA 5, N, .inr (.inr (.inr (.inr f)))) : va_E)) (funext fun j => ?_)
      rw [(hf.1 n (Nat.le_refl _) j).2.1]
      rfl)
    have hag2 := zAg_push (q := q1) h1 h6
    have hag1 : zAg n (n + 1) ad (fun i => if i = n then q1 else ad i) := zAg_one
    have hL2 : zL ls M.2.2.1 (fun i => if i = n then q1 else ad i) loc := zL_ad h2 (fun v hv => zok_cv hag1 (by simpa using List.all_eq_true.mp hokL _ hv))
    have hst2 : rest.map (zcv ad) = rest.map (zcv (fun i => if i = n then q1 else ad i)) := List.map_congr_left (fun v hv => (zok_cv hag1 (List.all_eq_true.mp hokS _ hv)).symm)
    have hw := k l p e R s m args below meth c D dA ad0 adV xc xs Qm hC hR _ H1 locs ls hag2 hL2 (by rw [ew]; exact hP) (by rw [ew]; exact hD) hS (Nat.le_succ_of_le h6) hn1
    have e1 : n - B.2.1 + xc + 1 = n + 1 - B.2.1 + xc := by omega
    have e2 : zSL n - zSL B.2.1 + xs + N = zSL (n + 1) - zSL B.2.1 + xs := by
      have a1 := zSL_le h6
      omega
    rw [e1, e2, hst2]
    have e3 : Value.ref q1 :: rest.map (zcv (fun i => if i = n then q1 else ad i)) = (Value.ref n :: rest).map (zcv (fun i => if i = n then q1 else ad i)) := by simp [zcv]
    rw [e3]
    exact hw
theorem Z_aastR {M : zM} {B : zB} {pc q : Nat} {loc : List (Option Value)} {rest : List Value} {n : Nat} {iv : zI} {rv : zR} {lv : zJ} {Q : zQ} {a len r N : Nat} {T : u_T} {i : Int32} (hd : decode M.2.1 pc = .ok (.aastore, 1)) (hs : zSH a = (5, len)) (ha : a < n) (hc : vwCl[3]? = some (RX3, T, N)) (hs2 : zSH r = (23, N)) (hr : r < n) (hin : vp_in i len) (hq : pc + 1 = q) (k : Z M B q loc rest n iv (zu rv a i.toNatClampNeg (some r)) lv Q) : Z M B pc loc (.ref r :: .int i :: .ref a :: rest) n iv rv lv Q := by
  subst hq
  intro l p e R s m args below meth c D dA ad0 adV xc xs Qm hC hR ad H locs ls h1 h2 h3 h4 h5 h6 h7
  have ew : (zW dA ad n iv rv lv).set a (ad a, .inl (dA 5, len, .inr (.inr (.inr (.inr (va_up (fun j => (rv a j).map ad) i.toNatClampNeg (some (ad r)))))))) = zW dA ad n iv (zu rv a i.toNatClampNeg (some r)) lv := zW_set (by
    rw [zE_q hs (by decide) (by decide)]
    refine congrArg (fun f : Nat → Option Nat => (.inl (dA 5, len, .inr (.inr (.inr (.inr f)))) : va_E)) (funext fun j => ?_)
    simp only [zu, va_up, true_and]
    split <;> rfl) (fun j hj => zE_r (zu_row hj))
  exact va_astq hC.1 hC.2.1 hC.2.2.2.2.2.1 h3 h4 h5 a 5 r 3 (r := (RX3, T, N)) ((zW_at ha).trans (by rw [zE_q hs (by decide) (by decide)])) rfl ((zW_at hr).trans (by rw [zE_o (ci := 3) hs2])) hc hin hd (fun H1 locs1 hP hD hS => k l p e R s m args below meth c D dA ad0 adV xc xs Qm hC hR ad H1 locs1 ls h1 h2 (ew ▸ hP) (ew ▸ hD) hS h6 h7)
theorem Z_newqP {M : zM} {B : zB} {pc q : Nat} {loc : List (Option Value)} {rest : List Value} {n : Nat} {iv : zI} {rv : zR} {lv : zJ} {Q : zQ} {idx : Nat} {len : Int32} {N : Nat} (hd : decode M.2.1 pc = .ok (.anewarray idx, 3)) (hcl : Cond.classLink M.1.cls idx RX5 ∈ Wd) (hlen : ¬ len < 0) (hN : len.toNatClampNeg = N) (hby : N * 4 ≤ 536870912) (hsh : zSH n = (6, N)) (hn : n < 200) (hf : zFresh n iv rv lv) (hn1 : n + 1 ≤ B.2.2.1) (hokS : rest.all (zok n (n + 1)) = true) (hokL : loc.all (fun v => match v with | some v => zok n (n + 1) v | none => true) = true) (hq : pc + 3 = q) (k : Z M B q loc (.ref n :: rest) (n + 1) iv rv lv Q) : Z M B pc loc (.int len :: rest) n iv rv lv Q := by
  subst hq
  intro l p e R s m args below meth c D dA ad0 adV xc xs Qm hC hR ad H locs ls h1 h2 h3 h4 h5 h6 h7
  have hC' := hC
  obtain ⟨hx, hb, hmlc, hown, hts, hK, hnm, hfr, hroom, hX, hB⟩ := hC'
  have hsl := zSL_succ hsh hn
  have a1 := zSL_le h6
  have a2 := zSL_le hn1
  have hz : (fun j => (rv n j).map (fun i => (0 : Nat))) = fun _ => none := funext fun j => by rw [(hf.1 n (Nat.le_refl _) j).2.1]; rfl
  refine va_newq (C := RX5) hx hb hown (hts _ hcl) hX.2.2.2.2.2.2.2.2.1 hK h3 h4 h5 (fun q hq => Or.inr hq) hlen hN hby (by omega) (by omega) hd (fun q1 cA H1 hK2 hP hD hS => ?_)
  · obtain ⟨kA, comp, -, -, -, r1⟩ := (hK2.2 8 (cA, .object RX5) rfl).2
    obtain ⟨kA2, comp2, -, -, -, r2⟩ := (hK.2 6 (dA 6, .object RX5) rfl).2
    have ec : cA = dA 6 := Option.some.inj (r1.symm.trans r2)
    subst ec
    have ew := zW_push (dA := dA) (ad := ad) (n := n) (q := q1) (iv := iv) (rv := rv) (lv := lv) (ent := .inl (dA 6, N, .inr (.inr (.inr (.inr (fun _ => none)))))) hf.2 (by
      rw [zE_q hsh (by decide) (by decide)]
      refine congrArg (fun f : Nat → Option Nat => (.inl (dA 6, N, .inr (.inr (.inr (.inr f)))) : va_E)) (funext fun j => ?_)
      rw [(hf.1 n (Nat.le_refl _) j).2.1]
      rfl)
    have hag2 := zAg_push (q := q1) h1 h6
    have hag1 : zAg n (n + 1) ad (fun i => if i = n then q1 else ad i) := zAg_one
    have hL2 : zL ls M.2.2.1 (fun i => if i = n then q1 else ad i) loc := zL_ad h2 (fun v hv => zok_cv hag1 (by simpa using List.all_eq_true.mp hokL _ hv))
    have hst2 : rest.map (zcv ad) = rest.map (zcv (fun i => if i = n then q1 else ad i)) := List.map_congr_left (fun v hv => (zok_cv hag1 (List.all_eq_true.mp hokS _ hv)).symm)
    have hw := k l p e R s m args below meth c D dA ad0 adV xc xs Qm hC hR _ H1 locs ls hag2 hL2 (by rw [ew]; exact hP) (by rw [ew]; exact hD) hS (Nat.le_succ_of_le h6) hn1
    have e1 : n - B.2.1 + xc + 1 = n + 1 - B.2.1 + xc := by omega
    have e2 : zSL n - zSL B.2.1 + xs + N = zSL (n + 1) - zSL B.2.1 + xs := by
      have a1 := zSL_le h6
      omega
    rw [e1, e2, hst2]
    have e3 : Value.ref q1 :: rest.map (zcv (fun i => if i = n then q1 else ad i)) = (Value.ref n :: rest).map (zcv (fun i => if i = n then q1 else ad i)) := by simp [zcv]
    rw [e3]
    exact hw
theorem Z_aastP {M : zM} {B : zB} {pc q : Nat} {loc : List (Option Value)} {rest : List Value} {n : Nat} {iv : zI} {rv : zR} {lv : zJ} {Q : zQ} {a len r N : Nat} {T : u_T} {i : Int32} (hd : decode M.2.1 pc = .ok (.aastore, 1)) (hs : zSH a = (6, len)) (ha : a < n) (hc : vwCl[5]? = some (RX5, T, N)) (hs2 : zSH r = (25, N)) (hr : r < n) (hin : vp_in i len) (hq : pc + 1 = q) (k : Z M B q loc rest n iv (zu rv a i.toNatClampNeg (some r)) lv Q) : Z M B pc loc (.ref r :: .int i :: .ref a :: rest) n iv rv lv Q := by
  subst hq
  intro l p e R s m args below meth c D dA ad0 adV xc xs Qm hC hR ad H locs ls h1 h2 h3 h4 h5 h6 h7
  have ew : (zW dA ad n iv rv lv).set a (ad a, .inl (dA 6, len, .inr (.inr (.inr (.inr (va_up (fun j => (rv a j).map ad) i.toNatClampNeg (some (ad r)))))))) = zW dA ad n iv (zu rv a i.toNatClampNeg (some r)) lv := zW_set (by
    rw [zE_q hs (by decide) (by decide)]
    refine congrArg (fun f : Nat → Option Nat => (.inl (dA 6, len, .inr (.inr (.inr (.inr f)))) : va_E)) (funext fun j => ?_)
    simp only [zu, va_up, true_and]
    split <;> rfl) (fun j hj => zE_r (zu_row hj))
  exact va_astq hC.1 hC.2.1 hC.2.2.2.2.2.1 h3 h4 h5 a 6 r 5 (r := (RX5, T, N)) ((zW_at ha).trans (by rw [zE_q hs (by decide) (by decide)])) rfl ((zW_at hr).trans (by rw [zE_o (ci := 5) hs2])) hc hin hd (fun H1 locs1 hP hD hS => k l p e R s m args below meth c D dA ad0 adV xc xs Qm hC hR ad H1 locs1 ls h1 h2 (ew ▸ hP) (ew ▸ hD) hS h6 h7)
theorem zw_obj : Cond.instanceMethod objectInit ∈ Wd ∧ Cond.code objectInit ⟨#[0xb1]⟩ 1 none ∈ Wd := ⟨zwd 135 (by decide +kernel) (by decide +kernel), zwd 136 (by decide +kernel) (by decide +kernel)⟩
theorem Z_objInit {M : zM} {B : zB} {pc q : Nat} {loc : List (Option Value)} {rest : List Value} {n : Nat} {iv : zI} {rv : zR} {lv : zJ} {Q : zQ} {idx o : Nat} (hd : decode M.2.1 pc = .ok (.invokespecial idx, 3)) (hl : Cond.methodLink M.1.cls idx objectInit ∈ Wd) (hcat : (rest.map fun v => v.category).sum ≤ 8) (hd1 : 1 ≤ B.1) (hq : pc + 3 = q) (k : Z M B q loc rest n iv rv lv Q) : Z M B pc loc (.ref o :: rest) n iv rv lv Q := by
  subst hq
  intro l p e R s m args below meth c D dA ad0 adV xc xs Qm hC hR ad H locs ls h1 h2 h3 h4 h5 h6 h7
  have hcat2 : ((rest.map (zcv ad)).map fun v => v.category).sum ≤ 8 := by
    rw [List.map_map, show ((fun v : Value => v.category) ∘ zcv ad) = fun v => v.category from funext fun v => zcv_cat ad v]
    exact hcat
  have hw := k l p e R s m args below meth c D dA ad0 adV xc xs Qm hC hR ad H locs ls h1 h2 h3 h4 h5 h6 h7
  obtain ⟨hx, hb, hmlc, hown, hts, hK, hnm, hfr, hroom, hX, hB⟩ := hC
  have hrm := lv_room (m := m) (pc := pc) (ls := ls) (rest := (Value.ref o :: rest).map (zcv ad)) hcat2
  exact W.objInit hx hb hown (hts _ hl) (hts _ zw_obj.1) (hts _ zw_obj.2) (g := F0 m pc ls ((Value.ref o :: rest).map (zcv ad))) (a := ad o) (rest := rest.map (zcv ad)) rfl (h2.1.trans hmlc.symm) rfl hd (by omega) (by omega) hw
end
