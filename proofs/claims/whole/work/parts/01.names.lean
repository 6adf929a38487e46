-- printed texts of the kit: the tables' words, names
-- ===== PART A: goes FIRST, ahead of the names: the tables' words, and 'selects' of the private methods out of them =====
/-- a private method of a class that the tables say can be made, by its rows of tables_1 -/
def lw_okq (q : MethodName × Nat) : Prop := (q.1.cls ≠ "java/lang/invoke/MethodHandle" ∧ q.1.cls ≠ "java/lang/invoke/VarHandle") ∧ Cond.instantiable q.1.cls q.2 ∈ tables_1 ∧ Cond.privateMethod q.1 ∈ tables_1 ∧ Cond.instanceMethod q.1 ∈ tables_1
theorem lw_p0 : lw_okq (⟨"NumberHeaps", "refuse", "(I)I"⟩, 15) := ⟨⟨by decide +kernel, by decide +kernel⟩, List.mem_of_getElem? (i := 25) (by decide +kernel), List.mem_of_getElem? (i := 433) (by decide +kernel), List.mem_of_getElem? (i := 434) (by decide +kernel)⟩
theorem lw_p1 : lw_okq (⟨"NumberHeaps$Reader", "nextToken", "()V"⟩, 10) := ⟨⟨by decide +kernel, by decide +kernel⟩, List.mem_of_getElem? (i := 33) (by decide +kernel), List.mem_of_getElem? (i := 448) (by decide +kernel), List.mem_of_getElem? (i := 449) (by decide +kernel)⟩
theorem lw_p2 : lw_okq (⟨"NumberHeaps$Reader", "takeWord", "()V"⟩, 10) := ⟨⟨by decide +kernel, by decide +kernel⟩, List.mem_of_getElem? (i := 33) (by decide +kernel), List.mem_of_getElem? (i := 455) (by decide +kernel), List.mem_of_getElem? (i := 456) (by decide +kernel)⟩
theorem lw_p3 : lw_okq (⟨"NumberHeaps$Reader", "takeWhole", "()V"⟩, 10) := ⟨⟨by decide +kernel, by decide +kernel⟩, List.mem_of_getElem? (i := 33) (by decide +kernel), List.mem_of_getElem? (i := 462) (by decide +kernel), List.mem_of_getElem? (i := 463) (by decide +kernel)⟩
theorem lw_p4 : lw_okq (⟨"NumberHeaps$Reader", "takeSign", "()V"⟩, 10) := ⟨⟨by decide +kernel, by decide +kernel⟩, List.mem_of_getElem? (i := 33) (by decide +kernel), List.mem_of_getElem? (i := 466) (by decide +kernel), List.mem_of_getElem? (i := 467) (by decide +kernel)⟩
theorem lw_p5 : lw_okq (⟨"NumberHeaps$Reader", "readLines", "()Z"⟩, 10) := ⟨⟨by decide +kernel, by decide +kernel⟩, List.mem_of_getElem? (i := 33) (by decide +kernel), List.mem_of_getElem? (i := 470) (by decide +kernel), List.mem_of_getElem? (i := 471) (by decide +kernel)⟩
theorem lw_p6 : lw_okq (⟨"NumberHeaps$Reader", "readLine", "()Z"⟩, 10) := ⟨⟨by decide +kernel, by decide +kernel⟩, List.mem_of_getElem? (i := 33) (by decide +kernel), List.mem_of_getElem? (i := 474) (by decide +kernel), List.mem_of_getElem? (i := 475) (by decide +kernel)⟩
theorem lw_p7 : lw_okq (⟨"NumberHeaps$Reader", "isWord", "(Ljava/lang/String;)Z"⟩, 10) := ⟨⟨by decide +kernel, by decide +kernel⟩, List.mem_of_getElem? (i := 33) (by decide +kernel), List.mem_of_getElem? (i := 479) (by decide +kernel), List.mem_of_getElem? (i := 480) (by decide +kernel)⟩
theorem lw_p8 : lw_okq (⟨"NumberHeaps$Reader", "readNumbers", "()Z"⟩, 10) := ⟨⟨by decide +kernel, by decide +kernel⟩, List.mem_of_getElem? (i := 33) (by decide +kernel), List.mem_of_getElem? (i := 531) (by decide +kernel), List.mem_of_getElem? (i := 532) (by decide +kernel)⟩
theorem lw_p9 : lw_okq (⟨"NumberHeaps$Reader", "wholeWithin", "(II)Z"⟩, 10) := ⟨⟨by decide +kernel, by decide +kernel⟩, List.mem_of_getElem? (i := 33) (by decide +kernel), List.mem_of_getElem? (i := 535) (by decide +kernel), List.mem_of_getElem? (i := 536) (by decide +kernel)⟩
theorem lw_p10 : lw_okq (⟨"NumberHeaps$Reader", "stop", "(I)Z"⟩, 10) := ⟨⟨by decide +kernel, by decide +kernel⟩, List.mem_of_getElem? (i := 33) (by decide +kernel), List.mem_of_getElem? (i := 539) (by decide +kernel), List.mem_of_getElem? (i := 540) (by decide +kernel)⟩
theorem lw_p11 : lw_okq (⟨"NumberHeaps$Reader", "readHeaps", "()Z"⟩, 10) := ⟨⟨by decide +kernel, by decide +kernel⟩, List.mem_of_getElem? (i := 33) (by decide +kernel), List.mem_of_getElem? (i := 548) (by decide +kernel), List.mem_of_getElem? (i := 549) (by decide +kernel)⟩
theorem lw_p12 : lw_okq (⟨"NumberHeaps$Reader", "readKeep", "()Z"⟩, 10) := ⟨⟨by decide +kernel, by decide +kernel⟩, List.mem_of_getElem? (i := 33) (by decide +kernel), List.mem_of_getElem? (i := 553) (by decide +kernel), List.mem_of_getElem? (i := 554) (by decide +kernel)⟩
theorem lw_p13 : lw_okq (⟨"NumberHeaps$Reader", "readApart", "()Z"⟩, 10) := ⟨⟨by decide +kernel, by decide +kernel⟩, List.mem_of_getElem? (i := 33) (by decide +kernel), List.mem_of_getElem? (i := 559) (by decide +kernel), List.mem_of_getElem? (i := 560) (by decide +kernel)⟩
theorem lw_p14 : lw_okq (⟨"NumberHeaps", "changed", "()V"⟩, 15) := ⟨⟨by decide +kernel, by decide +kernel⟩, List.mem_of_getElem? (i := 25) (by decide +kernel), List.mem_of_getElem? (i := 597) (by decide +kernel), List.mem_of_getElem? (i := 598) (by decide +kernel)⟩
theorem lw_p15 : lw_okq (⟨"NumberHeaps", "answer", "(I)I"⟩, 15) := ⟨⟨by decide +kernel, by decide +kernel⟩, List.mem_of_getElem? (i := 25) (by decide +kernel), List.mem_of_getElem? (i := 605) (by decide +kernel), List.mem_of_getElem? (i := 606) (by decide +kernel)⟩
def lw_privs_1 : List (MethodName × Nat) := [(⟨"NumberHeaps", "refuse", "(I)I"⟩, 15), (⟨"NumberHeaps$Reader", "nextToken", "()V"⟩, 10), (⟨"NumberHeaps$Reader", "takeWord", "()V"⟩, 10), (⟨"NumberHeaps$Reader", "takeWhole", "()V"⟩, 10), (⟨"NumberHeaps$Reader", "takeSign", "()V"⟩, 10), (⟨"NumberHeaps$Reader", "readLines", "()Z"⟩, 10), (⟨"NumberHeaps$Reader", "readLine", "()Z"⟩, 10), (⟨"NumberHeaps$Reader", "isWord", "(Ljava/lang/String;)Z"⟩, 10), (⟨"NumberHeaps$Reader", "readNumbers", "()Z"⟩, 10), (⟨"NumberHeaps$Reader", "wholeWithin", "(II)Z"⟩, 10), (⟨"NumberHeaps$Reader", "stop", "(I)Z"⟩, 10), (⟨"NumberHeaps$Reader", "readHeaps", "()Z"⟩, 10), (⟨"NumberHeaps$Reader", "readKeep", "()Z"⟩, 10), (⟨"NumberHeaps$Reader", "readApart", "()Z"⟩, 10), (⟨"NumberHeaps", "changed", "()V"⟩, 15), (⟨"NumberHeaps", "answer", "(I)I"⟩, 15)]
theorem lw_r1 : ∀ q ∈ lw_privs_1, lw_okq q := List.forall_mem_cons.mpr ⟨lw_p0, List.forall_mem_cons.mpr ⟨lw_p1, List.forall_mem_cons.mpr ⟨lw_p2, List.forall_mem_cons.mpr ⟨lw_p3, List.forall_mem_cons.mpr ⟨lw_p4, List.forall_mem_cons.mpr ⟨lw_p5, List.forall_mem_cons.mpr ⟨lw_p6, List.forall_mem_cons.mpr ⟨lw_p7, List.forall_mem_cons.mpr ⟨lw_p8, List.forall_mem_cons.mpr ⟨lw_p9, List.forall_mem_cons.mpr ⟨lw_p10, List.forall_mem_cons.mpr ⟨lw_p11, List.forall_mem_cons.mpr ⟨lw_p12, List.forall_mem_cons.mpr ⟨lw_p13, List.forall_mem_cons.mpr ⟨lw_p14, List.forall_mem_cons.mpr ⟨lw_p15, fun _ h => absurd h List.not_mem_nil⟩⟩⟩⟩⟩⟩⟩⟩⟩⟩⟩⟩⟩⟩⟩⟩
theorem lw_p16 : lw_okq (⟨"NumberHeaps", "noText", "()Z"⟩, 15) := ⟨⟨by decide +kernel, by decide +kernel⟩, List.mem_of_getElem? (i := 25) (by decide +kernel), List.mem_of_getElem? (i := 621) (by decide +kernel), List.mem_of_getElem? (i := 622) (by decide +kernel)⟩
theorem lw_p17 : lw_okq (⟨"NumberHeaps", "noNumber", "(I)Z"⟩, 15) := ⟨⟨by decide +kernel, by decide +kernel⟩, List.mem_of_getElem? (i := 25) (by decide +kernel), List.mem_of_getElem? (i := 638) (by decide +kernel), List.mem_of_getElem? (i := 639) (by decide +kernel)⟩
theorem lw_p18 : lw_okq (⟨"NumberHeaps", "refused", "(ZZ)Z"⟩, 15) := ⟨⟨by decide +kernel, by decide +kernel⟩, List.mem_of_getElem? (i := 25) (by decide +kernel), List.mem_of_getElem? (i := 660) (by decide +kernel), List.mem_of_getElem? (i := 661) (by decide +kernel)⟩
theorem lw_p19 : lw_okq (⟨"NumberHeaps$Filling", "leastHeap", "()I"⟩, 8) := ⟨⟨by decide +kernel, by decide +kernel⟩, List.mem_of_getElem? (i := 150) (by decide +kernel), List.mem_of_getElem? (i := 668) (by decide +kernel), List.mem_of_getElem? (i := 669) (by decide +kernel)⟩
theorem lw_p20 : lw_okq (⟨"NumberHeaps$ItemRow", "insert", "(III)V"⟩, 4) := ⟨⟨by decide +kernel, by decide +kernel⟩, List.mem_of_getElem? (i := 189) (by decide +kernel), List.mem_of_getElem? (i := 706) (by decide +kernel), List.mem_of_getElem? (i := 707) (by decide +kernel)⟩
theorem lw_p21 : lw_okq (⟨"NumberHeaps$ItemRow", "goesAhead", "(III)Z"⟩, 4) := ⟨⟨by decide +kernel, by decide +kernel⟩, List.mem_of_getElem? (i := 189) (by decide +kernel), List.mem_of_getElem? (i := 713) (by decide +kernel), List.mem_of_getElem? (i := 714) (by decide +kernel)⟩
theorem lw_p22 : lw_okq (⟨"NumberHeaps$Multi", "firstItemBut", "(I)I"⟩, 6) := ⟨⟨by decide +kernel, by decide +kernel⟩, List.mem_of_getElem? (i := 276) (by decide +kernel), List.mem_of_getElem? (i := 741) (by decide +kernel), List.mem_of_getElem? (i := 742) (by decide +kernel)⟩
theorem lw_p23 : lw_okq (⟨"NumberHeaps$Multi", "itemGoesAhead", "(II)Z"⟩, 6) := ⟨⟨by decide +kernel, by decide +kernel⟩, List.mem_of_getElem? (i := 276) (by decide +kernel), List.mem_of_getElem? (i := 745) (by decide +kernel), List.mem_of_getElem? (i := 746) (by decide +kernel)⟩
theorem lw_p24 : lw_okq (⟨"NumberHeaps$Multi", "width", "(I)I"⟩, 6) := ⟨⟨by decide +kernel, by decide +kernel⟩, List.mem_of_getElem? (i := 276) (by decide +kernel), List.mem_of_getElem? (i := 749) (by decide +kernel), List.mem_of_getElem? (i := 750) (by decide +kernel)⟩
theorem lw_p25 : lw_okq (⟨"NumberHeaps$Multi", "allMembers", "(I)I"⟩, 6) := ⟨⟨by decide +kernel, by decide +kernel⟩, List.mem_of_getElem? (i := 276) (by decide +kernel), List.mem_of_getElem? (i := 753) (by decide +kernel), List.mem_of_getElem? (i := 754) (by decide +kernel)⟩
theorem lw_p26 : lw_okq (⟨"NumberHeaps$Multi", "join", "(II)V"⟩, 6) := ⟨⟨by decide +kernel, by decide +kernel⟩, List.mem_of_getElem? (i := 276) (by decide +kernel), List.mem_of_getElem? (i := 758) (by decide +kernel), List.mem_of_getElem? (i := 759) (by decide +kernel)⟩
theorem lw_p27 : lw_okq (⟨"NumberHeaps$Multi", "orderParts", "([I[I)V"⟩, 6) := ⟨⟨by decide +kernel, by decide +kernel⟩, List.mem_of_getElem? (i := 276) (by decide +kernel), List.mem_of_getElem? (i := 762) (by decide +kernel), List.mem_of_getElem? (i := 763) (by decide +kernel)⟩
theorem lw_p28 : lw_okq (⟨"NumberHeaps$Search", "visit", "(I)V"⟩, 11) := ⟨⟨by decide +kernel, by decide +kernel⟩, List.mem_of_getElem? (i := 225) (by decide +kernel), List.mem_of_getElem? (i := 788) (by decide +kernel), List.mem_of_getElem? (i := 789) (by decide +kernel)⟩
theorem lw_p29 : lw_okq (⟨"NumberHeaps$Search", "takeLeaf", "(LNumberHeaps$ItemRow;I)V"⟩, 11) := ⟨⟨by decide +kernel, by decide +kernel⟩, List.mem_of_getElem? (i := 225) (by decide +kernel), List.mem_of_getElem? (i := 796) (by decide +kernel), List.mem_of_getElem? (i := 797) (by decide +kernel)⟩
theorem lw_p30 : lw_okq (⟨"NumberHeaps$Search", "visitBelow", "(IZ)V"⟩, 11) := ⟨⟨by decide +kernel, by decide +kernel⟩, List.mem_of_getElem? (i := 225) (by decide +kernel), List.mem_of_getElem? (i := 804) (by decide +kernel), List.mem_of_getElem? (i := 805) (by decide +kernel)⟩
theorem lw_p31 : lw_okq (⟨"NumberHeaps", "allRows", "(I)LNumberHeaps$Partings;"⟩, 15) := ⟨⟨by decide +kernel, by decide +kernel⟩, List.mem_of_getElem? (i := 25) (by decide +kernel), List.mem_of_getElem? (i := 829) (by decide +kernel), List.mem_of_getElem? (i := 830) (by decide +kernel)⟩
def lw_privs_2 : List (MethodName × Nat) := [(⟨"NumberHeaps", "noText", "()Z"⟩, 15), (⟨"NumberHeaps", "noNumber", "(I)Z"⟩, 15), (⟨"NumberHeaps", "refused", "(ZZ)Z"⟩, 15), (⟨"NumberHeaps$Filling", "leastHeap", "()I"⟩, 8), (⟨"NumberHeaps$ItemRow", "insert", "(III)V"⟩, 4), (⟨"NumberHeaps$ItemRow", "goesAhead", "(III)Z"⟩, 4), (⟨"NumberHeaps$Multi", "firstItemBut", "(I)I"⟩, 6), (⟨"NumberHeaps$Multi", "itemGoesAhead", "(II)Z"⟩, 6), (⟨"NumberHeaps$Multi", "width", "(I)I"⟩, 6), (⟨"NumberHeaps$Multi", "allMembers", "(I)I"⟩, 6), (⟨"NumberHeaps$Multi", "join", "(II)V"⟩, 6), (⟨"NumberHeaps$Multi", "orderParts", "([I[I)V"⟩, 6), (⟨"NumberHeaps$Search", "visit", "(I)V"⟩, 11), (⟨"NumberHeaps$Search", "takeLeaf", "(LNumberHeaps$ItemRow;I)V"⟩, 11), (⟨"NumberHeaps$Search", "visitBelow", "(IZ)V"⟩, 11), (⟨"NumberHeaps", "allRows", "(I)LNumberHeaps$Partings;"⟩, 15)]
theorem lw_r2 : ∀ q ∈ lw_privs_2, lw_okq q := List.forall_mem_cons.mpr ⟨lw_p16, List.forall_mem_cons.mpr ⟨lw_p17, List.forall_mem_cons.mpr ⟨lw_p18, List.forall_mem_cons.mpr ⟨lw_p19, List.forall_mem_cons.mpr ⟨lw_p20, List.forall_mem_cons.mpr ⟨lw_p21, List.forall_mem_cons.mpr ⟨lw_p22, List.forall_mem_cons.mpr ⟨lw_p23, List.forall_mem_cons.mpr ⟨lw_p24, List.forall_mem_cons.mpr ⟨lw_p25, List.forall_mem_cons.mpr ⟨lw_p26, List.forall_mem_cons.mpr ⟨lw_p27, List.forall_mem_cons.mpr ⟨lw_p28, List.forall_mem_cons.mpr ⟨lw_p29, List.forall_mem_cons.mpr ⟨lw_p30, List.forall_mem_cons.mpr ⟨lw_p31, fun _ h => absurd h List.not_mem_nil⟩⟩⟩⟩⟩⟩⟩⟩⟩⟩⟩⟩⟩⟩⟩⟩
theorem lw_p32 : lw_okq (⟨"NumberHeaps$Partings", "begin", "(LNumberHeaps$State;Z)V"⟩, 13) := ⟨⟨by decide +kernel, by decide +kernel⟩, List.mem_of_getElem? (i := 324) (by decide +kernel), List.mem_of_getElem? (i := 837) (by decide +kernel), List.mem_of_getElem? (i := 838) (by decide +kernel)⟩
theorem lw_p33 : lw_okq (⟨"NumberHeaps$Partings", "place", "(LNumberHeaps$State;III)V"⟩, 13) := ⟨⟨by decide +kernel, by decide +kernel⟩, List.mem_of_getElem? (i := 324) (by decide +kernel), List.mem_of_getElem? (i := 842) (by decide +kernel), List.mem_of_getElem? (i := 843) (by decide +kernel)⟩
theorem lw_p34 : lw_okq (⟨"NumberHeaps$Partings", "takeRow", "(I)V"⟩, 13) := ⟨⟨by decide +kernel, by decide +kernel⟩, List.mem_of_getElem? (i := 324) (by decide +kernel), List.mem_of_getElem? (i := 846) (by decide +kernel), List.mem_of_getElem? (i := 847) (by decide +kernel)⟩
theorem lw_p35 : lw_okq (⟨"NumberHeaps$Partings", "placeAnywhere", "(LNumberHeaps$State;III)V"⟩, 13) := ⟨⟨by decide +kernel, by decide +kernel⟩, List.mem_of_getElem? (i := 324) (by decide +kernel), List.mem_of_getElem? (i := 854) (by decide +kernel), List.mem_of_getElem? (i := 855) (by decide +kernel)⟩
theorem lw_p36 : lw_okq (⟨"NumberHeaps$Partings", "hopeful", "(I)Z"⟩, 13) := ⟨⟨by decide +kernel, by decide +kernel⟩, List.mem_of_getElem? (i := 324) (by decide +kernel), List.mem_of_getElem? (i := 858) (by decide +kernel), List.mem_of_getElem? (i := 859) (by decide +kernel)⟩
theorem lw_p37 : lw_okq (⟨"NumberHeaps$Partings", "placeInEach", "(LNumberHeaps$State;III)V"⟩, 13) := ⟨⟨by decide +kernel, by decide +kernel⟩, List.mem_of_getElem? (i := 324) (by decide +kernel), List.mem_of_getElem? (i := 863) (by decide +kernel), List.mem_of_getElem? (i := 864) (by decide +kernel)⟩
theorem lw_p38 : lw_okq (⟨"NumberHeaps$Partings", "isNameless", "(I)Z"⟩, 13) := ⟨⟨by decide +kernel, by decide +kernel⟩, List.mem_of_getElem? (i := 324) (by decide +kernel), List.mem_of_getElem? (i := 867) (by decide +kernel), List.mem_of_getElem? (i := 868) (by decide +kernel)⟩
theorem lw_p39 : lw_okq (⟨"NumberHeaps$Partings", "mayLie", "(LNumberHeaps$State;II)Z"⟩, 13) := ⟨⟨by decide +kernel, by decide +kernel⟩, List.mem_of_getElem? (i := 324) (by decide +kernel), List.mem_of_getElem? (i := 871) (by decide +kernel), List.mem_of_getElem? (i := 872) (by decide +kernel)⟩
theorem lw_p40 : lw_okq (⟨"NumberHeaps$Partings", "namelessHeaps", "()I"⟩, 13) := ⟨⟨by decide +kernel, by decide +kernel⟩, List.mem_of_getElem? (i := 324) (by decide +kernel), List.mem_of_getElem? (i := 875) (by decide +kernel), List.mem_of_getElem? (i := 876) (by decide +kernel)⟩
theorem lw_p41 : lw_okq (⟨"NumberHeaps$Filling", "tryMoves", "(LNumberHeaps$State;)V"⟩, 8) := ⟨⟨by decide +kernel, by decide +kernel⟩, List.mem_of_getElem? (i := 150) (by decide +kernel), List.mem_of_getElem? (i := 906) (by decide +kernel), List.mem_of_getElem? (i := 907) (by decide +kernel)⟩
theorem lw_p42 : lw_okq (⟨"NumberHeaps$Filling", "consider", "(IIII)V"⟩, 8) := ⟨⟨by decide +kernel, by decide +kernel⟩, List.mem_of_getElem? (i := 150) (by decide +kernel), List.mem_of_getElem? (i := 910) (by decide +kernel), List.mem_of_getElem? (i := 911) (by decide +kernel)⟩
theorem lw_p43 : lw_okq (⟨"NumberHeaps$Filling", "shift", "(III)V"⟩, 8) := ⟨⟨by decide +kernel, by decide +kernel⟩, List.mem_of_getElem? (i := 150) (by decide +kernel), List.mem_of_getElem? (i := 914) (by decide +kernel), List.mem_of_getElem? (i := 915) (by decide +kernel)⟩
theorem lw_p44 : lw_okq (⟨"NumberHeaps$Filling", "tryExchanges", "(LNumberHeaps$State;)V"⟩, 8) := ⟨⟨by decide +kernel, by decide +kernel⟩, List.mem_of_getElem? (i := 150) (by decide +kernel), List.mem_of_getElem? (i := 918) (by decide +kernel), List.mem_of_getElem? (i := 919) (by decide +kernel)⟩
theorem lw_p45 : lw_okq (⟨"NumberHeaps$Filling", "makeBest", "(LNumberHeaps$State;)V"⟩, 8) := ⟨⟨by decide +kernel, by decide +kernel⟩, List.mem_of_getElem? (i := 150) (by decide +kernel), List.mem_of_getElem? (i := 922) (by decide +kernel), List.mem_of_getElem? (i := 923) (by decide +kernel)⟩
theorem lw_p46 : lw_okq (⟨"NumberHeaps$SetSums", "mergeWith", "(I)V"⟩, 4) := ⟨⟨by decide +kernel, by decide +kernel⟩, List.mem_of_getElem? (i := 306) (by decide +kernel), List.mem_of_getElem? (i := 942) (by decide +kernel), List.mem_of_getElem? (i := 943) (by decide +kernel)⟩
theorem lw_p47 : lw_okq (⟨"NumberHeaps$SetSums", "firstFrom", "(I)I"⟩, 4) := ⟨⟨by decide +kernel, by decide +kernel⟩, List.mem_of_getElem? (i := 306) (by decide +kernel), List.mem_of_getElem? (i := 950) (by decide +kernel), List.mem_of_getElem? (i := 951) (by decide +kernel)⟩
def lw_privs_3 : List (MethodName × Nat) := [(⟨"NumberHeaps$Partings", "begin", "(LNumberHeaps$State;Z)V"⟩, 13), (⟨"NumberHeaps$Partings", "place", "(LNumberHeaps$State;III)V"⟩, 13), (⟨"NumberHeaps$Partings", "takeRow", "(I)V"⟩, 13), (⟨"NumberHeaps$Partings", "placeAnywhere", "(LNumberHeaps$State;III)V"⟩, 13), (⟨"NumberHeaps$Partings", "hopeful", "(I)Z"⟩, 13), (⟨"NumberHeaps$Partings", "placeInEach", "(LNumberHeaps$State;III)V"⟩, 13), (⟨"NumberHeaps$Partings", "isNameless", "(I)Z"⟩, 13), (⟨"NumberHeaps$Partings", "mayLie", "(LNumberHeaps$State;II)Z"⟩, 13), (⟨"NumberHeaps$Partings", "namelessHeaps", "()I"⟩, 13), (⟨"NumberHeaps$Filling", "tryMoves", "(LNumberHeaps$State;)V"⟩, 8), (⟨"NumberHeaps$Filling", "consider", "(IIII)V"⟩, 8), (⟨"NumberHeaps$Filling", "shift", "(III)V"⟩, 8), (⟨"NumberHeaps$Filling", "tryExchanges", "(LNumberHeaps$State;)V"⟩, 8), (⟨"NumberHeaps$Filling", "makeBest", "(LNumberHeaps$State;)V"⟩, 8), (⟨"NumberHeaps$SetSums", "mergeWith", "(I)V"⟩, 4), (⟨"NumberHeaps$SetSums", "firstFrom", "(I)I"⟩, 4)]
theorem lw_r3 : ∀ q ∈ lw_privs_3, lw_okq q := List.forall_mem_cons.mpr ⟨lw_p32, List.forall_mem_cons.mpr ⟨lw_p33, List.forall_mem_cons.mpr ⟨lw_p34, List.forall_mem_cons.mpr ⟨lw_p35, List.forall_mem_cons.mpr ⟨lw_p36, List.forall_mem_cons.mpr ⟨lw_p37, List.forall_mem_cons.mpr ⟨lw_p38, List.forall_mem_cons.mpr ⟨lw_p39, List.forall_mem_cons.mpr ⟨lw_p40, List.forall_mem_cons.mpr ⟨lw_p41, List.forall_mem_cons.mpr ⟨lw_p42, List.forall_mem_cons.mpr ⟨lw_p43, List.forall_mem_cons.mpr ⟨lw_p44, List.forall_mem_cons.mpr ⟨lw_p45, List.forall_mem_cons.mpr ⟨lw_p46, List.forall_mem_cons.mpr ⟨lw_p47, fun _ h => absurd h List.not_mem_nil⟩⟩⟩⟩⟩⟩⟩⟩⟩⟩⟩⟩⟩⟩⟩⟩
theorem lw_p48 : lw_okq (⟨"NumberHeaps$SetSums", "sumAt", "(I)I"⟩, 4) := ⟨⟨by decide +kernel, by decide +kernel⟩, List.mem_of_getElem? (i := 306) (by decide +kernel), List.mem_of_getElem? (i := 954) (by decide +kernel), List.mem_of_getElem? (i := 955) (by decide +kernel)⟩
theorem lw_p49 : lw_okq (⟨"NumberHeaps", "putByte", "(I)V"⟩, 15) := ⟨⟨by decide +kernel, by decide +kernel⟩, List.mem_of_getElem? (i := 25) (by decide +kernel), List.mem_of_getElem? (i := 1054) (by decide +kernel), List.mem_of_getElem? (i := 1055) (by decide +kernel)⟩
theorem lw_p50 : lw_okq (⟨"NumberHeaps", "putHeap", "(I[I)V"⟩, 15) := ⟨⟨by decide +kernel, by decide +kernel⟩, List.mem_of_getElem? (i := 25) (by decide +kernel), List.mem_of_getElem? (i := 1058) (by decide +kernel), List.mem_of_getElem? (i := 1059) (by decide +kernel)⟩
theorem lw_p51 : lw_okq (⟨"NumberHeaps", "putNumber", "(I)V"⟩, 15) := ⟨⟨by decide +kernel, by decide +kernel⟩, List.mem_of_getElem? (i := 25) (by decide +kernel), List.mem_of_getElem? (i := 1062) (by decide +kernel), List.mem_of_getElem? (i := 1063) (by decide +kernel)⟩
theorem lw_p52 : lw_okq (⟨"java/lang/Throwable", "fillInStackTrace", "(I)Ljava/lang/Throwable;"⟩, 6) := ⟨⟨by decide +kernel, by decide +kernel⟩, List.mem_of_getElem? (i := 1118) (by decide +kernel), List.mem_of_getElem? (i := 1116) (by decide +kernel), List.mem_of_getElem? (i := 1117) (by decide +kernel)⟩
theorem lw_p53 : lw_okq (⟨"NumberHeapsModel", "refused", "(I)I"⟩, 52) := ⟨⟨by decide +kernel, by decide +kernel⟩, List.mem_of_getElem? (i := 1143) (by decide +kernel), List.mem_of_getElem? (i := 1329) (by decide +kernel), List.mem_of_getElem? (i := 1330) (by decide +kernel)⟩
theorem lw_p54 : lw_okq (⟨"NumberHeapsModel", "goOn", "()V"⟩, 52) := ⟨⟨by decide +kernel, by decide +kernel⟩, List.mem_of_getElem? (i := 1143) (by decide +kernel), List.mem_of_getElem? (i := 1333) (by decide +kernel), List.mem_of_getElem? (i := 1334) (by decide +kernel)⟩
theorem lw_p55 : lw_okq (⟨"NumberHeapsModel", "isLetterAt", "(I)Z"⟩, 52) := ⟨⟨by decide +kernel, by decide +kernel⟩, List.mem_of_getElem? (i := 1143) (by decide +kernel), List.mem_of_getElem? (i := 1337) (by decide +kernel), List.mem_of_getElem? (i := 1338) (by decide +kernel)⟩
theorem lw_p56 : lw_okq (⟨"NumberHeapsModel", "isDigitAt", "(I)Z"⟩, 52) := ⟨⟨by decide +kernel, by decide +kernel⟩, List.mem_of_getElem? (i := 1143) (by decide +kernel), List.mem_of_getElem? (i := 1343) (by decide +kernel), List.mem_of_getElem? (i := 1344) (by decide +kernel)⟩
theorem lw_p57 : lw_okq (⟨"NumberHeapsModel", "readLine", "()V"⟩, 52) := ⟨⟨by decide +kernel, by decide +kernel⟩, List.mem_of_getElem? (i := 1143) (by decide +kernel), List.mem_of_getElem? (i := 1347) (by decide +kernel), List.mem_of_getElem? (i := 1348) (by decide +kernel)⟩
theorem lw_p58 : lw_okq (⟨"NumberHeapsModel", "isWord", "(Ljava/lang/String;)Z"⟩, 52) := ⟨⟨by decide +kernel, by decide +kernel⟩, List.mem_of_getElem? (i := 1143) (by decide +kernel), List.mem_of_getElem? (i := 1352) (by decide +kernel), List.mem_of_getElem? (i := 1353) (by decide +kernel)⟩
theorem lw_p59 : lw_okq (⟨"NumberHeapsModel", "readNumbers", "()V"⟩, 52) := ⟨⟨by decide +kernel, by decide +kernel⟩, List.mem_of_getElem? (i := 1143) (by decide +kernel), List.mem_of_getElem? (i := 1361) (by decide +kernel), List.mem_of_getElem? (i := 1362) (by decide +kernel)⟩
theorem lw_p60 : lw_okq (⟨"NumberHeapsModel", "flaw", "(I)V"⟩, 52) := ⟨⟨by decide +kernel, by decide +kernel⟩, List.mem_of_getElem? (i := 1143) (by decide +kernel), List.mem_of_getElem? (i := 1365) (by decide +kernel), List.mem_of_getElem? (i := 1366) (by decide +kernel)⟩
theorem lw_p61 : lw_okq (⟨"NumberHeapsModel", "whole", "(II)I"⟩, 52) := ⟨⟨by decide +kernel, by decide +kernel⟩, List.mem_of_getElem? (i := 1143) (by decide +kernel), List.mem_of_getElem? (i := 1369) (by decide +kernel), List.mem_of_getElem? (i := 1370) (by decide +kernel)⟩
theorem lw_p62 : lw_okq (⟨"NumberHeapsModel", "isSign", "(I)Z"⟩, 52) := ⟨⟨by decide +kernel, by decide +kernel⟩, List.mem_of_getElem? (i := 1143) (by decide +kernel), List.mem_of_getElem? (i := 1373) (by decide +kernel), List.mem_of_getElem? (i := 1374) (by decide +kernel)⟩
theorem lw_p63 : lw_okq (⟨"NumberHeapsModel", "readKeep", "()V"⟩, 52) := ⟨⟨by decide +kernel, by decide +kernel⟩, List.mem_of_getElem? (i := 1143) (by decide +kernel), List.mem_of_getElem? (i := 1379) (by decide +kernel), List.mem_of_getElem? (i := 1380) (by decide +kernel)⟩
def lw_privs_4 : List (MethodName × Nat) := [(⟨"NumberHeaps$SetSums", "sumAt", "(I)I"⟩, 4), (⟨"NumberHeaps", "putByte", "(I)V"⟩, 15), (⟨"NumberHeaps", "putHeap", "(I[I)V"⟩, 15), (⟨"NumberHeaps", "putNumber", "(I)V"⟩, 15), (⟨"java/lang/Throwable", "fillInStackTrace", "(I)Ljava/lang/Throwable;"⟩, 6), (⟨"NumberHeapsModel", "refused", "(I)I"⟩, 52), (⟨"NumberHeapsModel", "goOn", "()V"⟩, 52), (⟨"NumberHeapsModel", "isLetterAt", "(I)Z"⟩, 52), (⟨"NumberHeapsModel", "isDigitAt", "(I)Z"⟩, 52), (⟨"NumberHeapsModel", "readLine", "()V"⟩, 52), (⟨"NumberHeapsModel", "isWord", "(Ljava/lang/String;)Z"⟩, 52), (⟨"NumberHeapsModel", "readNumbers", "()V"⟩, 52), (⟨"NumberHeapsModel", "flaw", "(I)V"⟩, 52), (⟨"NumberHeapsModel", "whole", "(II)I"⟩, 52), (⟨"NumberHeapsModel", "isSign", "(I)Z"⟩, 52), (⟨"NumberHeapsModel", "readKeep", "()V"⟩, 52)]
theorem lw_r4 : ∀ q ∈ lw_privs_4, lw_okq q := List.forall_mem_cons.mpr ⟨lw_p48, List.forall_mem_cons.mpr ⟨lw_p49, List.forall_mem_cons.mpr ⟨lw_p50, List.forall_mem_cons.mpr ⟨lw_p51, List.forall_mem_cons.mpr ⟨lw_p52, List.forall_mem_cons.mpr ⟨lw_p53, List.forall_mem_cons.mpr ⟨lw_p54, List.forall_mem_cons.mpr ⟨lw_p55, List.forall_mem_cons.mpr ⟨lw_p56, List.forall_mem_cons.mpr ⟨lw_p57, List.forall_mem_cons.mpr ⟨lw_p58, List.forall_mem_cons.mpr ⟨lw_p59, List.forall_mem_cons.mpr ⟨lw_p60, List.forall_mem_cons.mpr ⟨lw_p61, List.forall_mem_cons.mpr ⟨lw_p62, List.forall_mem_cons.mpr ⟨lw_p63, fun _ h => absurd h List.not_mem_nil⟩⟩⟩⟩⟩⟩⟩⟩⟩⟩⟩⟩⟩⟩⟩⟩
theorem lw_p64 : lw_okq (⟨"NumberHeapsModel", "readApart", "()V"⟩, 52) := ⟨⟨by decide +kernel, by decide +kernel⟩, List.mem_of_getElem? (i := 1143) (by decide +kernel), List.mem_of_getElem? (i := 1385) (by decide +kernel), List.mem_of_getElem? (i := 1386) (by decide +kernel)⟩
theorem lw_p65 : lw_okq (⟨"NumberHeapsModel", "good", "(I)I"⟩, 52) := ⟨⟨by decide +kernel, by decide +kernel⟩, List.mem_of_getElem? (i := 1143) (by decide +kernel), List.mem_of_getElem? (i := 1392) (by decide +kernel), List.mem_of_getElem? (i := 1393) (by decide +kernel)⟩
theorem lw_p66 : lw_okq (⟨"NumberHeapsModel", "total", "()I"⟩, 52) := ⟨⟨by decide +kernel, by decide +kernel⟩, List.mem_of_getElem? (i := 1143) (by decide +kernel), List.mem_of_getElem? (i := 1400) (by decide +kernel), List.mem_of_getElem? (i := 1401) (by decide +kernel)⟩
theorem lw_p67 : lw_okq (⟨"NumberHeapsModel", "value", "(I)I"⟩, 52) := ⟨⟨by decide +kernel, by decide +kernel⟩, List.mem_of_getElem? (i := 1143) (by decide +kernel), List.mem_of_getElem? (i := 1404) (by decide +kernel), List.mem_of_getElem? (i := 1405) (by decide +kernel)⟩
theorem lw_p68 : lw_okq (⟨"NumberHeapsModel", "ranked", "(I)I"⟩, 52) := ⟨⟨by decide +kernel, by decide +kernel⟩, List.mem_of_getElem? (i := 1143) (by decide +kernel), List.mem_of_getElem? (i := 1408) (by decide +kernel), List.mem_of_getElem? (i := 1409) (by decide +kernel)⟩
theorem lw_p69 : lw_okq (⟨"NumberHeapsModel", "rank", "(I)I"⟩, 52) := ⟨⟨by decide +kernel, by decide +kernel⟩, List.mem_of_getElem? (i := 1143) (by decide +kernel), List.mem_of_getElem? (i := 1412) (by decide +kernel), List.mem_of_getElem? (i := 1413) (by decide +kernel)⟩
theorem lw_p70 : lw_okq (⟨"NumberHeapsModel", "isNumber", "(I)Z"⟩, 52) := ⟨⟨by decide +kernel, by decide +kernel⟩, List.mem_of_getElem? (i := 1143) (by decide +kernel), List.mem_of_getElem? (i := 1420) (by decide +kernel), List.mem_of_getElem? (i := 1421) (by decide +kernel)⟩
theorem lw_p71 : lw_okq (⟨"NumberHeapsModel", "apartFrom", "(I)I"⟩, 52) := ⟨⟨by decide +kernel, by decide +kernel⟩, List.mem_of_getElem? (i := 1143) (by decide +kernel), List.mem_of_getElem? (i := 1424) (by decide +kernel), List.mem_of_getElem? (i := 1425) (by decide +kernel)⟩
theorem lw_p72 : lw_okq (⟨"NumberHeapsModel", "fills", "(I)V"⟩, 52) := ⟨⟨by decide +kernel, by decide +kernel⟩, List.mem_of_getElem? (i := 1143) (by decide +kernel), List.mem_of_getElem? (i := 1439) (by decide +kernel), List.mem_of_getElem? (i := 1440) (by decide +kernel)⟩
theorem lw_p73 : lw_okq (⟨"NumberHeapsModel", "spread", "(I)I"⟩, 52) := ⟨⟨by decide +kernel, by decide +kernel⟩, List.mem_of_getElem? (i := 1143) (by decide +kernel), List.mem_of_getElem? (i := 1443) (by decide +kernel), List.mem_of_getElem? (i := 1444) (by decide +kernel)⟩
theorem lw_p74 : lw_okq (⟨"NumberHeapsModel", "top", "(I)I"⟩, 52) := ⟨⟨by decide +kernel, by decide +kernel⟩, List.mem_of_getElem? (i := 1143) (by decide +kernel), List.mem_of_getElem? (i := 1447) (by decide +kernel), List.mem_of_getElem? (i := 1448) (by decide +kernel)⟩
theorem lw_p75 : lw_okq (⟨"NumberHeapsModel", "differs", "()I"⟩, 52) := ⟨⟨by decide +kernel, by decide +kernel⟩, List.mem_of_getElem? (i := 1143) (by decide +kernel), List.mem_of_getElem? (i := 1459) (by decide +kernel), List.mem_of_getElem? (i := 1460) (by decide +kernel)⟩
theorem lw_p76 : lw_okq (⟨"NumberHeapsModel", "begins", "()V"⟩, 52) := ⟨⟨by decide +kernel, by decide +kernel⟩, List.mem_of_getElem? (i := 1143) (by decide +kernel), List.mem_of_getElem? (i := 1463) (by decide +kernel), List.mem_of_getElem? (i := 1464) (by decide +kernel)⟩
theorem lw_p77 : lw_okq (⟨"NumberHeapsModel", "comes", "(IIII)V"⟩, 52) := ⟨⟨by decide +kernel, by decide +kernel⟩, List.mem_of_getElem? (i := 1143) (by decide +kernel), List.mem_of_getElem? (i := 1467) (by decide +kernel), List.mem_of_getElem? (i := 1468) (by decide +kernel)⟩
theorem lw_p78 : lw_okq (⟨"NumberHeapsModel", "isAhead", "(III)Z"⟩, 52) := ⟨⟨by decide +kernel, by decide +kernel⟩, List.mem_of_getElem? (i := 1143) (by decide +kernel), List.mem_of_getElem? (i := 1471) (by decide +kernel), List.mem_of_getElem? (i := 1472) (by decide +kernel)⟩
theorem lw_p79 : lw_okq (⟨"NumberHeapsModel", "joins", "(IZ)V"⟩, 52) := ⟨⟨by decide +kernel, by decide +kernel⟩, List.mem_of_getElem? (i := 1143) (by decide +kernel), List.mem_of_getElem? (i := 1481) (by decide +kernel), List.mem_of_getElem? (i := 1482) (by decide +kernel)⟩
def lw_privs_5 : List (MethodName × Nat) := [(⟨"NumberHeapsModel", "readApart", "()V"⟩, 52), (⟨"NumberHeapsModel", "good", "(I)I"⟩, 52), (⟨"NumberHeapsModel", "total", "()I"⟩, 52), (⟨"NumberHeapsModel", "value", "(I)I"⟩, 52), (⟨"NumberHeapsModel", "ranked", "(I)I"⟩, 52), (⟨"NumberHeapsModel", "rank", "(I)I"⟩, 52), (⟨"NumberHeapsModel", "isNumber", "(I)Z"⟩, 52), (⟨"NumberHeapsModel", "apartFrom", "(I)I"⟩, 52), (⟨"NumberHeapsModel", "fills", "(I)V"⟩, 52), (⟨"NumberHeapsModel", "spread", "(I)I"⟩, 52), (⟨"NumberHeapsModel", "top", "(I)I"⟩, 52), (⟨"NumberHeapsModel", "differs", "()I"⟩, 52), (⟨"NumberHeapsModel", "begins", "()V"⟩, 52), (⟨"NumberHeapsModel", "comes", "(IIII)V"⟩, 52), (⟨"NumberHeapsModel", "isAhead", "(III)Z"⟩, 52), (⟨"NumberHeapsModel", "joins", "(IZ)V"⟩, 52)]
theorem lw_r5 : ∀ q ∈ lw_privs_5, lw_okq q := List.forall_mem_cons.mpr ⟨lw_p64, List.forall_mem_cons.mpr ⟨lw_p65, List.forall_mem_cons.mpr ⟨lw_p66, List.forall_mem_cons.mpr ⟨lw_p67, List.forall_mem_cons.mpr ⟨lw_p68, List.forall_mem_cons.mpr ⟨lw_p69, List.forall_mem_cons.mpr ⟨lw_p70, List.forall_mem_cons.mpr ⟨lw_p71, List.forall_mem_cons.mpr ⟨lw_p72, List.forall_mem_cons.mpr ⟨lw_p73, List.forall_mem_cons.mpr ⟨lw_p74, List.forall_mem_cons.mpr ⟨lw_p75, List.forall_mem_cons.mpr ⟨lw_p76, List.forall_mem_cons.mpr ⟨lw_p77, List.forall_mem_cons.mpr ⟨lw_p78, List.forall_mem_cons.mpr ⟨lw_p79, fun _ h => absurd h List.not_mem_nil⟩⟩⟩⟩⟩⟩⟩⟩⟩⟩⟩⟩⟩⟩⟩⟩
theorem lw_p80 : lw_okq (⟨"NumberHeapsModel", "searches", "()V"⟩, 52) := ⟨⟨by decide +kernel, by decide +kernel⟩, List.mem_of_getElem? (i := 1143) (by decide +kernel), List.mem_of_getElem? (i := 1500) (by decide +kernel), List.mem_of_getElem? (i := 1501) (by decide +kernel)⟩
theorem lw_p81 : lw_okq (⟨"NumberHeapsModel", "visits", "(I)V"⟩, 52) := ⟨⟨by decide +kernel, by decide +kernel⟩, List.mem_of_getElem? (i := 1143) (by decide +kernel), List.mem_of_getElem? (i := 1504) (by decide +kernel), List.mem_of_getElem? (i := 1505) (by decide +kernel)⟩
theorem lw_p82 : lw_okq (⟨"NumberHeapsModel", "leaf", "(II)V"⟩, 52) := ⟨⟨by decide +kernel, by decide +kernel⟩, List.mem_of_getElem? (i := 1143) (by decide +kernel), List.mem_of_getElem? (i := 1508) (by decide +kernel), List.mem_of_getElem? (i := 1509) (by decide +kernel)⟩
theorem lw_p83 : lw_okq (⟨"NumberHeapsModel", "multiplies", "(I)V"⟩, 52) := ⟨⟨by decide +kernel, by decide +kernel⟩, List.mem_of_getElem? (i := 1143) (by decide +kernel), List.mem_of_getElem? (i := 1524) (by decide +kernel), List.mem_of_getElem? (i := 1525) (by decide +kernel)⟩
theorem lw_p84 : lw_okq (⟨"NumberHeapsModel", "places", "(I)V"⟩, 52) := ⟨⟨by decide +kernel, by decide +kernel⟩, List.mem_of_getElem? (i := 1143) (by decide +kernel), List.mem_of_getElem? (i := 1528) (by decide +kernel), List.mem_of_getElem? (i := 1529) (by decide +kernel)⟩
theorem lw_p85 : lw_okq (⟨"NumberHeapsModel", "isBefore", "(II)Z"⟩, 52) := ⟨⟨by decide +kernel, by decide +kernel⟩, List.mem_of_getElem? (i := 1143) (by decide +kernel), List.mem_of_getElem? (i := 1532) (by decide +kernel), List.mem_of_getElem? (i := 1533) (by decide +kernel)⟩
theorem lw_p86 : lw_okq (⟨"NumberHeapsModel", "width", "(II)I"⟩, 52) := ⟨⟨by decide +kernel, by decide +kernel⟩, List.mem_of_getElem? (i := 1143) (by decide +kernel), List.mem_of_getElem? (i := 1536) (by decide +kernel), List.mem_of_getElem? (i := 1537) (by decide +kernel)⟩
theorem lw_p87 : lw_okq (⟨"NumberHeapsModel", "setOf", "(I)I"⟩, 52) := ⟨⟨by decide +kernel, by decide +kernel⟩, List.mem_of_getElem? (i := 1143) (by decide +kernel), List.mem_of_getElem? (i := 1540) (by decide +kernel), List.mem_of_getElem? (i := 1541) (by decide +kernel)⟩
theorem lw_p88 : lw_okq (⟨"NumberHeapsModel", "areRows", "(I)Z"⟩, 52) := ⟨⟨by decide +kernel, by decide +kernel⟩, List.mem_of_getElem? (i := 1143) (by decide +kernel), List.mem_of_getElem? (i := 1556) (by decide +kernel), List.mem_of_getElem? (i := 1557) (by decide +kernel)⟩
theorem lw_p89 : lw_okq (⟨"NumberHeapsModel", "goes", "(II)V"⟩, 52) := ⟨⟨by decide +kernel, by decide +kernel⟩, List.mem_of_getElem? (i := 1143) (by decide +kernel), List.mem_of_getElem? (i := 1560) (by decide +kernel), List.mem_of_getElem? (i := 1561) (by decide +kernel)⟩
theorem lw_p90 : lw_okq (⟨"NumberHeapsModel", "mayLie", "(II)Z"⟩, 52) := ⟨⟨by decide +kernel, by decide +kernel⟩, List.mem_of_getElem? (i := 1143) (by decide +kernel), List.mem_of_getElem? (i := 1564) (by decide +kernel), List.mem_of_getElem? (i := 1565) (by decide +kernel)⟩
theorem lw_p91 : lw_okq (⟨"NumberHeapsModel", "climbsAll", "(I)I"⟩, 52) := ⟨⟨by decide +kernel, by decide +kernel⟩, List.mem_of_getElem? (i := 1143) (by decide +kernel), List.mem_of_getElem? (i := 1584) (by decide +kernel), List.mem_of_getElem? (i := 1585) (by decide +kernel)⟩
theorem lw_p92 : lw_okq (⟨"NumberHeapsModel", "climbs", "(I)Z"⟩, 52) := ⟨⟨by decide +kernel, by decide +kernel⟩, List.mem_of_getElem? (i := 1143) (by decide +kernel), List.mem_of_getElem? (i := 1588) (by decide +kernel), List.mem_of_getElem? (i := 1589) (by decide +kernel)⟩
theorem lw_p93 : lw_okq (⟨"NumberHeapsModel", "spreadNow", "(I)I"⟩, 52) := ⟨⟨by decide +kernel, by decide +kernel⟩, List.mem_of_getElem? (i := 1143) (by decide +kernel), List.mem_of_getElem? (i := 1592) (by decide +kernel), List.mem_of_getElem? (i := 1593) (by decide +kernel)⟩
theorem lw_p94 : lw_okq (⟨"NumberHeapsModel", "sums0", "(I)V"⟩, 52) := ⟨⟨by decide +kernel, by decide +kernel⟩, List.mem_of_getElem? (i := 1143) (by decide +kernel), List.mem_of_getElem? (i := 1596) (by decide +kernel), List.mem_of_getElem? (i := 1597) (by decide +kernel)⟩
theorem lw_p95 : lw_okq (⟨"NumberHeapsModel", "exchanges", "(II)V"⟩, 52) := ⟨⟨by decide +kernel, by decide +kernel⟩, List.mem_of_getElem? (i := 1143) (by decide +kernel), List.mem_of_getElem? (i := 1600) (by decide +kernel), List.mem_of_getElem? (i := 1601) (by decide +kernel)⟩
def lw_privs_6 : List (MethodName × Nat) := [(⟨"NumberHeapsModel", "searches", "()V"⟩, 52), (⟨"NumberHeapsModel", "visits", "(I)V"⟩, 52), (⟨"NumberHeapsModel", "leaf", "(II)V"⟩, 52), (⟨"NumberHeapsModel", "multiplies", "(I)V"⟩, 52), (⟨"NumberHeapsModel", "places", "(I)V"⟩, 52), (⟨"NumberHeapsModel", "isBefore", "(II)Z"⟩, 52), (⟨"NumberHeapsModel", "width", "(II)I"⟩, 52), (⟨"NumberHeapsModel", "setOf", "(I)I"⟩, 52), (⟨"NumberHeapsModel", "areRows", "(I)Z"⟩, 52), (⟨"NumberHeapsModel", "goes", "(II)V"⟩, 52), (⟨"NumberHeapsModel", "mayLie", "(II)Z"⟩, 52), (⟨"NumberHeapsModel", "climbsAll", "(I)I"⟩, 52), (⟨"NumberHeapsModel", "climbs", "(I)Z"⟩, 52), (⟨"NumberHeapsModel", "spreadNow", "(I)I"⟩, 52), (⟨"NumberHeapsModel", "sums0", "(I)V"⟩, 52), (⟨"NumberHeapsModel", "exchanges", "(II)V"⟩, 52)]
theorem lw_r6 : ∀ q ∈ lw_privs_6, lw_okq q := List.forall_mem_cons.mpr ⟨lw_p80, List.forall_mem_cons.mpr ⟨lw_p81, List.forall_mem_cons.mpr ⟨lw_p82, List.forall_mem_cons.mpr ⟨lw_p83, List.forall_mem_cons.mpr ⟨lw_p84, List.forall_mem_cons.mpr ⟨lw_p85, List.forall_mem_cons.mpr ⟨lw_p86, List.forall_mem_cons.mpr ⟨lw_p87, List.forall_mem_cons.mpr ⟨lw_p88, List.forall_mem_cons.mpr ⟨lw_p89, List.forall_mem_cons.mpr ⟨lw_p90, List.forall_mem_cons.mpr ⟨lw_p91, List.forall_mem_cons.mpr ⟨lw_p92, List.forall_mem_cons.mpr ⟨lw_p93, List.forall_mem_cons.mpr ⟨lw_p94, List.forall_mem_cons.mpr ⟨lw_p95, fun _ h => absurd h List.not_mem_nil⟩⟩⟩⟩⟩⟩⟩⟩⟩⟩⟩⟩⟩⟩⟩⟩
theorem lw_p96 : lw_okq (⟨"NumberHeapsModel", "laysSums", "()I"⟩, 52) := ⟨⟨by decide +kernel, by decide +kernel⟩, List.mem_of_getElem? (i := 1143) (by decide +kernel), List.mem_of_getElem? (i := 1616) (by decide +kernel), List.mem_of_getElem? (i := 1617) (by decide +kernel)⟩
theorem lw_p97 : lw_okq (⟨"NumberHeapsModel", "isNew", "(I)Z"⟩, 52) := ⟨⟨by decide +kernel, by decide +kernel⟩, List.mem_of_getElem? (i := 1143) (by decide +kernel), List.mem_of_getElem? (i := 1631) (by decide +kernel), List.mem_of_getElem? (i := 1632) (by decide +kernel)⟩
theorem lw_p98 : lw_okq (⟨"NumberHeapsModel", "remembers", "()V"⟩, 52) := ⟨⟨by decide +kernel, by decide +kernel⟩, List.mem_of_getElem? (i := 1143) (by decide +kernel), List.mem_of_getElem? (i := 1643) (by decide +kernel), List.mem_of_getElem? (i := 1644) (by decide +kernel)⟩
theorem lw_p99 : lw_okq (⟨"NumberHeapsModel", "parts", "(I)V"⟩, 52) := ⟨⟨by decide +kernel, by decide +kernel⟩, List.mem_of_getElem? (i := 1143) (by decide +kernel), List.mem_of_getElem? (i := 1651) (by decide +kernel), List.mem_of_getElem? (i := 1652) (by decide +kernel)⟩
theorem lw_p100 : lw_okq (⟨"NumberHeapsModel", "changes", "(II)I"⟩, 52) := ⟨⟨by decide +kernel, by decide +kernel⟩, List.mem_of_getElem? (i := 1143) (by decide +kernel), List.mem_of_getElem? (i := 1659) (by decide +kernel), List.mem_of_getElem? (i := 1660) (by decide +kernel)⟩
theorem lw_p101 : lw_okq (⟨"NumberHeapsModel", "granted", "(I)Z"⟩, 52) := ⟨⟨by decide +kernel, by decide +kernel⟩, List.mem_of_getElem? (i := 1143) (by decide +kernel), List.mem_of_getElem? (i := 1687) (by decide +kernel), List.mem_of_getElem? (i := 1688) (by decide +kernel)⟩
theorem lw_p102 : lw_okq (⟨"NumberHeapsModel", "writes", "(I)V"⟩, 52) := ⟨⟨by decide +kernel, by decide +kernel⟩, List.mem_of_getElem? (i := 1143) (by decide +kernel), List.mem_of_getElem? (i := 1699) (by decide +kernel), List.mem_of_getElem? (i := 1700) (by decide +kernel)⟩
theorem lw_p103 : lw_okq (⟨"NumberHeapsModel", "writesNumber", "(I)V"⟩, 52) := ⟨⟨by decide +kernel, by decide +kernel⟩, List.mem_of_getElem? (i := 1143) (by decide +kernel), List.mem_of_getElem? (i := 1703) (by decide +kernel), List.mem_of_getElem? (i := 1704) (by decide +kernel)⟩
def lw_privs_7 : List (MethodName × Nat) := [(⟨"NumberHeapsModel", "laysSums", "()I"⟩, 52), (⟨"NumberHeapsModel", "isNew", "(I)Z"⟩, 52), (⟨"NumberHeapsModel", "remembers", "()V"⟩, 52), (⟨"NumberHeapsModel", "parts", "(I)V"⟩, 52), (⟨"NumberHeapsModel", "changes", "(II)I"⟩, 52), (⟨"NumberHeapsModel", "granted", "(I)Z"⟩, 52), (⟨"NumberHeapsModel", "writes", "(I)V"⟩, 52), (⟨"NumberHeapsModel", "writesNumber", "(I)V"⟩, 52)]
theorem lw_r7 : ∀ q ∈ lw_privs_7, lw_okq q := List.forall_mem_cons.mpr ⟨lw_p96, List.forall_mem_cons.mpr ⟨lw_p97, List.forall_mem_cons.mpr ⟨lw_p98, List.forall_mem_cons.mpr ⟨lw_p99, List.forall_mem_cons.mpr ⟨lw_p100, List.forall_mem_cons.mpr ⟨lw_p101, List.forall_mem_cons.mpr ⟨lw_p102, List.forall_mem_cons.mpr ⟨lw_p103, fun _ h => absurd h List.not_mem_nil⟩⟩⟩⟩⟩⟩⟩⟩
def lw_privs : List (MethodName × Nat) := lw_privs_1 ++ (lw_privs_2 ++ (lw_privs_3 ++ (lw_privs_4 ++ (lw_privs_5 ++ (lw_privs_6 ++ (lw_privs_7))))))
def lw_tbl : List Cond := k2_sels lw_privs ++ tables_1
theorem lw_privs_ok : ∀ q ∈ lw_privs, lw_okq q := by
  show ∀ q ∈ lw_privs_1 ++ (lw_privs_2 ++ (lw_privs_3 ++ (lw_privs_4 ++ (lw_privs_5 ++ (lw_privs_6 ++ (lw_privs_7)))))), lw_okq q
  exact List.forall_mem_append.mpr ⟨lw_r1, List.forall_mem_append.mpr ⟨lw_r2, List.forall_mem_append.mpr ⟨lw_r3, List.forall_mem_append.mpr ⟨lw_r4, List.forall_mem_append.mpr ⟨lw_r5, List.forall_mem_append.mpr ⟨lw_r6, lw_r7⟩⟩⟩⟩⟩⟩

def RX0 : String := "NumberHeaps$Differencing"
def TX0 : u_T := fun k => match k with
  | 0 => ("NumberHeaps$Differencing", "row", "LNumberHeaps$ItemRow;", true)
  | 1 => ("NumberHeaps$Differencing", "greater", "[I", true)
  | _ => ("NumberHeaps$Differencing", "lesser", "[I", true)
def tyX0 : Nat → FieldType := fun k => match k with
  | 0 => .object "NumberHeaps$ItemRow"
  | 1 => .array .int
  | _ => .array .int
abbrev wsX00 : List Cond := u_ws RX0 TX0 3
theorem nmX0 : ∀ a, a < 3 → ∀ b, b < 3 → a ≠ b → (TX0 a).2.1 ≠ (TX0 b).2.1 := by decide +kernel
theorem tyX0_ok : ∀ k, k < 3 → parseFieldDescriptor (TX0 k).2.2.1 = some (tyX0 k) := by decide +kernel
abbrev cX0_init : ByteArray := prog_2_method_1_code
def yX0_init : MethodName := ⟨RX0, "<init>", "()V"⟩
abbrev cX0_run : ByteArray := prog_2_method_2_code
def yX0_run : MethodName := ⟨RX0, "run", "(LNumberHeaps$State;)V"⟩
def RX1 : String := "NumberHeaps$Filling"
def TX1 : u_T := fun k => match k with
  | 0 => ("NumberHeaps$Filling", "heapOf", "[I", true)
  | 1 => ("NumberHeaps$Filling", "changes", "I", false)
  | 2 => ("NumberHeaps$Filling", "heapSums", "[I", true)
  | 3 => ("NumberHeaps$Filling", "k", "I", false)
  | 4 => ("NumberHeaps$Filling", "bestSpread", "I", false)
  | 5 => ("NumberHeaps$Filling", "bestNumber", "I", false)
  | 6 => ("NumberHeaps$Filling", "bestHeap", "I", false)
  | _ => ("NumberHeaps$Filling", "bestOther", "I", false)
def tyX1 : Nat → FieldType := fun k => match k with
  | 0 => .array .int
  | 1 => .int
  | 2 => .array .int
  | 3 => .int
  | 4 => .int
  | 5 => .int
  | 6 => .int
  | _ => .int
abbrev wsX10 : List Cond := u_ws RX1 TX1 8
theorem nmX1 : ∀ a, a < 8 → ∀ b, b < 8 → a ≠ b → (TX1 a).2.1 ≠ (TX1 b).2.1 := by decide +kernel
theorem tyX1_ok : ∀ k, k < 8 → parseFieldDescriptor (TX1 k).2.2.1 = some (tyX1 k) := by decide +kernel
abbrev cX1_init : ByteArray := prog_3_method_1_code
def yX1_init : MethodName := ⟨RX1, "<init>", "()V"⟩
abbrev cX1_fillBySize : ByteArray := prog_3_method_2_code
def yX1_fillBySize : MethodName := ⟨RX1, "fillBySize", "(LNumberHeaps$State;I)V"⟩
abbrev cX1_leastHeap : ByteArray := prog_3_method_3_code
def yX1_leastHeap : MethodName := ⟨RX1, "leastHeap", "()I"⟩
abbrev cX1_greatest : ByteArray := prog_3_method_4_code
def yX1_greatest : MethodName := ⟨RX1, "greatest", "()I"⟩
abbrev cX1_spread : ByteArray := prog_3_method_5_code
def yX1_spread : MethodName := ⟨RX1, "spread", "()I"⟩
abbrev cX1_improve : ByteArray := prog_3_method_6_code
def yX1_improve : MethodName := ⟨RX1, "improve", "(LNumberHeaps$State;I)V"⟩
abbrev cX1_tryMoves : ByteArray := prog_3_method_7_code
def yX1_tryMoves : MethodName := ⟨RX1, "tryMoves", "(LNumberHeaps$State;)V"⟩
abbrev cX1_tryExchanges : ByteArray := prog_3_method_8_code
def yX1_tryExchanges : MethodName := ⟨RX1, "tryExchanges", "(LNumberHeaps$State;)V"⟩
abbrev cX1_consider : ByteArray := prog_3_method_9_code
def yX1_consider : MethodName := ⟨RX1, "consider", "(IIII)V"⟩
abbrev cX1_shift : ByteArray := prog_3_method_10_code
def yX1_shift : MethodName := ⟨RX1, "shift", "(III)V"⟩
abbrev cX1_makeBest : ByteArray := prog_3_method_11_code
def yX1_makeBest : MethodName := ⟨RX1, "makeBest", "(LNumberHeaps$State;)V"⟩
def RX2 : String := "NumberHeaps$History"
def TX2 : u_T := fun k => match k with
  | 0 => ("NumberHeaps$History", "past", "[LNumberHeaps$State;", true)
  | 1 => ("NumberHeaps$History", "next", "I", false)
  | 2 => ("NumberHeaps$History", "acts", "I", false)
  | _ => ("NumberHeaps$History", "images", "[LNumberHeaps$State;", true)
def tyX2 : Nat → FieldType := fun k => match k with
  | 0 => .array (.object "NumberHeaps$State")
  | 1 => .int
  | 2 => .int
  | _ => .array (.object "NumberHeaps$State")
abbrev wsX20 : List Cond := u_ws RX2 TX2 4
theorem nmX2 : ∀ a, a < 4 → ∀ b, b < 4 → a ≠ b → (TX2 a).2.1 ≠ (TX2 b).2.1 := by decide +kernel
theorem tyX2_ok : ∀ k, k < 4 → parseFieldDescriptor (TX2 k).2.2.1 = some (tyX2 k) := by decide +kernel
abbrev cX2_init : ByteArray := prog_4_method_1_code
def yX2_init : MethodName := ⟨RX2, "<init>", "()V"⟩
abbrev cX2_keepAct : ByteArray := prog_4_method_2_code
def yX2_keepAct : MethodName := ⟨RX2, "keepAct", "(LNumberHeaps$State;)LNumberHeaps$State;"⟩
abbrev cX2_takeBack : ByteArray := prog_4_method_3_code
def yX2_takeBack : MethodName := ⟨RX2, "takeBack", "(LNumberHeaps$State;)V"⟩
abbrev cX2_forgetActs : ByteArray := prog_4_method_4_code
def yX2_forgetActs : MethodName := ⟨RX2, "forgetActs", "()V"⟩
abbrev cX2_forgetImages : ByteArray := prog_4_method_5_code
def yX2_forgetImages : MethodName := ⟨RX2, "forgetImages", "()V"⟩
def RX3 : String := "NumberHeaps$ItemRow"
def TX3 : u_T := fun k => match k with
  | 0 => ("NumberHeaps$ItemRow", "count", "I", false)
  | 1 => ("NumberHeaps$ItemRow", "values", "[I", true)
  | 2 => ("NumberHeaps$ItemRow", "firsts", "[I", true)
  | _ => ("NumberHeaps$ItemRow", "seconds", "[I", true)
def tyX3 : Nat → FieldType := fun k => match k with
  | 0 => .int
  | 1 => .array .int
  | 2 => .array .int
  | _ => .array .int
abbrev wsX30 : List Cond := u_ws RX3 TX3 4
theorem nmX3 : ∀ a, a < 4 → ∀ b, b < 4 → a ≠ b → (TX3 a).2.1 ≠ (TX3 b).2.1 := by decide +kernel
theorem tyX3_ok : ∀ k, k < 4 → parseFieldDescriptor (TX3 k).2.2.1 = some (tyX3 k) := by decide +kernel
abbrev cX3_init : ByteArray := prog_5_method_1_code
def yX3_init : MethodName := ⟨RX3, "<init>", "()V"⟩
abbrev cX3_takeNumbers : ByteArray := prog_5_method_2_code
def yX3_takeNumbers : MethodName := ⟨RX3, "takeNumbers", "(LNumberHeaps$State;)V"⟩
abbrev cX3_copyFrom : ByteArray := prog_5_method_3_code
def yX3_copyFrom : MethodName := ⟨RX3, "copyFrom", "(LNumberHeaps$ItemRow;)V"⟩
abbrev cX3_joinFirstTwo : ByteArray := prog_5_method_4_code
def yX3_joinFirstTwo : MethodName := ⟨RX3, "joinFirstTwo", "(Z)V"⟩
abbrev cX3_insert : ByteArray := prog_5_method_5_code
def yX3_insert : MethodName := ⟨RX3, "insert", "(III)V"⟩
abbrev cX3_goesAhead : ByteArray := prog_5_method_6_code
def yX3_goesAhead : MethodName := ⟨RX3, "goesAhead", "(III)Z"⟩
abbrev cX3_firstLessOthers : ByteArray := prog_5_method_7_code
def yX3_firstLessOthers : MethodName := ⟨RX3, "firstLessOthers", "()I"⟩
abbrev cX3_leafFirstSide : ByteArray := prog_5_method_8_code
def yX3_leafFirstSide : MethodName := ⟨RX3, "leafFirstSide", "()I"⟩
def RX4 : String := "NumberHeaps$Multi"
def TX4 : u_T := fun k => match k with
  | 0 => ("NumberHeaps$Multi", "values", "[[I", true)
  | 1 => ("NumberHeaps$Multi", "members", "[[I", true)
  | 2 => ("NumberHeaps$Multi", "gone", "[Z", true)
  | 3 => ("NumberHeaps$Multi", "items", "I", false)
  | 4 => ("NumberHeaps$Multi", "k", "I", false)
  | _ => ("NumberHeaps$Multi", "last", "I", false)
def tyX4 : Nat → FieldType := fun k => match k with
  | 0 => .array (.array .int)
  | 1 => .array (.array .int)
  | 2 => .array .boolean
  | 3 => .int
  | 4 => .int
  | _ => .int
abbrev wsX40 : List Cond := u_ws RX4 TX4 6
theorem nmX4 : ∀ a, a < 6 → ∀ b, b < 6 → a ≠ b → (TX4 a).2.1 ≠ (TX4 b).2.1 := by decide +kernel
theorem tyX4_ok : ∀ k, k < 6 → parseFieldDescriptor (TX4 k).2.2.1 = some (tyX4 k) := by decide +kernel
abbrev cX4_init : ByteArray := prog_6_method_1_code
def yX4_init : MethodName := ⟨RX4, "<init>", "()V"⟩
abbrev cX4_run : ByteArray := prog_6_method_2_code
def yX4_run : MethodName := ⟨RX4, "run", "(LNumberHeaps$State;I)V"⟩
abbrev cX4_lastWidth : ByteArray := prog_6_method_3_code
def yX4_lastWidth : MethodName := ⟨RX4, "lastWidth", "()I"⟩
abbrev cX4_heapOf : ByteArray := prog_6_method_4_code
def yX4_heapOf : MethodName := ⟨RX4, "heapOf", "(I)I"⟩
abbrev cX4_firstItemBut : ByteArray := prog_6_method_5_code
def yX4_firstItemBut : MethodName := ⟨RX4, "firstItemBut", "(I)I"⟩
abbrev cX4_itemGoesAhead : ByteArray := prog_6_method_6_code
def yX4_itemGoesAhead : MethodName := ⟨RX4, "itemGoesAhead", "(II)Z"⟩
abbrev cX4_width : ByteArray := prog_6_method_7_code
def yX4_width : MethodName := ⟨RX4, "width", "(I)I"⟩
abbrev cX4_allMembers : ByteArray := prog_6_method_8_code
def yX4_allMembers : MethodName := ⟨RX4, "allMembers", "(I)I"⟩
abbrev cX4_join : ByteArray := prog_6_method_9_code
def yX4_join : MethodName := ⟨RX4, "join", "(II)V"⟩
abbrev cX4_orderParts : ByteArray := prog_6_method_10_code
def yX4_orderParts : MethodName := ⟨RX4, "orderParts", "([I[I)V"⟩
def RX5 : String := "NumberHeaps$Partings"
def TX5 : u_T := fun k => match k with
  | 0 => ("NumberHeaps$Partings", "spread", "I", false)
  | 1 => ("NumberHeaps$Partings", "times", "I", false)
  | 2 => ("NumberHeaps$Partings", "flattest", "I", false)
  | 3 => ("NumberHeaps$Partings", "theRow", "[I", true)
  | 4 => ("NumberHeaps$Partings", "k", "I", true)
  | 5 => ("NumberHeaps$Partings", "row", "[I", true)
  | 6 => ("NumberHeaps$Partings", "heapSums", "[I", true)
  | 7 => ("NumberHeaps$Partings", "members", "[I", true)
  | 8 => ("NumberHeaps$Partings", "named", "I", false)
  | 9 => ("NumberHeaps$Partings", "total", "I", false)
  | 10 => ("NumberHeaps$Partings", "counting", "Z", false)
  | 11 => ("NumberHeaps$Partings", "allowed", "I", false)
  | _ => ("NumberHeaps$Partings", "madeFor", "I", false)
def tyX5 : Nat → FieldType := fun k => match k with
  | 0 => .int
  | 1 => .int
  | 2 => .int
  | 3 => .array .int
  | 4 => .int
  | 5 => .array .int
  | 6 => .array .int
  | 7 => .array .int
  | 8 => .int
  | 9 => .int
  | 10 => .boolean
  | 11 => .int
  | _ => .int
abbrev wsX50 : List Cond := u_ws RX5 TX5 13
theorem nmX5 : ∀ a, a < 13 → ∀ b, b < 13 → a ≠ b → (TX5 a).2.1 ≠ (TX5 b).2.1 := by decide +kernel
theorem tyX5_ok : ∀ k, k < 13 → parseFieldDescriptor (TX5 k).2.2.1 = some (tyX5 k) := by decide +kernel
abbrev cX5_init : ByteArray := prog_7_method_1_code
def yX5_init : MethodName := ⟨RX5, "<init>", "(I)V"⟩
abbrev cX5_findLeast : ByteArray := prog_7_method_2_code
def yX5_findLeast : MethodName := ⟨RX5, "findLeast", "(LNumberHeaps$State;I)Z"⟩
abbrev cX5_countAllowed : ByteArray := prog_7_method_3_code
def yX5_countAllowed : MethodName := ⟨RX5, "countAllowed", "(LNumberHeaps$State;)I"⟩
abbrev cX5_begin : ByteArray := prog_7_method_4_code
def yX5_begin : MethodName := ⟨RX5, "begin", "(LNumberHeaps$State;Z)V"⟩
abbrev cX5_place : ByteArray := prog_7_method_5_code
def yX5_place : MethodName := ⟨RX5, "place", "(LNumberHeaps$State;III)V"⟩
abbrev cX5_placeAnywhere : ByteArray := prog_7_method_6_code
def yX5_placeAnywhere : MethodName := ⟨RX5, "placeAnywhere", "(LNumberHeaps$State;III)V"⟩
abbrev cX5_placeInEach : ByteArray := prog_7_method_7_code
def yX5_placeInEach : MethodName := ⟨RX5, "placeInEach", "(LNumberHeaps$State;III)V"⟩
abbrev cX5_isNameless : ByteArray := prog_7_method_8_code
def yX5_isNameless : MethodName := ⟨RX5, "isNameless", "(I)Z"⟩
abbrev cX5_namelessHeaps : ByteArray := prog_7_method_9_code
def yX5_namelessHeaps : MethodName := ⟨RX5, "namelessHeaps", "()I"⟩
abbrev cX5_mayLie : ByteArray := prog_7_method_10_code
def yX5_mayLie : MethodName := ⟨RX5, "mayLie", "(LNumberHeaps$State;II)Z"⟩
abbrev cX5_hopeful : ByteArray := prog_7_method_11_code
def yX5_hopeful : MethodName := ⟨RX5, "hopeful", "(I)Z"⟩
abbrev cX5_takeRow : ByteArray := prog_7_method_12_code
def yX5_takeRow : MethodName := ⟨RX5, "takeRow", "(I)V"⟩
def RX6 : String := "NumberHeaps$Reader"
def TX6 : u_T := fun k => match k with
  | 0 => ("NumberHeaps$Reader", "taped", "I", false)
  | 1 => ("NumberHeaps$Reader", "told", "LNumberHeaps$State;", true)
  | 2 => ("NumberHeaps$Reader", "faultFound", "I", false)
  | 3 => ("NumberHeaps$Reader", "start", "I", false)
  | 4 => ("NumberHeaps$Reader", "tape", "[B", true)
  | 5 => ("NumberHeaps$Reader", "length", "I", false)
  | 6 => ("NumberHeaps$Reader", "at", "I", false)
  | 7 => ("NumberHeaps$Reader", "kind", "I", false)
  | 8 => ("NumberHeaps$Reader", "whole", "I", false)
  | _ => ("NumberHeaps$Reader", "heapsTold", "Z", false)
def tyX6 : Nat → FieldType := fun k => match k with
  | 0 => .int
  | 1 => .object "NumberHeaps$State"
  | 2 => .int
  | 3 => .int
  | 4 => .array .byte
  | 5 => .int
  | 6 => .int
  | 7 => .int
  | 8 => .int
  | _ => .boolean
abbrev wsX60 : List Cond := u_ws RX6 TX6 10
theorem nmX6 : ∀ a, a < 10 → ∀ b, b < 10 → a ≠ b → (TX6 a).2.1 ≠ (TX6 b).2.1 := by decide +kernel
theorem tyX6_ok : ∀ k, k < 10 → parseFieldDescriptor (TX6 k).2.2.1 = some (tyX6 k) := by decide +kernel
abbrev cX6_init : ByteArray := prog_8_method_1_code
def yX6_init : MethodName := ⟨RX6, "<init>", "()V"⟩
abbrev cX6_putFour : ByteArray := prog_8_method_2_code
def yX6_putFour : MethodName := ⟨RX6, "putFour", "(I)V"⟩
abbrev cX6_readText : ByteArray := prog_8_method_3_code
def yX6_readText : MethodName := ⟨RX6, "readText", "(I)Z"⟩
abbrev cX6_readLines : ByteArray := prog_8_method_4_code
def yX6_readLines : MethodName := ⟨RX6, "readLines", "()Z"⟩
abbrev cX6_stop : ByteArray := prog_8_method_5_code
def yX6_stop : MethodName := ⟨RX6, "stop", "(I)Z"⟩
abbrev cX6_readLine : ByteArray := prog_8_method_6_code
def yX6_readLine : MethodName := ⟨RX6, "readLine", "()Z"⟩
abbrev cX6_readNumbers : ByteArray := prog_8_method_7_code
def yX6_readNumbers : MethodName := ⟨RX6, "readNumbers", "()Z"⟩
abbrev cX6_readHeaps : ByteArray := prog_8_method_8_code
def yX6_readHeaps : MethodName := ⟨RX6, "readHeaps", "()Z"⟩
abbrev cX6_readKeep : ByteArray := prog_8_method_9_code
def yX6_readKeep : MethodName := ⟨RX6, "readKeep", "()Z"⟩
abbrev cX6_readApart : ByteArray := prog_8_method_10_code
def yX6_readApart : MethodName := ⟨RX6, "readApart", "()Z"⟩
abbrev cX6_wholeWithin : ByteArray := prog_8_method_11_code
def yX6_wholeWithin : MethodName := ⟨RX6, "wholeWithin", "(II)Z"⟩
abbrev cX6_isWord : ByteArray := prog_8_method_12_code
def yX6_isWord : MethodName := ⟨RX6, "isWord", "(Ljava/lang/String;)Z"⟩
abbrev cX6_nextToken : ByteArray := prog_8_method_13_code
def yX6_nextToken : MethodName := ⟨RX6, "nextToken", "()V"⟩
abbrev cX6_takeWord : ByteArray := prog_8_method_14_code
def yX6_takeWord : MethodName := ⟨RX6, "takeWord", "()V"⟩
abbrev cX6_takeWhole : ByteArray := prog_8_method_15_code
def yX6_takeWhole : MethodName := ⟨RX6, "takeWhole", "()V"⟩
abbrev cX6_takeSign : ByteArray := prog_8_method_16_code
def yX6_takeSign : MethodName := ⟨RX6, "takeSign", "()V"⟩
abbrev cX6_isLetter : ByteArray := prog_8_method_17_code
def yX6_isLetter : MethodName := ⟨RX6, "isLetter", "(I)Z"⟩
abbrev cX6_isDigit : ByteArray := prog_8_method_18_code
def yX6_isDigit : MethodName := ⟨RX6, "isDigit", "(I)Z"⟩
def RX7 : String := "NumberHeaps$Search"
def TX7 : u_T := fun k => match k with
  | 0 => ("NumberHeaps$Search", "least", "I", false)
  | 1 => ("NumberHeaps$Search", "visited", "I", false)
  | 2 => ("NumberHeaps$Search", "leaves", "I", false)
  | 3 => ("NumberHeaps$Search", "finds", "I", false)
  | 4 => ("NumberHeaps$Search", "perfect", "Z", false)
  | 5 => ("NumberHeaps$Search", "firstSide", "I", false)
  | 6 => ("NumberHeaps$Search", "found", "[I", true)
  | 7 => ("NumberHeaps$Search", "foundAt", "[I", true)
  | 8 => ("NumberHeaps$Search", "rowAt", "[LNumberHeaps$ItemRow;", true)
  | 9 => ("NumberHeaps$Search", "totalModuloTwo", "I", false)
  | _ => ("NumberHeaps$Search", "madeFor", "I", false)
def tyX7 : Nat → FieldType := fun k => match k with
  | 0 => .int
  | 1 => .int
  | 2 => .int
  | 3 => .int
  | 4 => .boolean
  | 5 => .int
  | 6 => .array .int
  | 7 => .array .int
  | 8 => .array (.object "NumberHeaps$ItemRow")
  | 9 => .int
  | _ => .int
abbrev wsX70 : List Cond := u_ws RX7 TX7 11
theorem nmX7 : ∀ a, a < 11 → ∀ b, b < 11 → a ≠ b → (TX7 a).2.1 ≠ (TX7 b).2.1 := by decide +kernel
theorem tyX7_ok : ∀ k, k < 11 → parseFieldDescriptor (TX7 k).2.2.1 = some (tyX7 k) := by decide +kernel
abbrev cX7_init : ByteArray := prog_9_method_1_code
def yX7_init : MethodName := ⟨RX7, "<init>", "()V"⟩
abbrev cX7_prepare : ByteArray := prog_9_method_2_code
def yX7_prepare : MethodName := ⟨RX7, "prepare", "(LNumberHeaps$State;I)V"⟩
abbrev cX7_visit : ByteArray := prog_9_method_3_code
def yX7_visit : MethodName := ⟨RX7, "visit", "(I)V"⟩
abbrev cX7_visitBelow : ByteArray := prog_9_method_4_code
def yX7_visitBelow : MethodName := ⟨RX7, "visitBelow", "(IZ)V"⟩
abbrev cX7_takeLeaf : ByteArray := prog_9_method_5_code
def yX7_takeLeaf : MethodName := ⟨RX7, "takeLeaf", "(LNumberHeaps$ItemRow;I)V"⟩
def RX8 : String := "NumberHeaps$SetSums"
def TX8 : u_T := fun k => match k with
  | 0 => ("NumberHeaps$SetSums", "keys", "[I", false)
  | 1 => ("NumberHeaps$SetSums", "spare", "[I", false)
  | 2 => ("NumberHeaps$SetSums", "sets", "I", false)
  | _ => ("NumberHeaps$SetSums", "madeFor", "I", false)
def tyX8 : Nat → FieldType := fun k => match k with
  | 0 => .array .int
  | 1 => .array .int
  | 2 => .int
  | _ => .int
abbrev wsX80 : List Cond := u_ws RX8 TX8 4
theorem nmX8 : ∀ a, a < 4 → ∀ b, b < 4 → a ≠ b → (TX8 a).2.1 ≠ (TX8 b).2.1 := by decide +kernel
theorem tyX8_ok : ∀ k, k < 4 → parseFieldDescriptor (TX8 k).2.2.1 = some (tyX8 k) := by decide +kernel
abbrev cX8_init : ByteArray := prog_10_method_1_code
def yX8_init : MethodName := ⟨RX8, "<init>", "()V"⟩
abbrev cX8_prepare : ByteArray := prog_10_method_2_code
def yX8_prepare : MethodName := ⟨RX8, "prepare", "(LNumberHeaps$State;I)V"⟩
abbrev cX8_mergeWith : ByteArray := prog_10_method_3_code
def yX8_mergeWith : MethodName := ⟨RX8, "mergeWith", "(I)V"⟩
abbrev cX8_sumAt : ByteArray := prog_10_method_4_code
def yX8_sumAt : MethodName := ⟨RX8, "sumAt", "(I)I"⟩
abbrev cX8_firstFrom : ByteArray := prog_10_method_5_code
def yX8_firstFrom : MethodName := ⟨RX8, "firstFrom", "(I)I"⟩
abbrev cX8_setsWith : ByteArray := prog_10_method_6_code
def yX8_setsWith : MethodName := ⟨RX8, "setsWith", "(I)I"⟩
abbrev cX8_leastSetWith : ByteArray := prog_10_method_7_code
def yX8_leastSetWith : MethodName := ⟨RX8, "leastSetWith", "(I)I"⟩
abbrev cX8_unlikeSums : ByteArray := prog_10_method_8_code
def yX8_unlikeSums : MethodName := ⟨RX8, "unlikeSums", "()I"⟩
abbrev cX8_sumNextTo : ByteArray := prog_10_method_9_code
def yX8_sumNextTo : MethodName := ⟨RX8, "sumNextTo", "(I)I"⟩
def RX9 : String := "NumberHeaps$State"
def TX9 : u_T := fun k => match k with
  | 0 => ("NumberHeaps$State", "count", "I", false)
  | 1 => ("NumberHeaps$State", "heapCount", "I", false)
  | 2 => ("NumberHeaps$State", "values", "[I", true)
  | 3 => ("NumberHeaps$State", "keeper", "[I", true)
  | 4 => ("NumberHeaps$State", "foes", "[I", true)
  | _ => ("NumberHeaps$State", "bySize", "[I", true)
def tyX9 : Nat → FieldType := fun k => match k with
  | 0 => .int
  | 1 => .int
  | 2 => .array .int
  | 3 => .array .int
  | 4 => .array .int
  | _ => .array .int
abbrev wsX90 : List Cond := u_ws RX9 TX9 6
theorem nmX9 : ∀ a, a < 6 → ∀ b, b < 6 → a ≠ b → (TX9 a).2.1 ≠ (TX9 b).2.1 := by decide +kernel
theorem tyX9_ok : ∀ k, k < 6 → parseFieldDescriptor (TX9 k).2.2.1 = some (tyX9 k) := by decide +kernel
abbrev cX9_init : ByteArray := prog_11_method_1_code
def yX9_init : MethodName := ⟨RX9, "<init>", "()V"⟩
abbrev cX9_copyFrom : ByteArray := prog_11_method_2_code
def yX9_copyFrom : MethodName := ⟨RX9, "copyFrom", "(LNumberHeaps$State;)V"⟩
abbrev cX9_empty : ByteArray := prog_11_method_3_code
def yX9_empty : MethodName := ⟨RX9, "empty", "()V"⟩
abbrev cX9_append : ByteArray := prog_11_method_4_code
def yX9_append : MethodName := ⟨RX9, "append", "(I)V"⟩
abbrev cX9_remove : ByteArray := prog_11_method_5_code
def yX9_remove : MethodName := ⟨RX9, "remove", "(I)V"⟩
abbrev cX9_withoutBit : ByteArray := prog_11_method_6_code
def yX9_withoutBit : MethodName := ⟨RX9, "withoutBit", "(II)I"⟩
abbrev cX9_layBySize : ByteArray := prog_11_method_7_code
def yX9_layBySize : MethodName := ⟨RX9, "layBySize", "(LNumberHeaps$State;)V"⟩
abbrev cX9_orderBySize : ByteArray := prog_11_method_8_code
def yX9_orderBySize : MethodName := ⟨RX9, "orderBySize", "()V"⟩
abbrev cX9_placeBySize : ByteArray := prog_11_method_9_code
def yX9_placeBySize : MethodName := ⟨RX9, "placeBySize", "(I)I"⟩
abbrev cX9_areApart : ByteArray := prog_11_method_10_code
def yX9_areApart : MethodName := ⟨RX9, "areApart", "(II)Z"⟩
abbrev cX9_toggleApart : ByteArray := prog_11_method_11_code
def yX9_toggleApart : MethodName := ⟨RX9, "toggleApart", "(II)V"⟩
abbrev cX9_pairs : ByteArray := prog_11_method_12_code
def yX9_pairs : MethodName := ⟨RX9, "pairs", "()I"⟩
abbrev cX9_keptCount : ByteArray := prog_11_method_13_code
def yX9_keptCount : MethodName := ⟨RX9, "keptCount", "()I"⟩
abbrev cX9_total : ByteArray := prog_11_method_14_code
def yX9_total : MethodName := ⟨RX9, "total", "()I"⟩
def RX10 : String := "NumberHeaps"
def TX10 : u_T := fun k => match k with
  | 0 => ("NumberHeaps", "reader", "LNumberHeaps$Reader;", true)
  | 1 => ("NumberHeaps", "state", "LNumberHeaps$State;", true)
  | 2 => ("NumberHeaps", "history", "LNumberHeaps$History;", true)
  | 3 => ("NumberHeaps", "version", "I", false)
  | 4 => ("NumberHeaps", "filling", "LNumberHeaps$Filling;", true)
  | 5 => ("NumberHeaps", "differencing", "LNumberHeaps$Differencing;", true)
  | 6 => ("NumberHeaps", "searching", "LNumberHeaps$Search;", true)
  | 7 => ("NumberHeaps", "several", "LNumberHeaps$Multi;", true)
  | 8 => ("NumberHeaps", "partings", "[LNumberHeaps$Partings;", true)
  | 9 => ("NumberHeaps", "setSums", "LNumberHeaps$SetSums;", true)
  | 10 => ("NumberHeaps", "written", "[B", true)
  | 11 => ("NumberHeaps", "writtenBytes", "I", false)
  | 12 => ("NumberHeaps", "troubleNumber", "I", false)
  | 13 => ("NumberHeaps", "faultNumber", "I", false)
  | _ => ("NumberHeaps", "faultPlace", "I", false)
def tyX10 : Nat → FieldType := fun k => match k with
  | 0 => .object "NumberHeaps$Reader"
  | 1 => .object "NumberHeaps$State"
  | 2 => .object "NumberHeaps$History"
  | 3 => .int
  | 4 => .object "NumberHeaps$Filling"
  | 5 => .object "NumberHeaps$Differencing"
  | 6 => .object "NumberHeaps$Search"
  | 7 => .object "NumberHeaps$Multi"
  | 8 => .array (.object "NumberHeaps$Partings")
  | 9 => .object "NumberHeaps$SetSums"
  | 10 => .array .byte
  | 11 => .int
  | 12 => .int
  | 13 => .int
  | _ => .int
abbrev wsX100 : List Cond := u_ws RX10 TX10 15
theorem nmX10 : ∀ a, a < 15 → ∀ b, b < 15 → a ≠ b → (TX10 a).2.1 ≠ (TX10 b).2.1 := by decide +kernel
theorem tyX10_ok : ∀ k, k < 15 → parseFieldDescriptor (TX10 k).2.2.1 = some (tyX10 k) := by decide +kernel
abbrev cX10_init : ByteArray := prog_1_method_1_code
def yX10_init : MethodName := ⟨RX10, "<init>", "()V"⟩
abbrev cX10_feed : ByteArray := prog_1_method_2_code
def yX10_feed : MethodName := ⟨RX10, "feed", "(IIIII)I"⟩
abbrev cX10_text : ByteArray := prog_1_method_3_code
def yX10_text : MethodName := ⟨RX10, "text", "(I)I"⟩
abbrev cX10_fault : ByteArray := prog_1_method_4_code
def yX10_fault : MethodName := ⟨RX10, "fault", "()I"⟩
abbrev cX10_where : ByteArray := prog_1_method_5_code
def yX10_where : MethodName := ⟨RX10, "where", "()I"⟩
abbrev cX10_about : ByteArray := prog_1_method_6_code
def yX10_about : MethodName := ⟨RX10, "about", "(I)I"⟩
abbrev cX10_number : ByteArray := prog_1_method_7_code
def yX10_number : MethodName := ⟨RX10, "number", "(II)I"⟩
abbrev cX10_sized : ByteArray := prog_1_method_8_code
def yX10_sized : MethodName := ⟨RX10, "sized", "(I)I"⟩
abbrev cX10_greedy : ByteArray := prog_1_method_9_code
def yX10_greedy : MethodName := ⟨RX10, "greedy", "(II)I"⟩
abbrev cX10_greedyOf : ByteArray := prog_1_method_10_code
def yX10_greedyOf : MethodName := ⟨RX10, "greedyOf", "(II)I"⟩
abbrev cX10_difference : ByteArray := prog_1_method_11_code
def yX10_difference : MethodName := ⟨RX10, "difference", "()I"⟩
abbrev cX10_differenceOf : ByteArray := prog_1_method_12_code
def yX10_differenceOf : MethodName := ⟨RX10, "differenceOf", "(I)I"⟩
abbrev cX10_step : ByteArray := prog_1_method_13_code
def yX10_step : MethodName := ⟨RX10, "step", "(II)I"⟩
abbrev cX10_multi : ByteArray := prog_1_method_14_code
def yX10_multi : MethodName := ⟨RX10, "multi", "(I)I"⟩
abbrev cX10_multiOf : ByteArray := prog_1_method_15_code
def yX10_multiOf : MethodName := ⟨RX10, "multiOf", "(II)I"⟩
abbrev cX10_search : ByteArray := prog_1_method_16_code
def yX10_search : MethodName := ⟨RX10, "search", "(I)I"⟩
abbrev cX10_find : ByteArray := prog_1_method_17_code
def yX10_find : MethodName := ⟨RX10, "find", "(II)I"⟩
abbrev cX10_searchOf : ByteArray := prog_1_method_18_code
def yX10_searchOf : MethodName := ⟨RX10, "searchOf", "(I)I"⟩
abbrev cX10_bound : ByteArray := prog_1_method_19_code
def yX10_bound : MethodName := ⟨RX10, "bound", "(I)I"⟩
abbrev cX10_least : ByteArray := prog_1_method_20_code
def yX10_least : MethodName := ⟨RX10, "least", "(II)I"⟩
abbrev cX10_leastOf : ByteArray := prog_1_method_21_code
def yX10_leastOf : MethodName := ⟨RX10, "leastOf", "(II)I"⟩
abbrev cX10_flat : ByteArray := prog_1_method_22_code
def yX10_flat : MethodName := ⟨RX10, "flat", "(I)I"⟩
abbrev cX10_rows : ByteArray := prog_1_method_23_code
def yX10_rows : MethodName := ⟨RX10, "rows", "(I)I"⟩
abbrev cX10_climb : ByteArray := prog_1_method_24_code
def yX10_climb : MethodName := ⟨RX10, "climb", "(II)I"⟩
abbrev cX10_climbOf : ByteArray := prog_1_method_25_code
def yX10_climbOf : MethodName := ⟨RX10, "climbOf", "(II)I"⟩
abbrev cX10_ways : ByteArray := prog_1_method_26_code
def yX10_ways : MethodName := ⟨RX10, "ways", "(I)I"⟩
abbrev cX10_chosen : ByteArray := prog_1_method_27_code
def yX10_chosen : MethodName := ⟨RX10, "chosen", "(I)I"⟩
abbrev cX10_sums : ByteArray := prog_1_method_28_code
def yX10_sums : MethodName := ⟨RX10, "sums", "()I"⟩
abbrev cX10_nearest : ByteArray := prog_1_method_29_code
def yX10_nearest : MethodName := ⟨RX10, "nearest", "(I)I"⟩
abbrev cX10_add : ByteArray := prog_1_method_30_code
def yX10_add : MethodName := ⟨RX10, "add", "(I)I"⟩
abbrev cX10_drop : ByteArray := prog_1_method_31_code
def yX10_drop : MethodName := ⟨RX10, "drop", "(I)I"⟩
abbrev cX10_become : ByteArray := prog_1_method_32_code
def yX10_become : MethodName := ⟨RX10, "become", "(II)I"⟩
abbrev cX10_keepIn : ByteArray := prog_1_method_33_code
def yX10_keepIn : MethodName := ⟨RX10, "keepIn", "(II)I"⟩
abbrev cX10_apart : ByteArray := prog_1_method_34_code
def yX10_apart : MethodName := ⟨RX10, "apart", "(II)I"⟩
abbrev cX10_sort : ByteArray := prog_1_method_35_code
def yX10_sort : MethodName := ⟨RX10, "sort", "()I"⟩
abbrev cX10_heaps : ByteArray := prog_1_method_36_code
def yX10_heaps : MethodName := ⟨RX10, "heaps", "(I)I"⟩
abbrev cX10_undo : ByteArray := prog_1_method_37_code
def yX10_undo : MethodName := ⟨RX10, "undo", "()I"⟩
abbrev cX10_image : ByteArray := prog_1_method_38_code
def yX10_image : MethodName := ⟨RX10, "image", "(I)Z"⟩
abbrev cX10_back : ByteArray := prog_1_method_39_code
def yX10_back : MethodName := ⟨RX10, "back", "(I)Z"⟩
abbrev cX10_write : ByteArray := prog_1_method_40_code
def yX10_write : MethodName := ⟨RX10, "write", "()I"⟩
abbrev cX10_octet : ByteArray := prog_1_method_41_code
def yX10_octet : MethodName := ⟨RX10, "octet", "(I)I"⟩
abbrev cX10_bytes : ByteArray := prog_1_method_42_code
def yX10_bytes : MethodName := ⟨RX10, "bytes", "()I"⟩
abbrev cX10_trouble : ByteArray := prog_1_method_43_code
def yX10_trouble : MethodName := ⟨RX10, "trouble", "()I"⟩
abbrev cX10_refuse : ByteArray := prog_1_method_44_code
def yX10_refuse : MethodName := ⟨RX10, "refuse", "(I)I"⟩
abbrev cX10_refused : ByteArray := prog_1_method_45_code
def yX10_refused : MethodName := ⟨RX10, "refused", "(ZZ)Z"⟩
abbrev cX10_answer : ByteArray := prog_1_method_46_code
def yX10_answer : MethodName := ⟨RX10, "answer", "(I)I"⟩
abbrev cX10_noText : ByteArray := prog_1_method_47_code
def yX10_noText : MethodName := ⟨RX10, "noText", "()Z"⟩
abbrev cX10_noNumber : ByteArray := prog_1_method_48_code
def yX10_noNumber : MethodName := ⟨RX10, "noNumber", "(I)Z"⟩
abbrev cX10_noSuchHeaps : ByteArray := prog_1_method_49_code
def yX10_noSuchHeaps : MethodName := ⟨RX10, "noSuchHeaps", "(I)Z"⟩
abbrev cX10_noSuchValue : ByteArray := prog_1_method_50_code
def yX10_noSuchValue : MethodName := ⟨RX10, "noSuchValue", "(I)Z"⟩
abbrev cX10_noSuchSum : ByteArray := prog_1_method_51_code
def yX10_noSuchSum : MethodName := ⟨RX10, "noSuchSum", "(I)Z"⟩
abbrev cX10_notZeroOrOne : ByteArray := prog_1_method_52_code
def yX10_notZeroOrOne : MethodName := ⟨RX10, "notZeroOrOne", "(I)Z"⟩
abbrev cX10_allRows : ByteArray := prog_1_method_53_code
def yX10_allRows : MethodName := ⟨RX10, "allRows", "(I)LNumberHeaps$Partings;"⟩
abbrev cX10_changed : ByteArray := prog_1_method_54_code
def yX10_changed : MethodName := ⟨RX10, "changed", "()V"⟩
abbrev cX10_putByte : ByteArray := prog_1_method_55_code
def yX10_putByte : MethodName := ⟨RX10, "putByte", "(I)V"⟩
abbrev cX10_putHeap : ByteArray := prog_1_method_56_code
def yX10_putHeap : MethodName := ⟨RX10, "putHeap", "(I[I)V"⟩
abbrev cX10_putNumber : ByteArray := prog_1_method_57_code
def yX10_putNumber : MethodName := ⟨RX10, "putNumber", "(I)V"⟩
abbrev cX10_sideOf : ByteArray := prog_1_method_58_code
def yX10_sideOf : MethodName := ⟨RX10, "sideOf", "(II)I"⟩
abbrev cX10_leastMember : ByteArray := prog_1_method_59_code
def yX10_leastMember : MethodName := ⟨RX10, "leastMember", "(I)I"⟩
abbrev cX10_greatestAmong : ByteArray := prog_1_method_60_code
def yX10_greatestAmong : MethodName := ⟨RX10, "greatestAmong", "([II)I"⟩
abbrev cX10_leastAmong : ByteArray := prog_1_method_61_code
def yX10_leastAmong : MethodName := ⟨RX10, "leastAmong", "([II)I"⟩
def RX11 : String := "NumberHeapsModel"
def TX11 : u_T := fun k => match k with
  | 0 => ("NumberHeapsModel", "thrown", "I", false)
  | 1 => ("NumberHeapsModel", "trouble", "I", false)
  | 2 => ("NumberHeapsModel", "wrongAt", "I", false)
  | 3 => ("NumberHeapsModel", "tape", "[I", true)
  | 4 => ("NumberHeapsModel", "taped", "I", false)
  | 5 => ("NumberHeapsModel", "size", "I", false)
  | 6 => ("NumberHeapsModel", "spot", "I", false)
  | 7 => ("NumberHeapsModel", "fault", "I", false)
  | 8 => ("NumberHeapsModel", "faultAt", "I", false)
  | 9 => ("NumberHeapsModel", "token", "I", false)
  | 10 => ("NumberHeapsModel", "at", "I", false)
  | 11 => ("NumberHeapsModel", "sign", "I", false)
  | 12 => ("NumberHeapsModel", "told", "I", false)
  | 13 => ("NumberHeapsModel", "word", "J", false)
  | 14 => ("NumberHeapsModel", "now", "[I", true)
  | 15 => ("NumberHeapsModel", "read", "[I", true)
  | 16 => ("NumberHeapsModel", "past", "[I", true)
  | 17 => ("NumberHeapsModel", "images", "[I", true)
  | 18 => ("NumberHeapsModel", "kept", "[Z", true)
  | 19 => ("NumberHeapsModel", "hasText", "Z", false)
  | 20 => ("NumberHeapsModel", "hasHeaps", "Z", false)
  | 21 => ("NumberHeapsModel", "acts", "I", false)
  | 22 => ("NumberHeapsModel", "row", "[I", true)
  | 23 => ("NumberHeapsModel", "sum", "[I", true)
  | 24 => ("NumberHeapsModel", "bestRow", "[I", true)
  | 25 => ("NumberHeapsModel", "many", "[I", true)
  | 26 => ("NumberHeapsModel", "worth", "[I", true)
  | 27 => ("NumberHeapsModel", "first", "[I", true)
  | 28 => ("NumberHeapsModel", "second", "[I", true)
  | 29 => ("NumberHeapsModel", "stepA", "[I", true)
  | 30 => ("NumberHeapsModel", "stepB", "[I", true)
  | 31 => ("NumberHeapsModel", "findOf", "[I", true)
  | 32 => ("NumberHeapsModel", "findAt", "[I", true)
  | 33 => ("NumberHeapsModel", "leastLeaf", "I", false)
  | 34 => ("NumberHeapsModel", "visited", "I", false)
  | 35 => ("NumberHeapsModel", "leaves", "I", false)
  | 36 => ("NumberHeapsModel", "finds", "I", false)
  | 37 => ("NumberHeapsModel", "foundSide", "I", false)
  | 38 => ("NumberHeapsModel", "isPerfect", "Z", false)
  | 39 => ("NumberHeapsModel", "partWorth", "[I", true)
  | 40 => ("NumberHeapsModel", "partSet", "[I", true)
  | 41 => ("NumberHeapsModel", "newWorth", "[I", true)
  | 42 => ("NumberHeapsModel", "newSet", "[I", true)
  | 43 => ("NumberHeapsModel", "items", "I", false)
  | 44 => ("NumberHeapsModel", "rowsAllowed", "I", false)
  | 45 => ("NumberHeapsModel", "leastSpread", "I", false)
  | 46 => ("NumberHeapsModel", "leastMany", "I", false)
  | 47 => ("NumberHeapsModel", "leastTop", "I", false)
  | 48 => ("NumberHeapsModel", "sumOf", "[I", true)
  | 49 => ("NumberHeapsModel", "other", "[I", true)
  | 50 => ("NumberHeapsModel", "ink", "[I", true)
  | _ => ("NumberHeapsModel", "inked", "I", false)
def tyX11 : Nat → FieldType := fun k => match k with
  | 0 => .int
  | 1 => .int
  | 2 => .int
  | 3 => .array .int
  | 4 => .int
  | 5 => .int
  | 6 => .int
  | 7 => .int
  | 8 => .int
  | 9 => .int
  | 10 => .int
  | 11 => .int
  | 12 => .int
  | 13 => .long
  | 14 => .array .int
  | 15 => .array .int
  | 16 => .array .int
  | 17 => .array .int
  | 18 => .array .boolean
  | 19 => .boolean
  | 20 => .boolean
  | 21 => .int
  | 22 => .array .int
  | 23 => .array .int
  | 24 => .array .int
  | 25 => .array .int
  | 26 => .array .int
  | 27 => .array .int
  | 28 => .array .int
  | 29 => .array .int
  | 30 => .array .int
  | 31 => .array .int
  | 32 => .array .int
  | 33 => .int
  | 34 => .int
  | 35 => .int
  | 36 => .int
  | 37 => .int
  | 38 => .boolean
  | 39 => .array .int
  | 40 => .array .int
  | 41 => .array .int
  | 42 => .array .int
  | 43 => .int
  | 44 => .int
  | 45 => .int
  | 46 => .int
  | 47 => .int
  | 48 => .array .int
  | 49 => .array .int
  | 50 => .array .int
  | _ => .int
abbrev wsX110 : List Cond := u_ws RX11 TX11 52
theorem nmX11 : ∀ a, a < 52 → ∀ b, b < 52 → a ≠ b → (TX11 a).2.1 ≠ (TX11 b).2.1 := by decide +kernel
theorem tyX11_ok : ∀ k, k < 52 → parseFieldDescriptor (TX11 k).2.2.1 = some (tyX11 k) := by decide +kernel
abbrev cX11_init : ByteArray := prog_13_method_1_code
def yX11_init : MethodName := ⟨RX11, "<init>", "()V"⟩
abbrev cX11_thrown : ByteArray := prog_13_method_2_code
def yX11_thrown : MethodName := ⟨RX11, "thrown", "()I"⟩
abbrev cX11_refused : ByteArray := prog_13_method_3_code
def yX11_refused : MethodName := ⟨RX11, "refused", "(I)I"⟩
abbrev cX11_good : ByteArray := prog_13_method_4_code
def yX11_good : MethodName := ⟨RX11, "good", "(I)I"⟩
abbrev cX11_granted : ByteArray := prog_13_method_5_code
def yX11_granted : MethodName := ⟨RX11, "granted", "(I)Z"⟩
abbrev cX11_in : ByteArray := prog_13_method_6_code
def yX11_in : MethodName := ⟨RX11, "in", "(III)Z"⟩
abbrev cX11_has : ByteArray := prog_13_method_7_code
def yX11_has : MethodName := ⟨RX11, "has", "(II)Z"⟩
abbrev cX11_bits : ByteArray := prog_13_method_8_code
def yX11_bits : MethodName := ⟨RX11, "bits", "(I)I"⟩
abbrev cX11_lowest : ByteArray := prog_13_method_9_code
def yX11_lowest : MethodName := ⟨RX11, "lowest", "(I)I"⟩
abbrev cX11_feed : ByteArray := prog_13_method_10_code
def yX11_feed : MethodName := ⟨RX11, "feed", "(IIIII)I"⟩
abbrev cX11_flaw : ByteArray := prog_13_method_11_code
def yX11_flaw : MethodName := ⟨RX11, "flaw", "(I)V"⟩
abbrev cX11_isLetterAt : ByteArray := prog_13_method_12_code
def yX11_isLetterAt : MethodName := ⟨RX11, "isLetterAt", "(I)Z"⟩
abbrev cX11_isDigitAt : ByteArray := prog_13_method_13_code
def yX11_isDigitAt : MethodName := ⟨RX11, "isDigitAt", "(I)Z"⟩
abbrev cX11_goOn : ByteArray := prog_13_method_14_code
def yX11_goOn : MethodName := ⟨RX11, "goOn", "()V"⟩
abbrev cX11_wordOf : ByteArray := prog_13_method_15_code
def yX11_wordOf : MethodName := ⟨RX11, "wordOf", "(Ljava/lang/String;)J"⟩
abbrev cX11_isWord : ByteArray := prog_13_method_16_code
def yX11_isWord : MethodName := ⟨RX11, "isWord", "(Ljava/lang/String;)Z"⟩
abbrev cX11_isSign : ByteArray := prog_13_method_17_code
def yX11_isSign : MethodName := ⟨RX11, "isSign", "(I)Z"⟩
abbrev cX11_fault : ByteArray := prog_13_method_18_code
def yX11_fault : MethodName := ⟨RX11, "fault", "()I"⟩
abbrev cX11_where : ByteArray := prog_13_method_19_code
def yX11_where : MethodName := ⟨RX11, "where", "()I"⟩
abbrev cX11_whole : ByteArray := prog_13_method_20_code
def yX11_whole : MethodName := ⟨RX11, "whole", "(II)I"⟩
abbrev cX11_readNumbers : ByteArray := prog_13_method_21_code
def yX11_readNumbers : MethodName := ⟨RX11, "readNumbers", "()V"⟩
abbrev cX11_readKeep : ByteArray := prog_13_method_22_code
def yX11_readKeep : MethodName := ⟨RX11, "readKeep", "()V"⟩
abbrev cX11_pairOf : ByteArray := prog_13_method_23_code
def yX11_pairOf : MethodName := ⟨RX11, "pairOf", "([III)I"⟩
abbrev cX11_readApart : ByteArray := prog_13_method_24_code
def yX11_readApart : MethodName := ⟨RX11, "readApart", "()V"⟩
abbrev cX11_readLine : ByteArray := prog_13_method_25_code
def yX11_readLine : MethodName := ⟨RX11, "readLine", "()V"⟩
abbrev cX11_text : ByteArray := prog_13_method_26_code
def yX11_text : MethodName := ⟨RX11, "text", "(I)I"⟩
abbrev cX11_isNumber : ByteArray := prog_13_method_27_code
def yX11_isNumber : MethodName := ⟨RX11, "isNumber", "(I)Z"⟩
abbrev cX11_isK : ByteArray := prog_13_method_28_code
def yX11_isK : MethodName := ⟨RX11, "isK", "(I)Z"⟩
abbrev cX11_value : ByteArray := prog_13_method_29_code
def yX11_value : MethodName := ⟨RX11, "value", "(I)I"⟩
abbrev cX11_total : ByteArray := prog_13_method_30_code
def yX11_total : MethodName := ⟨RX11, "total", "()I"⟩
abbrev cX11_rank : ByteArray := prog_13_method_31_code
def yX11_rank : MethodName := ⟨RX11, "rank", "(I)I"⟩
abbrev cX11_ranked : ByteArray := prog_13_method_32_code
def yX11_ranked : MethodName := ⟨RX11, "ranked", "(I)I"⟩
abbrev cX11_about : ByteArray := prog_13_method_33_code
def yX11_about : MethodName := ⟨RX11, "about", "(I)I"⟩
abbrev cX11_apartFrom : ByteArray := prog_13_method_34_code
def yX11_apartFrom : MethodName := ⟨RX11, "apartFrom", "(I)I"⟩
abbrev cX11_number : ByteArray := prog_13_method_35_code
def yX11_number : MethodName := ⟨RX11, "number", "(II)I"⟩
abbrev cX11_sized : ByteArray := prog_13_method_36_code
def yX11_sized : MethodName := ⟨RX11, "sized", "(I)I"⟩
abbrev cX11_sums0 : ByteArray := prog_13_method_37_code
def yX11_sums0 : MethodName := ⟨RX11, "sums0", "(I)V"⟩
abbrev cX11_spread : ByteArray := prog_13_method_38_code
def yX11_spread : MethodName := ⟨RX11, "spread", "(I)I"⟩
abbrev cX11_top : ByteArray := prog_13_method_39_code
def yX11_top : MethodName := ⟨RX11, "top", "(I)I"⟩
abbrev cX11_fills : ByteArray := prog_13_method_40_code
def yX11_fills : MethodName := ⟨RX11, "fills", "(I)V"⟩
abbrev cX11_greedy : ByteArray := prog_13_method_41_code
def yX11_greedy : MethodName := ⟨RX11, "greedy", "(II)I"⟩
abbrev cX11_greedyOf : ByteArray := prog_13_method_42_code
def yX11_greedyOf : MethodName := ⟨RX11, "greedyOf", "(II)I"⟩
abbrev cX11_isAhead : ByteArray := prog_13_method_43_code
def yX11_isAhead : MethodName := ⟨RX11, "isAhead", "(III)Z"⟩
abbrev cX11_comes : ByteArray := prog_13_method_44_code
def yX11_comes : MethodName := ⟨RX11, "comes", "(IIII)V"⟩
abbrev cX11_begins : ByteArray := prog_13_method_45_code
def yX11_begins : MethodName := ⟨RX11, "begins", "()V"⟩
abbrev cX11_joins : ByteArray := prog_13_method_46_code
def yX11_joins : MethodName := ⟨RX11, "joins", "(IZ)V"⟩
abbrev cX11_differs : ByteArray := prog_13_method_47_code
def yX11_differs : MethodName := ⟨RX11, "differs", "()I"⟩
abbrev cX11_difference : ByteArray := prog_13_method_48_code
def yX11_difference : MethodName := ⟨RX11, "difference", "()I"⟩
abbrev cX11_sideOf : ByteArray := prog_13_method_49_code
def yX11_sideOf : MethodName := ⟨RX11, "sideOf", "(II)I"⟩
abbrev cX11_differenceOf : ByteArray := prog_13_method_50_code
def yX11_differenceOf : MethodName := ⟨RX11, "differenceOf", "(I)I"⟩
abbrev cX11_step : ByteArray := prog_13_method_51_code
def yX11_step : MethodName := ⟨RX11, "step", "(II)I"⟩
abbrev cX11_visits : ByteArray := prog_13_method_52_code
def yX11_visits : MethodName := ⟨RX11, "visits", "(I)V"⟩
abbrev cX11_leaf : ByteArray := prog_13_method_53_code
def yX11_leaf : MethodName := ⟨RX11, "leaf", "(II)V"⟩
abbrev cX11_searches : ByteArray := prog_13_method_54_code
def yX11_searches : MethodName := ⟨RX11, "searches", "()V"⟩
abbrev cX11_search : ByteArray := prog_13_method_55_code
def yX11_search : MethodName := ⟨RX11, "search", "(I)I"⟩
abbrev cX11_find : ByteArray := prog_13_method_56_code
def yX11_find : MethodName := ⟨RX11, "find", "(II)I"⟩
abbrev cX11_searchOf : ByteArray := prog_13_method_57_code
def yX11_searchOf : MethodName := ⟨RX11, "searchOf", "(I)I"⟩
abbrev cX11_setOf : ByteArray := prog_13_method_58_code
def yX11_setOf : MethodName := ⟨RX11, "setOf", "(I)I"⟩
abbrev cX11_width : ByteArray := prog_13_method_59_code
def yX11_width : MethodName := ⟨RX11, "width", "(II)I"⟩
abbrev cX11_places : ByteArray := prog_13_method_60_code
def yX11_places : MethodName := ⟨RX11, "places", "(I)V"⟩
abbrev cX11_isBefore : ByteArray := prog_13_method_61_code
def yX11_isBefore : MethodName := ⟨RX11, "isBefore", "(II)Z"⟩
abbrev cX11_multiplies : ByteArray := prog_13_method_62_code
def yX11_multiplies : MethodName := ⟨RX11, "multiplies", "(I)V"⟩
abbrev cX11_multi : ByteArray := prog_13_method_63_code
def yX11_multi : MethodName := ⟨RX11, "multi", "(I)I"⟩
abbrev cX11_multiOf : ByteArray := prog_13_method_64_code
def yX11_multiOf : MethodName := ⟨RX11, "multiOf", "(II)I"⟩
abbrev cX11_bound : ByteArray := prog_13_method_65_code
def yX11_bound : MethodName := ⟨RX11, "bound", "(I)I"⟩
abbrev cX11_mayLie : ByteArray := prog_13_method_66_code
def yX11_mayLie : MethodName := ⟨RX11, "mayLie", "(II)Z"⟩
abbrev cX11_goes : ByteArray := prog_13_method_67_code
def yX11_goes : MethodName := ⟨RX11, "goes", "(II)V"⟩
abbrev cX11_areRows : ByteArray := prog_13_method_68_code
def yX11_areRows : MethodName := ⟨RX11, "areRows", "(I)Z"⟩
abbrev cX11_least : ByteArray := prog_13_method_69_code
def yX11_least : MethodName := ⟨RX11, "least", "(II)I"⟩
abbrev cX11_leastOf : ByteArray := prog_13_method_70_code
def yX11_leastOf : MethodName := ⟨RX11, "leastOf", "(II)I"⟩
abbrev cX11_flat : ByteArray := prog_13_method_71_code
def yX11_flat : MethodName := ⟨RX11, "flat", "(I)I"⟩
abbrev cX11_rows : ByteArray := prog_13_method_72_code
def yX11_rows : MethodName := ⟨RX11, "rows", "(I)I"⟩
abbrev cX11_spreadNow : ByteArray := prog_13_method_73_code
def yX11_spreadNow : MethodName := ⟨RX11, "spreadNow", "(I)I"⟩
abbrev cX11_climbs : ByteArray := prog_13_method_74_code
def yX11_climbs : MethodName := ⟨RX11, "climbs", "(I)Z"⟩
abbrev cX11_exchanges : ByteArray := prog_13_method_75_code
def yX11_exchanges : MethodName := ⟨RX11, "exchanges", "(II)V"⟩
abbrev cX11_climbsAll : ByteArray := prog_13_method_76_code
def yX11_climbsAll : MethodName := ⟨RX11, "climbsAll", "(I)I"⟩
abbrev cX11_climb : ByteArray := prog_13_method_77_code
def yX11_climb : MethodName := ⟨RX11, "climb", "(II)I"⟩
abbrev cX11_climbOf : ByteArray := prog_13_method_78_code
def yX11_climbOf : MethodName := ⟨RX11, "climbOf", "(II)I"⟩
abbrev cX11_laysSums : ByteArray := prog_13_method_79_code
def yX11_laysSums : MethodName := ⟨RX11, "laysSums", "()I"⟩
abbrev cX11_isSum : ByteArray := prog_13_method_80_code
def yX11_isSum : MethodName := ⟨RX11, "isSum", "(I)Z"⟩
abbrev cX11_ways : ByteArray := prog_13_method_81_code
def yX11_ways : MethodName := ⟨RX11, "ways", "(I)I"⟩
abbrev cX11_chosen : ByteArray := prog_13_method_82_code
def yX11_chosen : MethodName := ⟨RX11, "chosen", "(I)I"⟩
abbrev cX11_isNew : ByteArray := prog_13_method_83_code
def yX11_isNew : MethodName := ⟨RX11, "isNew", "(I)Z"⟩
abbrev cX11_sums : ByteArray := prog_13_method_84_code
def yX11_sums : MethodName := ⟨RX11, "sums", "()I"⟩
abbrev cX11_nearest : ByteArray := prog_13_method_85_code
def yX11_nearest : MethodName := ⟨RX11, "nearest", "(I)I"⟩
abbrev cX11_remembers : ByteArray := prog_13_method_86_code
def yX11_remembers : MethodName := ⟨RX11, "remembers", "()V"⟩
abbrev cX11_add : ByteArray := prog_13_method_87_code
def yX11_add : MethodName := ⟨RX11, "add", "(I)I"⟩
abbrev cX11_parts : ByteArray := prog_13_method_88_code
def yX11_parts : MethodName := ⟨RX11, "parts", "(I)V"⟩
abbrev cX11_drop : ByteArray := prog_13_method_89_code
def yX11_drop : MethodName := ⟨RX11, "drop", "(I)I"⟩
abbrev cX11_changes : ByteArray := prog_13_method_90_code
def yX11_changes : MethodName := ⟨RX11, "changes", "(II)I"⟩
abbrev cX11_become : ByteArray := prog_13_method_91_code
def yX11_become : MethodName := ⟨RX11, "become", "(II)I"⟩
abbrev cX11_keepIn : ByteArray := prog_13_method_92_code
def yX11_keepIn : MethodName := ⟨RX11, "keepIn", "(II)I"⟩
abbrev cX11_apart : ByteArray := prog_13_method_93_code
def yX11_apart : MethodName := ⟨RX11, "apart", "(II)I"⟩
abbrev cX11_sort : ByteArray := prog_13_method_94_code
def yX11_sort : MethodName := ⟨RX11, "sort", "()I"⟩
abbrev cX11_heaps : ByteArray := prog_13_method_95_code
def yX11_heaps : MethodName := ⟨RX11, "heaps", "(I)I"⟩
abbrev cX11_undo : ByteArray := prog_13_method_96_code
def yX11_undo : MethodName := ⟨RX11, "undo", "()I"⟩
abbrev cX11_image : ByteArray := prog_13_method_97_code
def yX11_image : MethodName := ⟨RX11, "image", "(I)Z"⟩
abbrev cX11_back : ByteArray := prog_13_method_98_code
def yX11_back : MethodName := ⟨RX11, "back", "(I)Z"⟩
abbrev cX11_writes : ByteArray := prog_13_method_99_code
def yX11_writes : MethodName := ⟨RX11, "writes", "(I)V"⟩
abbrev cX11_writesNumber : ByteArray := prog_13_method_100_code
def yX11_writesNumber : MethodName := ⟨RX11, "writesNumber", "(I)V"⟩
abbrev cX11_write : ByteArray := prog_13_method_101_code
def yX11_write : MethodName := ⟨RX11, "write", "()I"⟩
abbrev cX11_octet : ByteArray := prog_13_method_102_code
def yX11_octet : MethodName := ⟨RX11, "octet", "(I)I"⟩
abbrev cX11_bytes : ByteArray := prog_13_method_103_code
def yX11_bytes : MethodName := ⟨RX11, "bytes", "()I"⟩
abbrev cX11_trouble : ByteArray := prog_13_method_104_code
def yX11_trouble : MethodName := ⟨RX11, "trouble", "()I"⟩
def RJx145de : String := "java/io/Serializable"
def TJx145de : u_T := fun k => match k with
  | _ => ("", "", "", false)
def tyJx145de : Nat → FieldType := fun k => match k with
  | _ => .int
abbrev wsJx145de0 : List Cond := u_ws RJx145de TJx145de 0
theorem nmJx145de : ∀ a, a < 0 → ∀ b, b < 0 → a ≠ b → (TJx145de a).2.1 ≠ (TJx145de b).2.1 := by decide +kernel
theorem tyJx145de_ok : ∀ k, k < 0 → parseFieldDescriptor (TJx145de k).2.2.1 = some (tyJx145de k) := by decide +kernel
def RJx9f9b0 : String := "java/lang/CharSequence"
def TJx9f9b0 : u_T := fun k => match k with
  | _ => ("", "", "", false)
def tyJx9f9b0 : Nat → FieldType := fun k => match k with
  | _ => .int
abbrev wsJx9f9b00 : List Cond := u_ws RJx9f9b0 TJx9f9b0 0
theorem nmJx9f9b0 : ∀ a, a < 0 → ∀ b, b < 0 → a ≠ b → (TJx9f9b0 a).2.1 ≠ (TJx9f9b0 b).2.1 := by decide +kernel
theorem tyJx9f9b0_ok : ∀ k, k < 0 → parseFieldDescriptor (TJx9f9b0 k).2.2.1 = some (tyJx9f9b0 k) := by decide +kernel
def RJxb160c : String := "java/lang/Comparable"
def TJxb160c : u_T := fun k => match k with
  | _ => ("", "", "", false)
def tyJxb160c : Nat → FieldType := fun k => match k with
  | _ => .int
abbrev wsJxb160c0 : List Cond := u_ws RJxb160c TJxb160c 0
theorem nmJxb160c : ∀ a, a < 0 → ∀ b, b < 0 → a ≠ b → (TJxb160c a).2.1 ≠ (TJxb160c b).2.1 := by decide +kernel
theorem tyJxb160c_ok : ∀ k, k < 0 → parseFieldDescriptor (TJxb160c k).2.2.1 = some (tyJxb160c k) := by decide +kernel
def RJ6 : String := "java/lang/Integer"
def TJ6 : u_T := fun k => match k with
  | _ => ("", "", "", false)
def tyJ6 : Nat → FieldType := fun k => match k with
  | _ => .int
abbrev wsJ60 : List Cond := u_ws RJ6 TJ6 0
theorem nmJ6 : ∀ a, a < 0 → ∀ b, b < 0 → a ≠ b → (TJ6 a).2.1 ≠ (TJ6 b).2.1 := by decide +kernel
theorem tyJ6_ok : ∀ k, k < 0 → parseFieldDescriptor (TJ6 k).2.2.1 = some (tyJ6 k) := by decide +kernel
abbrev cJ6_bitCount_0f7a4 : ByteArray := prog_18_method_49_code
def yJ6_bitCount_0f7a4 : MethodName := ⟨RJ6, "bitCount", "(I)I"⟩
def RJ9 : String := "java/lang/Math"
def TJ9 : u_T := fun k => match k with
  | _ => ("", "", "", false)
def tyJ9 : Nat → FieldType := fun k => match k with
  | _ => .int
abbrev wsJ90 : List Cond := u_ws RJ9 TJ9 0
theorem nmJ9 : ∀ a, a < 0 → ∀ b, b < 0 → a ≠ b → (TJ9 a).2.1 ≠ (TJ9 b).2.1 := by decide +kernel
theorem tyJ9_ok : ∀ k, k < 0 → parseFieldDescriptor (TJ9 k).2.2.1 = some (tyJ9 k) := by decide +kernel
abbrev cJ9_max_7cf53 : ByteArray := prog_19_method_65_code
def yJ9_max_7cf53 : MethodName := ⟨RJ9, "max", "(II)I"⟩
abbrev cJ9_min_7cf53 : ByteArray := prog_19_method_69_code
def yJ9_min_7cf53 : MethodName := ⟨RJ9, "min", "(II)I"⟩
def RJ0 : String := "java/lang/String"
def TJ0 : u_T := fun k => match k with
  | _ => ("", "", "", false)
def tyJ0 : Nat → FieldType := fun k => match k with
  | _ => .int
abbrev wsJ00 : List Cond := u_ws RJ0 TJ0 0
theorem nmJ0 : ∀ a, a < 0 → ∀ b, b < 0 → a ≠ b → (TJ0 a).2.1 ≠ (TJ0 b).2.1 := by decide +kernel
theorem tyJ0_ok : ∀ k, k < 0 → parseFieldDescriptor (TJ0 k).2.2.1 = some (tyJ0 k) := by decide +kernel
abbrev cJ0_length_8abf5 : ByteArray := prog_21_method_54_code
def yJ0_length_8abf5 : MethodName := ⟨RJ0, "length", "()I"⟩
abbrev cJ0_charAt_5068e : ByteArray := prog_21_method_56_code
def yJ0_charAt_5068e : MethodName := ⟨RJ0, "charAt", "(I)C"⟩
abbrev cJ0_coder_7d493 : ByteArray := prog_21_method_152_code
def yJ0_coder_7d493 : MethodName := ⟨RJ0, "coder", "()B"⟩
abbrev cJ0_isLatin1_aae02 : ByteArray := prog_21_method_154_code
def yJ0_isLatin1_aae02 : MethodName := ⟨RJ0, "isLatin1", "()Z"⟩
abbrev cJ0_checkIndex_df160 : ByteArray := prog_21_method_155_code
def yJ0_checkIndex_df160 : MethodName := ⟨RJ0, "checkIndex", "(II)V"⟩
def RJ1 : String := "java/lang/StringLatin1"
def TJ1 : u_T := fun k => match k with
  | _ => ("", "", "", false)
def tyJ1 : Nat → FieldType := fun k => match k with
  | _ => .int
abbrev wsJ10 : List Cond := u_ws RJ1 TJ1 0
theorem nmJ1 : ∀ a, a < 0 → ∀ b, b < 0 → a ≠ b → (TJ1 a).2.1 ≠ (TJ1 b).2.1 := by decide +kernel
theorem tyJ1_ok : ∀ k, k < 0 → parseFieldDescriptor (TJ1 k).2.2.1 = some (tyJ1 k) := by decide +kernel
abbrev cJ1_charAt_3b067 : ByteArray := prog_22_method_2_code
def yJ1_charAt_3b067 : MethodName := ⟨RJ1, "charAt", "([BI)C"⟩
def RJ2 : String := "java/lang/StringUTF16"
def TJ2 : u_T := fun k => match k with
  | _ => ("", "", "", false)
def tyJ2 : Nat → FieldType := fun k => match k with
  | _ => .int
abbrev wsJ20 : List Cond := u_ws RJ2 TJ2 0
theorem nmJ2 : ∀ a, a < 0 → ∀ b, b < 0 → a ≠ b → (TJ2 a).2.1 ≠ (TJ2 b).2.1 := by decide +kernel
theorem tyJ2_ok : ∀ k, k < 0 → parseFieldDescriptor (TJ2 k).2.2.1 = some (tyJ2 k) := by decide +kernel
abbrev cJ2_getChar_3b067 : ByteArray := prog_23_method_5_code
def yJ2_getChar_3b067 : MethodName := ⟨RJ2, "getChar", "([BI)C"⟩
abbrev cJ2_length_9d52b : ByteArray := prog_23_method_6_code
def yJ2_length_9d52b : MethodName := ⟨RJ2, "length", "([B)I"⟩
abbrev cJ2_charAt_3b067 : ByteArray := prog_23_method_83_code
def yJ2_charAt_3b067 : MethodName := ⟨RJ2, "charAt", "([BI)C"⟩
abbrev cJ2_checkIndex_2214a : ByteArray := prog_23_method_91_code
def yJ2_checkIndex_2214a : MethodName := ⟨RJ2, "checkIndex", "(I[B)V"⟩
def RJ10 : String := "java/lang/System"
def TJ10 : u_T := fun k => match k with
  | _ => ("", "", "", false)
def tyJ10 : Nat → FieldType := fun k => match k with
  | _ => .int
abbrev wsJ100 : List Cond := u_ws RJ10 TJ10 0
theorem nmJ10 : ∀ a, a < 0 → ∀ b, b < 0 → a ≠ b → (TJ10 a).2.1 ≠ (TJ10 b).2.1 := by decide +kernel
theorem tyJ10_ok : ∀ k, k < 0 → parseFieldDescriptor (TJ10 k).2.2.1 = some (tyJ10 k) := by decide +kernel
def RJxfd54e : String := "java/lang/constant/Constable"
def TJxfd54e : u_T := fun k => match k with
  | _ => ("", "", "", false)
def tyJxfd54e : Nat → FieldType := fun k => match k with
  | _ => .int
abbrev wsJxfd54e0 : List Cond := u_ws RJxfd54e TJxfd54e 0
theorem nmJxfd54e : ∀ a, a < 0 → ∀ b, b < 0 → a ≠ b → (TJxfd54e a).2.1 ≠ (TJxfd54e b).2.1 := by decide +kernel
theorem tyJxfd54e_ok : ∀ k, k < 0 → parseFieldDescriptor (TJxfd54e k).2.2.1 = some (tyJxfd54e k) := by decide +kernel
def RJx3cf43 : String := "java/lang/constant/ConstantDesc"
def TJx3cf43 : u_T := fun k => match k with
  | _ => ("", "", "", false)
def tyJx3cf43 : Nat → FieldType := fun k => match k with
  | _ => .int
abbrev wsJx3cf430 : List Cond := u_ws RJx3cf43 TJx3cf43 0
theorem nmJx3cf43 : ∀ a, a < 0 → ∀ b, b < 0 → a ≠ b → (TJx3cf43 a).2.1 ≠ (TJx3cf43 b).2.1 := by decide +kernel
theorem tyJx3cf43_ok : ∀ k, k < 0 → parseFieldDescriptor (TJx3cf43 k).2.2.1 = some (tyJx3cf43 k) := by decide +kernel
def RJ3 : String := "jdk/internal/util/Preconditions"
def TJ3 : u_T := fun k => match k with
  | _ => ("", "", "", false)
def tyJ3 : Nat → FieldType := fun k => match k with
  | _ => .int
abbrev wsJ30 : List Cond := u_ws RJ3 TJ3 0
theorem nmJ3 : ∀ a, a < 0 → ∀ b, b < 0 → a ≠ b → (TJ3 a).2.1 ≠ (TJ3 b).2.1 := by decide +kernel
theorem tyJ3_ok : ∀ k, k < 0 → parseFieldDescriptor (TJ3 k).2.2.1 = some (tyJ3 k) := by decide +kernel
abbrev cJ3_checkIndex_8e157 : ByteArray := prog_29_method_11_code
def yJ3_checkIndex_8e157 : MethodName := ⟨RJ3, "checkIndex", "(IILjava/util/function/BiFunction;)I"⟩
def RL : String := "NumberHeapsLaw"
abbrev cL_octet : ByteArray := method_3_code
def yL_octet : MethodName := ⟨RL, "octet", "(LNumberHeaps;I[J)I"⟩
abbrev cL_law : ByteArray := code
def yL_law : MethodName := ⟨RL, "law", "([I)Z"⟩
abbrev vwCl : List vw_C := [(RX0, TX0, 3), (RX1, TX1, 8), (RX2, TX2, 4), (RX3, TX3, 4), (RX4, TX4, 6), (RX5, TX5, 13), (RX6, TX6, 10), (RX7, TX7, 11), (RX8, TX8, 4), (RX9, TX9, 6), (RX10, TX10, 15), (RX11, TX11, 52)]
