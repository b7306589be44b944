section
-- ===== PART A: goes FIRST, ahead of the names: the tables' words, and 'selects' of the private methods out of them =====
/-- a private method of a class that the tables say can be made, by its rows of tables_1 -/
def lw_okq (q : MethodName × Nat) : Prop := (q.1.cls ≠ "java/lang/invoke/MethodHandle" ∧ q.1.cls ≠ "java/lang/invoke/VarHandle") ∧ Cond.instantiable q.1.cls q.2 ∈ tables_1 ∧ Cond.privateMethod q.1 ∈ tables_1 ∧ Cond.instanceMethod q.1 ∈ tables_1
theorem lw_p0 : lw_okq (⟨"ChipGame$Graph", "countJoining", "(III)V"⟩, 8) := ⟨⟨by decide +kernel, by decide +kernel⟩, List.mem_of_getElem? (i := 28) (by decide +kernel), List.mem_of_getElem? (i := 244) (by decide +kernel), List.mem_of_getElem? (i := 245) (by decide +kernel)⟩
theorem lw_p1 : lw_okq (⟨"ChipGame", "startAnew", "(I)V"⟩, 12) := ⟨⟨by decide +kernel, by decide +kernel⟩, List.mem_of_getElem? (i := 20) (by decide +kernel), List.mem_of_getElem? (i := 289) (by decide +kernel), List.mem_of_getElem? (i := 290) (by decide +kernel)⟩
theorem lw_p2 : lw_okq (⟨"ChipGame", "forgetStates", "()V"⟩, 12) := ⟨⟨by decide +kernel, by decide +kernel⟩, List.mem_of_getElem? (i := 20) (by decide +kernel), List.mem_of_getElem? (i := 296) (by decide +kernel), List.mem_of_getElem? (i := 297) (by decide +kernel)⟩
theorem lw_p3 : lw_okq (⟨"ChipGame$Text", "isNameAndSign", "(Ljava/lang/String;)Z"⟩, 2) := ⟨⟨by decide +kernel, by decide +kernel⟩, List.mem_of_getElem? (i := 87) (by decide +kernel), List.mem_of_getElem? (i := 359) (by decide +kernel), List.mem_of_getElem? (i := 360) (by decide +kernel)⟩
theorem lw_p4 : lw_okq (⟨"ChipGame$Graph", "relabel", "(II)V"⟩, 8) := ⟨⟨by decide +kernel, by decide +kernel⟩, List.mem_of_getElem? (i := 28) (by decide +kernel), List.mem_of_getElem? (i := 449) (by decide +kernel), List.mem_of_getElem? (i := 450) (by decide +kernel)⟩
theorem lw_p5 : lw_okq (⟨"ChipGame$Firing", "giveAlong", "([IIII)V"⟩, 3) := ⟨⟨by decide +kernel, by decide +kernel⟩, List.mem_of_getElem? (i := 152) (by decide +kernel), List.mem_of_getElem? (i := 507) (by decide +kernel), List.mem_of_getElem? (i := 508) (by decide +kernel)⟩
theorem lw_p6 : lw_okq (⟨"ChipGame$Firing", "fireWhilePossible", "([II)I"⟩, 3) := ⟨⟨by decide +kernel, by decide +kernel⟩, List.mem_of_getElem? (i := 152) (by decide +kernel), List.mem_of_getElem? (i := 521) (by decide +kernel), List.mem_of_getElem? (i := 522) (by decide +kernel)⟩
theorem lw_p7 : lw_okq (⟨"ChipGame$Burning", "spreadFire", "()Z"⟩, 3) := ⟨⟨by decide +kernel, by decide +kernel⟩, List.mem_of_getElem? (i := 135) (by decide +kernel), List.mem_of_getElem? (i := 544) (by decide +kernel), List.mem_of_getElem? (i := 545) (by decide +kernel)⟩
theorem lw_p8 : lw_okq (⟨"ChipGame$Burning", "burnRound", "(I)I"⟩, 3) := ⟨⟨by decide +kernel, by decide +kernel⟩, List.mem_of_getElem? (i := 135) (by decide +kernel), List.mem_of_getElem? (i := 548) (by decide +kernel), List.mem_of_getElem? (i := 549) (by decide +kernel)⟩
theorem lw_p9 : lw_okq (⟨"ChipGame$Burning", "edgesToBurnt", "(II)I"⟩, 3) := ⟨⟨by decide +kernel, by decide +kernel⟩, List.mem_of_getElem? (i := 135) (by decide +kernel), List.mem_of_getElem? (i := 552) (by decide +kernel), List.mem_of_getElem? (i := 553) (by decide +kernel)⟩
theorem lw_p10 : lw_okq (⟨"ChipGame$Firing", "fireUnburnt", "([I)V"⟩, 3) := ⟨⟨by decide +kernel, by decide +kernel⟩, List.mem_of_getElem? (i := 152) (by decide +kernel), List.mem_of_getElem? (i := 556) (by decide +kernel), List.mem_of_getElem? (i := 557) (by decide +kernel)⟩
theorem lw_p11 : lw_okq (⟨"ChipGame$Firing", "mirror", "([I)V"⟩, 3) := ⟨⟨by decide +kernel, by decide +kernel⟩, List.mem_of_getElem? (i := 152) (by decide +kernel), List.mem_of_getElem? (i := 574) (by decide +kernel), List.mem_of_getElem? (i := 575) (by decide +kernel)⟩
theorem lw_p12 : lw_okq (⟨"ChipGame", "isRecurrent", "()Z"⟩, 12) := ⟨⟨by decide +kernel, by decide +kernel⟩, List.mem_of_getElem? (i := 20) (by decide +kernel), List.mem_of_getElem? (i := 590) (by decide +kernel), List.mem_of_getElem? (i := 591) (by decide +kernel)⟩
theorem lw_p13 : lw_okq (⟨"ChipGame$Matrix", "isFree", "(I)Z"⟩, 5) := ⟨⟨by decide +kernel, by decide +kernel⟩, List.mem_of_getElem? (i := 169) (by decide +kernel), List.mem_of_getElem? (i := 660) (by decide +kernel), List.mem_of_getElem? (i := 661) (by decide +kernel)⟩
theorem lw_p14 : lw_okq (⟨"ChipGame$Matrix", "fillEdge", "(II)V"⟩, 5) := ⟨⟨by decide +kernel, by decide +kernel⟩, List.mem_of_getElem? (i := 169) (by decide +kernel), List.mem_of_getElem? (i := 665) (by decide +kernel), List.mem_of_getElem? (i := 666) (by decide +kernel)⟩
theorem lw_p15 : lw_okq (⟨"ChipGame$Matrix", "combineRows", "(IIJ)V"⟩, 5) := ⟨⟨by decide +kernel, by decide +kernel⟩, List.mem_of_getElem? (i := 169) (by decide +kernel), List.mem_of_getElem? (i := 673) (by decide +kernel), List.mem_of_getElem? (i := 674) (by decide +kernel)⟩
def lw_privs_1 : List (MethodName × Nat) := [(⟨"ChipGame$Graph", "countJoining", "(III)V"⟩, 8), (⟨"ChipGame", "startAnew", "(I)V"⟩, 12), (⟨"ChipGame", "forgetStates", "()V"⟩, 12), (⟨"ChipGame$Text", "isNameAndSign", "(Ljava/lang/String;)Z"⟩, 2), (⟨"ChipGame$Graph", "relabel", "(II)V"⟩, 8), (⟨"ChipGame$Firing", "giveAlong", "([IIII)V"⟩, 3), (⟨"ChipGame$Firing", "fireWhilePossible", "([II)I"⟩, 3), (⟨"ChipGame$Burning", "spreadFire", "()Z"⟩, 3), (⟨"ChipGame$Burning", "burnRound", "(I)I"⟩, 3), (⟨"ChipGame$Burning", "edgesToBurnt", "(II)I"⟩, 3), (⟨"ChipGame$Firing", "fireUnburnt", "([I)V"⟩, 3), (⟨"ChipGame$Firing", "mirror", "([I)V"⟩, 3), (⟨"ChipGame", "isRecurrent", "()Z"⟩, 12), (⟨"ChipGame$Matrix", "isFree", "(I)Z"⟩, 5), (⟨"ChipGame$Matrix", "fillEdge", "(II)V"⟩, 5), (⟨"ChipGame$Matrix", "combineRows", "(IIJ)V"⟩, 5)]
theorem lw_r1 : ∀ q ∈ lw_privs_1, lw_okq q := List.forall_mem_cons.mpr ⟨lw_p0, List.forall_mem_cons.mpr ⟨lw_p1, List.forall_mem_cons.mpr ⟨lw_p2, List.forall_mem_cons.mpr ⟨lw_p3, List.forall_mem_cons.mpr ⟨lw_p4, List.forall_mem_cons.mpr ⟨lw_p5, List.forall_mem_cons.mpr ⟨lw_p6, List.forall_mem_cons.mpr ⟨lw_p7, List.forall_mem_cons.mpr ⟨lw_p8, List.forall_mem_cons.mpr ⟨lw_p9, List.forall_mem_cons.mpr ⟨lw_p10, List.forall_mem_cons.mpr ⟨lw_p11, List.forall_mem_cons.mpr ⟨lw_p12, List.forall_mem_cons.mpr ⟨lw_p13, List.forall_mem_cons.mpr ⟨lw_p14, List.forall_mem_cons.mpr ⟨lw_p15, fun _ h => absurd h List.not_mem_nil⟩⟩⟩⟩⟩⟩⟩⟩⟩⟩⟩⟩⟩⟩⟩⟩
theorem lw_p16 : lw_okq (⟨"ChipGame$Matrix", "fillWhole", "()V"⟩, 5) := ⟨⟨by decide +kernel, by decide +kernel⟩, List.mem_of_getElem? (i := 169) (by decide +kernel), List.mem_of_getElem? (i := 689) (by decide +kernel), List.mem_of_getElem? (i := 690) (by decide +kernel)⟩
theorem lw_p17 : lw_okq (⟨"ChipGame$Matrix", "clearAround", "(IJ)V"⟩, 5) := ⟨⟨by decide +kernel, by decide +kernel⟩, List.mem_of_getElem? (i := 169) (by decide +kernel), List.mem_of_getElem? (i := 715) (by decide +kernel), List.mem_of_getElem? (i := 716) (by decide +kernel)⟩
theorem lw_p18 : lw_okq (⟨"ChipGame$Matrix", "bringLeastToCorner", "(I)Z"⟩, 5) := ⟨⟨by decide +kernel, by decide +kernel⟩, List.mem_of_getElem? (i := 169) (by decide +kernel), List.mem_of_getElem? (i := 719) (by decide +kernel), List.mem_of_getElem? (i := 720) (by decide +kernel)⟩
theorem lw_p19 : lw_okq (⟨"ChipGame$Matrix", "swapRows", "(II)V"⟩, 5) := ⟨⟨by decide +kernel, by decide +kernel⟩, List.mem_of_getElem? (i := 169) (by decide +kernel), List.mem_of_getElem? (i := 723) (by decide +kernel), List.mem_of_getElem? (i := 724) (by decide +kernel)⟩
theorem lw_p20 : lw_okq (⟨"ChipGame$Matrix", "swapColumns", "(II)V"⟩, 5) := ⟨⟨by decide +kernel, by decide +kernel⟩, List.mem_of_getElem? (i := 169) (by decide +kernel), List.mem_of_getElem? (i := 727) (by decide +kernel), List.mem_of_getElem? (i := 728) (by decide +kernel)⟩
theorem lw_p21 : lw_okq (⟨"ChipGame$Matrix", "clearColumn", "(IJ)Z"⟩, 5) := ⟨⟨by decide +kernel, by decide +kernel⟩, List.mem_of_getElem? (i := 169) (by decide +kernel), List.mem_of_getElem? (i := 731) (by decide +kernel), List.mem_of_getElem? (i := 732) (by decide +kernel)⟩
theorem lw_p22 : lw_okq (⟨"ChipGame$Matrix", "addRow", "(IIJJ)V"⟩, 5) := ⟨⟨by decide +kernel, by decide +kernel⟩, List.mem_of_getElem? (i := 169) (by decide +kernel), List.mem_of_getElem? (i := 735) (by decide +kernel), List.mem_of_getElem? (i := 736) (by decide +kernel)⟩
theorem lw_p23 : lw_okq (⟨"ChipGame$Matrix", "clearRow", "(IJ)Z"⟩, 5) := ⟨⟨by decide +kernel, by decide +kernel⟩, List.mem_of_getElem? (i := 169) (by decide +kernel), List.mem_of_getElem? (i := 739) (by decide +kernel), List.mem_of_getElem? (i := 740) (by decide +kernel)⟩
theorem lw_p24 : lw_okq (⟨"ChipGame$Matrix", "addColumn", "(IIJJ)V"⟩, 5) := ⟨⟨by decide +kernel, by decide +kernel⟩, List.mem_of_getElem? (i := 169) (by decide +kernel), List.mem_of_getElem? (i := 743) (by decide +kernel), List.mem_of_getElem? (i := 744) (by decide +kernel)⟩
theorem lw_p25 : lw_okq (⟨"ChipGame$Matrix", "addUndividedRow", "(IJ)Z"⟩, 5) := ⟨⟨by decide +kernel, by decide +kernel⟩, List.mem_of_getElem? (i := 169) (by decide +kernel), List.mem_of_getElem? (i := 747) (by decide +kernel), List.mem_of_getElem? (i := 748) (by decide +kernel)⟩
theorem lw_p26 : lw_okq (⟨"ChipGame$Levels", "countEdgesInside", "()V"⟩, 4) := ⟨⟨by decide +kernel, by decide +kernel⟩, List.mem_of_getElem? (i := 212) (by decide +kernel), List.mem_of_getElem? (i := 763) (by decide +kernel), List.mem_of_getElem? (i := 764) (by decide +kernel)⟩
theorem lw_p27 : lw_okq (⟨"ChipGame$Levels", "sumConnected", "(I)V"⟩, 4) := ⟨⟨by decide +kernel, by decide +kernel⟩, List.mem_of_getElem? (i := 212) (by decide +kernel), List.mem_of_getElem? (i := 767) (by decide +kernel), List.mem_of_getElem? (i := 768) (by decide +kernel)⟩
theorem lw_p28 : lw_okq (⟨"ChipGame$Levels", "divideByYMinusOne", "()V"⟩, 4) := ⟨⟨by decide +kernel, by decide +kernel⟩, List.mem_of_getElem? (i := 212) (by decide +kernel), List.mem_of_getElem? (i := 774) (by decide +kernel), List.mem_of_getElem? (i := 775) (by decide +kernel)⟩
theorem lw_p29 : lw_okq (⟨"ChipGame$Trees", "lowestBorderEdge", "(II)I"⟩, 3) := ⟨⟨by decide +kernel, by decide +kernel⟩, List.mem_of_getElem? (i := 196) (by decide +kernel), List.mem_of_getElem? (i := 787) (by decide +kernel), List.mem_of_getElem? (i := 788) (by decide +kernel)⟩
theorem lw_p30 : lw_okq (⟨"ChipGame$Trees", "unmarkedEnd", "(II)I"⟩, 3) := ⟨⟨by decide +kernel, by decide +kernel⟩, List.mem_of_getElem? (i := 196) (by decide +kernel), List.mem_of_getElem? (i := 795) (by decide +kernel), List.mem_of_getElem? (i := 796) (by decide +kernel)⟩
theorem lw_p31 : lw_okq (⟨"ChipGameModel", "begin", "(I)V"⟩, 24) := ⟨⟨by decide +kernel, by decide +kernel⟩, List.mem_of_getElem? (i := 827) (by decide +kernel), List.mem_of_getElem? (i := 833) (by decide +kernel), List.mem_of_getElem? (i := 834) (by decide +kernel)⟩
def lw_privs_2 : List (MethodName × Nat) := [(⟨"ChipGame$Matrix", "fillWhole", "()V"⟩, 5), (⟨"ChipGame$Matrix", "clearAround", "(IJ)V"⟩, 5), (⟨"ChipGame$Matrix", "bringLeastToCorner", "(I)Z"⟩, 5), (⟨"ChipGame$Matrix", "swapRows", "(II)V"⟩, 5), (⟨"ChipGame$Matrix", "swapColumns", "(II)V"⟩, 5), (⟨"ChipGame$Matrix", "clearColumn", "(IJ)Z"⟩, 5), (⟨"ChipGame$Matrix", "addRow", "(IIJJ)V"⟩, 5), (⟨"ChipGame$Matrix", "clearRow", "(IJ)Z"⟩, 5), (⟨"ChipGame$Matrix", "addColumn", "(IIJJ)V"⟩, 5), (⟨"ChipGame$Matrix", "addUndividedRow", "(IJ)Z"⟩, 5), (⟨"ChipGame$Levels", "countEdgesInside", "()V"⟩, 4), (⟨"ChipGame$Levels", "sumConnected", "(I)V"⟩, 4), (⟨"ChipGame$Levels", "divideByYMinusOne", "()V"⟩, 4), (⟨"ChipGame$Trees", "lowestBorderEdge", "(II)I"⟩, 3), (⟨"ChipGame$Trees", "unmarkedEnd", "(II)I"⟩, 3), (⟨"ChipGameModel", "begin", "(I)V"⟩, 24)]
theorem lw_r2 : ∀ q ∈ lw_privs_2, lw_okq q := List.forall_mem_cons.mpr ⟨lw_p16, List.forall_mem_cons.mpr ⟨lw_p17, List.forall_mem_cons.mpr ⟨lw_p18, List.forall_mem_cons.mpr ⟨lw_p19, List.forall_mem_cons.mpr ⟨lw_p20, List.forall_mem_cons.mpr ⟨lw_p21, List.forall_mem_cons.mpr ⟨lw_p22, List.forall_mem_cons.mpr ⟨lw_p23, List.forall_mem_cons.mpr ⟨lw_p24, List.forall_mem_cons.mpr ⟨lw_p25, List.forall_mem_cons.mpr ⟨lw_p26, List.forall_mem_cons.mpr ⟨lw_p27, List.forall_mem_cons.mpr ⟨lw_p28, List.forall_mem_cons.mpr ⟨lw_p29, List.forall_mem_cons.mpr ⟨lw_p30, List.forall_mem_cons.mpr ⟨lw_p31, fun _ h => absurd h List.not_mem_nil⟩⟩⟩⟩⟩⟩⟩⟩⟩⟩⟩⟩⟩⟩⟩⟩
theorem lw_p32 : lw_okq (⟨"ChipGameModel", "changed", "()V"⟩, 24) := ⟨⟨by decide +kernel, by decide +kernel⟩, List.mem_of_getElem? (i := 827) (by decide +kernel), List.mem_of_getElem? (i := 837) (by decide +kernel), List.mem_of_getElem? (i := 838) (by decide +kernel)⟩
theorem lw_p33 : lw_okq (⟨"ChipGameModel", "join", "(II)V"⟩, 24) := ⟨⟨by decide +kernel, by decide +kernel⟩, List.mem_of_getElem? (i := 827) (by decide +kernel), List.mem_of_getElem? (i := 841) (by decide +kernel), List.mem_of_getElem? (i := 842) (by decide +kernel)⟩
theorem lw_p34 : lw_okq (⟨"ChipGameModel", "isNode", "(I)Z"⟩, 24) := ⟨⟨by decide +kernel, by decide +kernel⟩, List.mem_of_getElem? (i := 827) (by decide +kernel), List.mem_of_getElem? (i := 929) (by decide +kernel), List.mem_of_getElem? (i := 930) (by decide +kernel)⟩
theorem lw_p35 : lw_okq (⟨"ChipGameModel", "isNamed", "(I)Z"⟩, 24) := ⟨⟨by decide +kernel, by decide +kernel⟩, List.mem_of_getElem? (i := 827) (by decide +kernel), List.mem_of_getElem? (i := 953) (by decide +kernel), List.mem_of_getElem? (i := 954) (by decide +kernel)⟩
theorem lw_p36 : lw_okq (⟨"ChipGameModel", "begins", "(CCCC)Z"⟩, 24) := ⟨⟨by decide +kernel, by decide +kernel⟩, List.mem_of_getElem? (i := 827) (by decide +kernel), List.mem_of_getElem? (i := 957) (by decide +kernel), List.mem_of_getElem? (i := 958) (by decide +kernel)⟩
theorem lw_p37 : lw_okq (⟨"ChipGameModel", "isAt", "(IC)Z"⟩, 24) := ⟨⟨by decide +kernel, by decide +kernel⟩, List.mem_of_getElem? (i := 827) (by decide +kernel), List.mem_of_getElem? (i := 961) (by decide +kernel), List.mem_of_getElem? (i := 962) (by decide +kernel)⟩
theorem lw_p38 : lw_okq (⟨"ChipGameModel", "isConnected", "()Z"⟩, 24) := ⟨⟨by decide +kernel, by decide +kernel⟩, List.mem_of_getElem? (i := 827) (by decide +kernel), List.mem_of_getElem? (i := 969) (by decide +kernel), List.mem_of_getElem? (i := 970) (by decide +kernel)⟩
theorem lw_p39 : lw_okq (⟨"ChipGameModel", "sum", "()I"⟩, 24) := ⟨⟨by decide +kernel, by decide +kernel⟩, List.mem_of_getElem? (i := 827) (by decide +kernel), List.mem_of_getElem? (i := 973) (by decide +kernel), List.mem_of_getElem? (i := 974) (by decide +kernel)⟩
theorem lw_p40 : lw_okq (⟨"ChipGameModel", "inner", "()I"⟩, 24) := ⟨⟨by decide +kernel, by decide +kernel⟩, List.mem_of_getElem? (i := 827) (by decide +kernel), List.mem_of_getElem? (i := 977) (by decide +kernel), List.mem_of_getElem? (i := 978) (by decide +kernel)⟩
theorem lw_p41 : lw_okq (⟨"ChipGameModel", "hasChips", "(I)Z"⟩, 24) := ⟨⟨by decide +kernel, by decide +kernel⟩, List.mem_of_getElem? (i := 827) (by decide +kernel), List.mem_of_getElem? (i := 997) (by decide +kernel), List.mem_of_getElem? (i := 998) (by decide +kernel)⟩
theorem lw_p42 : lw_okq (⟨"ChipGameModel", "keepState", "()V"⟩, 24) := ⟨⟨by decide +kernel, by decide +kernel⟩, List.mem_of_getElem? (i := 827) (by decide +kernel), List.mem_of_getElem? (i := 1001) (by decide +kernel), List.mem_of_getElem? (i := 1002) (by decide +kernel)⟩
theorem lw_p43 : lw_okq (⟨"ChipGameModel", "canFire", "([II)Z"⟩, 24) := ⟨⟨by decide +kernel, by decide +kernel⟩, List.mem_of_getElem? (i := 827) (by decide +kernel), List.mem_of_getElem? (i := 1013) (by decide +kernel), List.mem_of_getElem? (i := 1014) (by decide +kernel)⟩
theorem lw_p44 : lw_okq (⟨"ChipGameModel", "fireTimes", "([III)V"⟩, 24) := ⟨⟨by decide +kernel, by decide +kernel⟩, List.mem_of_getElem? (i := 827) (by decide +kernel), List.mem_of_getElem? (i := 1017) (by decide +kernel), List.mem_of_getElem? (i := 1018) (by decide +kernel)⟩
theorem lw_p45 : lw_okq (⟨"ChipGameModel", "settle", "([I)I"⟩, 24) := ⟨⟨by decide +kernel, by decide +kernel⟩, List.mem_of_getElem? (i := 827) (by decide +kernel), List.mem_of_getElem? (i := 1025) (by decide +kernel), List.mem_of_getElem? (i := 1026) (by decide +kernel)⟩
theorem lw_p46 : lw_okq (⟨"ChipGameModel", "copy", "([I[I)V"⟩, 24) := ⟨⟨by decide +kernel, by decide +kernel⟩, List.mem_of_getElem? (i := 827) (by decide +kernel), List.mem_of_getElem? (i := 1033) (by decide +kernel), List.mem_of_getElem? (i := 1034) (by decide +kernel)⟩
theorem lw_p47 : lw_okq (⟨"ChipGameModel", "lower", "([I)I"⟩, 24) := ⟨⟨by decide +kernel, by decide +kernel⟩, List.mem_of_getElem? (i := 827) (by decide +kernel), List.mem_of_getElem? (i := 1041) (by decide +kernel), List.mem_of_getElem? (i := 1042) (by decide +kernel)⟩
def lw_privs_3 : List (MethodName × Nat) := [(⟨"ChipGameModel", "changed", "()V"⟩, 24), (⟨"ChipGameModel", "join", "(II)V"⟩, 24), (⟨"ChipGameModel", "isNode", "(I)Z"⟩, 24), (⟨"ChipGameModel", "isNamed", "(I)Z"⟩, 24), (⟨"ChipGameModel", "begins", "(CCCC)Z"⟩, 24), (⟨"ChipGameModel", "isAt", "(IC)Z"⟩, 24), (⟨"ChipGameModel", "isConnected", "()Z"⟩, 24), (⟨"ChipGameModel", "sum", "()I"⟩, 24), (⟨"ChipGameModel", "inner", "()I"⟩, 24), (⟨"ChipGameModel", "hasChips", "(I)Z"⟩, 24), (⟨"ChipGameModel", "keepState", "()V"⟩, 24), (⟨"ChipGameModel", "canFire", "([II)Z"⟩, 24), (⟨"ChipGameModel", "fireTimes", "([III)V"⟩, 24), (⟨"ChipGameModel", "settle", "([I)I"⟩, 24), (⟨"ChipGameModel", "copy", "([I[I)V"⟩, 24), (⟨"ChipGameModel", "lower", "([I)I"⟩, 24)]
theorem lw_r3 : ∀ q ∈ lw_privs_3, lw_okq q := List.forall_mem_cons.mpr ⟨lw_p32, List.forall_mem_cons.mpr ⟨lw_p33, List.forall_mem_cons.mpr ⟨lw_p34, List.forall_mem_cons.mpr ⟨lw_p35, List.forall_mem_cons.mpr ⟨lw_p36, List.forall_mem_cons.mpr ⟨lw_p37, List.forall_mem_cons.mpr ⟨lw_p38, List.forall_mem_cons.mpr ⟨lw_p39, List.forall_mem_cons.mpr ⟨lw_p40, List.forall_mem_cons.mpr ⟨lw_p41, List.forall_mem_cons.mpr ⟨lw_p42, List.forall_mem_cons.mpr ⟨lw_p43, List.forall_mem_cons.mpr ⟨lw_p44, List.forall_mem_cons.mpr ⟨lw_p45, List.forall_mem_cons.mpr ⟨lw_p46, List.forall_mem_cons.mpr ⟨lw_p47, fun _ h => absurd h List.not_mem_nil⟩⟩⟩⟩⟩⟩⟩⟩⟩⟩⟩⟩⟩⟩⟩⟩
theorem lw_p48 : lw_okq (⟨"ChipGameModel", "burn", "([IZ)V"⟩, 24) := ⟨⟨by decide +kernel, by decide +kernel⟩, List.mem_of_getElem? (i := 827) (by decide +kernel), List.mem_of_getElem? (i := 1045) (by decide +kernel), List.mem_of_getElem? (i := 1046) (by decide +kernel)⟩
theorem lw_p49 : lw_okq (⟨"ChipGameModel", "allBurn", "()Z"⟩, 24) := ⟨⟨by decide +kernel, by decide +kernel⟩, List.mem_of_getElem? (i := 827) (by decide +kernel), List.mem_of_getElem? (i := 1049) (by decide +kernel), List.mem_of_getElem? (i := 1050) (by decide +kernel)⟩
theorem lw_p50 : lw_okq (⟨"ChipGameModel", "fireSet", "([I)V"⟩, 24) := ⟨⟨by decide +kernel, by decide +kernel⟩, List.mem_of_getElem? (i := 827) (by decide +kernel), List.mem_of_getElem? (i := 1053) (by decide +kernel), List.mem_of_getElem? (i := 1054) (by decide +kernel)⟩
theorem lw_p51 : lw_okq (⟨"ChipGameModel", "raise", "([I)V"⟩, 24) := ⟨⟨by decide +kernel, by decide +kernel⟩, List.mem_of_getElem? (i := 827) (by decide +kernel), List.mem_of_getElem? (i := 1061) (by decide +kernel), List.mem_of_getElem? (i := 1062) (by decide +kernel)⟩
theorem lw_p52 : lw_okq (⟨"ChipGameModel", "isStable", "([I)Z"⟩, 24) := ⟨⟨by decide +kernel, by decide +kernel⟩, List.mem_of_getElem? (i := 827) (by decide +kernel), List.mem_of_getElem? (i := 1072) (by decide +kernel), List.mem_of_getElem? (i := 1073) (by decide +kernel)⟩
theorem lw_p53 : lw_okq (⟨"ChipGameModel", "isRecurrent", "([I)Z"⟩, 24) := ⟨⟨by decide +kernel, by decide +kernel⟩, List.mem_of_getElem? (i := 827) (by decide +kernel), List.mem_of_getElem? (i := 1076) (by decide +kernel), List.mem_of_getElem? (i := 1077) (by decide +kernel)⟩
theorem lw_p54 : lw_okq (⟨"ChipGameModel", "isSuperstable", "([I)Z"⟩, 24) := ⟨⟨by decide +kernel, by decide +kernel⟩, List.mem_of_getElem? (i := 827) (by decide +kernel), List.mem_of_getElem? (i := 1080) (by decide +kernel), List.mem_of_getElem? (i := 1081) (by decide +kernel)⟩
theorem lw_p55 : lw_okq (⟨"ChipGameModel", "smith", "()V"⟩, 24) := ⟨⟨by decide +kernel, by decide +kernel⟩, List.mem_of_getElem? (i := 827) (by decide +kernel), List.mem_of_getElem? (i := 1111) (by decide +kernel), List.mem_of_getElem? (i := 1112) (by decide +kernel)⟩
theorem lw_p56 : lw_okq (⟨"ChipGameModel", "layMatrix", "()V"⟩, 24) := ⟨⟨by decide +kernel, by decide +kernel⟩, List.mem_of_getElem? (i := 827) (by decide +kernel), List.mem_of_getElem? (i := 1115) (by decide +kernel), List.mem_of_getElem? (i := 1116) (by decide +kernel)⟩
theorem lw_p57 : lw_okq (⟨"ChipGameModel", "bringLeast", "(II)Z"⟩, 24) := ⟨⟨by decide +kernel, by decide +kernel⟩, List.mem_of_getElem? (i := 827) (by decide +kernel), List.mem_of_getElem? (i := 1119) (by decide +kernel), List.mem_of_getElem? (i := 1120) (by decide +kernel)⟩
theorem lw_p58 : lw_okq (⟨"ChipGameModel", "swap", "(IIZ)V"⟩, 24) := ⟨⟨by decide +kernel, by decide +kernel⟩, List.mem_of_getElem? (i := 827) (by decide +kernel), List.mem_of_getElem? (i := 1126) (by decide +kernel), List.mem_of_getElem? (i := 1127) (by decide +kernel)⟩
theorem lw_p59 : lw_okq (⟨"ChipGameModel", "isDone", "(II)Z"⟩, 24) := ⟨⟨by decide +kernel, by decide +kernel⟩, List.mem_of_getElem? (i := 827) (by decide +kernel), List.mem_of_getElem? (i := 1130) (by decide +kernel), List.mem_of_getElem? (i := 1131) (by decide +kernel)⟩
theorem lw_p60 : lw_okq (⟨"ChipGameModel", "lessen", "(IIJZ)V"⟩, 24) := ⟨⟨by decide +kernel, by decide +kernel⟩, List.mem_of_getElem? (i := 827) (by decide +kernel), List.mem_of_getElem? (i := 1134) (by decide +kernel), List.mem_of_getElem? (i := 1135) (by decide +kernel)⟩
theorem lw_p61 : lw_okq (⟨"ChipGameModel", "countLevels", "()V"⟩, 24) := ⟨⟨by decide +kernel, by decide +kernel⟩, List.mem_of_getElem? (i := 827) (by decide +kernel), List.mem_of_getElem? (i := 1166) (by decide +kernel), List.mem_of_getElem? (i := 1167) (by decide +kernel)⟩
theorem lw_p62 : lw_okq (⟨"ChipGameModel", "follow", "(I)I"⟩, 24) := ⟨⟨by decide +kernel, by decide +kernel⟩, List.mem_of_getElem? (i := 827) (by decide +kernel), List.mem_of_getElem? (i := 1174) (by decide +kernel), List.mem_of_getElem? (i := 1175) (by decide +kernel)⟩
theorem lw_p63 : lw_okq (⟨"ChipGameModel", "isTree", "(I)Z"⟩, 24) := ⟨⟨by decide +kernel, by decide +kernel⟩, List.mem_of_getElem? (i := 827) (by decide +kernel), List.mem_of_getElem? (i := 1182) (by decide +kernel), List.mem_of_getElem? (i := 1183) (by decide +kernel)⟩
def lw_privs_4 : List (MethodName × Nat) := [(⟨"ChipGameModel", "burn", "([IZ)V"⟩, 24), (⟨"ChipGameModel", "allBurn", "()Z"⟩, 24), (⟨"ChipGameModel", "fireSet", "([I)V"⟩, 24), (⟨"ChipGameModel", "raise", "([I)V"⟩, 24), (⟨"ChipGameModel", "isStable", "([I)Z"⟩, 24), (⟨"ChipGameModel", "isRecurrent", "([I)Z"⟩, 24), (⟨"ChipGameModel", "isSuperstable", "([I)Z"⟩, 24), (⟨"ChipGameModel", "smith", "()V"⟩, 24), (⟨"ChipGameModel", "layMatrix", "()V"⟩, 24), (⟨"ChipGameModel", "bringLeast", "(II)Z"⟩, 24), (⟨"ChipGameModel", "swap", "(IIZ)V"⟩, 24), (⟨"ChipGameModel", "isDone", "(II)Z"⟩, 24), (⟨"ChipGameModel", "lessen", "(IIJZ)V"⟩, 24), (⟨"ChipGameModel", "countLevels", "()V"⟩, 24), (⟨"ChipGameModel", "follow", "(I)I"⟩, 24), (⟨"ChipGameModel", "isTree", "(I)Z"⟩, 24)]
theorem lw_r4 : ∀ q ∈ lw_privs_4, lw_okq q := List.forall_mem_cons.mpr ⟨lw_p48, List.forall_mem_cons.mpr ⟨lw_p49, List.forall_mem_cons.mpr ⟨lw_p50, List.forall_mem_cons.mpr ⟨lw_p51, List.forall_mem_cons.mpr ⟨lw_p52, List.forall_mem_cons.mpr ⟨lw_p53, List.forall_mem_cons.mpr ⟨lw_p54, List.forall_mem_cons.mpr ⟨lw_p55, List.forall_mem_cons.mpr ⟨lw_p56, List.forall_mem_cons.mpr ⟨lw_p57, List.forall_mem_cons.mpr ⟨lw_p58, List.forall_mem_cons.mpr ⟨lw_p59, List.forall_mem_cons.mpr ⟨lw_p60, List.forall_mem_cons.mpr ⟨lw_p61, List.forall_mem_cons.mpr ⟨lw_p62, List.forall_mem_cons.mpr ⟨lw_p63, fun _ h => absurd h List.not_mem_nil⟩⟩⟩⟩⟩⟩⟩⟩⟩⟩⟩⟩⟩⟩⟩⟩
def lw_privs : List (MethodName × Nat) := lw_privs_1 ++ (lw_privs_2 ++ (lw_privs_3 ++ (lw_privs_4)))
def lw_tbl : List Cond := k2_sels lw_privs ++ tables_1
theorem lw_privs_ok : ∀ q ∈ lw_privs, lw_okq q := by
  show ∀ q ∈ lw_privs_1 ++ (lw_privs_2 ++ (lw_privs_3 ++ (lw_privs_4))), lw_okq q
  exact List.forall_mem_append.mpr ⟨lw_r1, List.forall_mem_append.mpr ⟨lw_r2, List.forall_mem_append.mpr ⟨lw_r3, lw_r4⟩⟩⟩
end
section
def RX0 : String := "ChipGame$Burning"
def TX0 : u_T := fun k => match k with
  | 0 => ("ChipGame$Burning", "round", "[I", true)
  | 1 => ("ChipGame$Burning", "needed", "[I", true)
  | _ => ("ChipGame$Burning", "graph", "LChipGame$Graph;", true)
def tyX0 : Nat → FieldType := fun k => match k with
  | 0 => .array .int
  | 1 => .array .int
  | _ => .object "ChipGame$Graph"
abbrev wsX00 : List Cond := u_ws RX0 TX0 3
theorem nmX0 : ∀ a, a < 3 → ∀ b, b < 3 → a ≠ b → (TX0 a).2.1 ≠ (TX0 b).2.1 := by decide +kernel
theorem tyX0_ok : ∀ k, k < 3 → parseFieldDescriptor (TX0 k).2.2.1 = some (tyX0 k) := by decide +kernel
abbrev cX0_init : ByteArray := prog_2_method_1_code
def yX0_init : MethodName := ⟨RX0, "<init>", "(LChipGame$Graph;)V"⟩
abbrev cX0_hasBurnt : ByteArray := prog_2_method_2_code
def yX0_hasBurnt : MethodName := ⟨RX0, "hasBurnt", "(I)Z"⟩
abbrev cX0_allBurn : ByteArray := prog_2_method_3_code
def yX0_allBurn : MethodName := ⟨RX0, "allBurn", "([I)Z"⟩
abbrev cX0_allBurnBySecondRule : ByteArray := prog_2_method_4_code
def yX0_allBurnBySecondRule : MethodName := ⟨RX0, "allBurnBySecondRule", "([I)Z"⟩
abbrev cX0_spreadFire : ByteArray := prog_2_method_5_code
def yX0_spreadFire : MethodName := ⟨RX0, "spreadFire", "()Z"⟩
abbrev cX0_burnRound : ByteArray := prog_2_method_6_code
def yX0_burnRound : MethodName := ⟨RX0, "burnRound", "(I)I"⟩
abbrev cX0_edgesToBurnt : ByteArray := prog_2_method_7_code
def yX0_edgesToBurnt : MethodName := ⟨RX0, "edgesToBurnt", "(II)I"⟩
def RX1 : String := "ChipGame$Firing"
def TX1 : u_T := fun k => match k with
  | 0 => ("ChipGame$Firing", "times", "[I", true)
  | 1 => ("ChipGame$Firing", "graph", "LChipGame$Graph;", true)
  | _ => ("ChipGame$Firing", "burning", "LChipGame$Burning;", true)
def tyX1 : Nat → FieldType := fun k => match k with
  | 0 => .array .int
  | 1 => .object "ChipGame$Graph"
  | _ => .object "ChipGame$Burning"
abbrev wsX10 : List Cond := u_ws RX1 TX1 3
theorem nmX1 : ∀ a, a < 3 → ∀ b, b < 3 → a ≠ b → (TX1 a).2.1 ≠ (TX1 b).2.1 := by decide +kernel
theorem tyX1_ok : ∀ k, k < 3 → parseFieldDescriptor (TX1 k).2.2.1 = some (tyX1 k) := by decide +kernel
abbrev cX1_init : ByteArray := prog_3_method_1_code
def yX1_init : MethodName := ⟨RX1, "<init>", "(LChipGame$Graph;LChipGame$Burning;)V"⟩
abbrev cX1_canFire : ByteArray := prog_3_method_2_code
def yX1_canFire : MethodName := ⟨RX1, "canFire", "([II)Z"⟩
abbrev cX1_isStable : ByteArray := prog_3_method_3_code
def yX1_isStable : MethodName := ⟨RX1, "isStable", "([I)Z"⟩
abbrev cX1_give : ByteArray := prog_3_method_4_code
def yX1_give : MethodName := ⟨RX1, "give", "([III)V"⟩
abbrev cX1_giveAlong : ByteArray := prog_3_method_5_code
def yX1_giveAlong : MethodName := ⟨RX1, "giveAlong", "([IIII)V"⟩
abbrev cX1_settle : ByteArray := prog_3_method_6_code
def yX1_settle : MethodName := ⟨RX1, "settle", "([I)I"⟩
abbrev cX1_fireWhilePossible : ByteArray := prog_3_method_7_code
def yX1_fireWhilePossible : MethodName := ⟨RX1, "fireWhilePossible", "([II)I"⟩
abbrev cX1_fireSets : ByteArray := prog_3_method_8_code
def yX1_fireSets : MethodName := ⟨RX1, "fireSets", "([I)I"⟩
abbrev cX1_fireUnburnt : ByteArray := prog_3_method_9_code
def yX1_fireUnburnt : MethodName := ⟨RX1, "fireUnburnt", "([I)V"⟩
abbrev cX1_toRecurrent : ByteArray := prog_3_method_10_code
def yX1_toRecurrent : MethodName := ⟨RX1, "toRecurrent", "([I)V"⟩
abbrev cX1_mirror : ByteArray := prog_3_method_11_code
def yX1_mirror : MethodName := ⟨RX1, "mirror", "([I)V"⟩
def RX2 : String := "ChipGame$Graph"
def TX2 : u_T := fun k => match k with
  | 0 => ("ChipGame$Graph", "nodes", "I", false)
  | 1 => ("ChipGame$Graph", "edges", "I", false)
  | 2 => ("ChipGame$Graph", "sink", "I", false)
  | 3 => ("ChipGame$Graph", "first", "[I", true)
  | 4 => ("ChipGame$Graph", "second", "[I", true)
  | 5 => ("ChipGame$Graph", "joining", "[[I", true)
  | 6 => ("ChipGame$Graph", "degrees", "[I", true)
  | _ => ("ChipGame$Graph", "labels", "[I", true)
def tyX2 : Nat → FieldType := fun k => match k with
  | 0 => .int
  | 1 => .int
  | 2 => .int
  | 3 => .array .int
  | 4 => .array .int
  | 5 => .array (.array .int)
  | 6 => .array .int
  | _ => .array .int
abbrev wsX20 : List Cond := u_ws RX2 TX2 8
theorem nmX2 : ∀ a, a < 8 → ∀ b, b < 8 → a ≠ b → (TX2 a).2.1 ≠ (TX2 b).2.1 := by decide +kernel
theorem tyX2_ok : ∀ k, k < 8 → parseFieldDescriptor (TX2 k).2.2.1 = some (tyX2 k) := by decide +kernel
abbrev cX2_init : ByteArray := prog_4_method_1_code
def yX2_init : MethodName := ⟨RX2, "<init>", "()V"⟩
abbrev cX2_clear : ByteArray := prog_4_method_2_code
def yX2_clear : MethodName := ⟨RX2, "clear", "(I)V"⟩
abbrev cX2_hasNode : ByteArray := prog_4_method_3_code
def yX2_hasNode : MethodName := ⟨RX2, "hasNode", "(I)Z"⟩
abbrev cX2_hasChipsAt : ByteArray := prog_4_method_4_code
def yX2_hasChipsAt : MethodName := ⟨RX2, "hasChipsAt", "(I)Z"⟩
abbrev cX2_hasEdge : ByteArray := prog_4_method_5_code
def yX2_hasEdge : MethodName := ⟨RX2, "hasEdge", "(I)Z"⟩
abbrev cX2_degreeOf : ByteArray := prog_4_method_6_code
def yX2_degreeOf : MethodName := ⟨RX2, "degreeOf", "(I)I"⟩
abbrev cX2_append : ByteArray := prog_4_method_7_code
def yX2_append : MethodName := ⟨RX2, "append", "(II)V"⟩
abbrev cX2_drop : ByteArray := prog_4_method_8_code
def yX2_drop : MethodName := ⟨RX2, "drop", "(I)V"⟩
abbrev cX2_countJoining : ByteArray := prog_4_method_9_code
def yX2_countJoining : MethodName := ⟨RX2, "countJoining", "(III)V"⟩
abbrev cX2_edgesAwayFromSink : ByteArray := prog_4_method_10_code
def yX2_edgesAwayFromSink : MethodName := ⟨RX2, "edgesAwayFromSink", "()I"⟩
abbrev cX2_allEdges : ByteArray := prog_4_method_11_code
def yX2_allEdges : MethodName := ⟨RX2, "allEdges", "()I"⟩
abbrev cX2_isConnected : ByteArray := prog_4_method_12_code
def yX2_isConnected : MethodName := ⟨RX2, "isConnected", "()Z"⟩
abbrev cX2_isSpanningTree : ByteArray := prog_4_method_13_code
def yX2_isSpanningTree : MethodName := ⟨RX2, "isSpanningTree", "(I)Z"⟩
abbrev cX2_findParts : ByteArray := prog_4_method_14_code
def yX2_findParts : MethodName := ⟨RX2, "findParts", "(I)I"⟩
abbrev cX2_relabel : ByteArray := prog_4_method_15_code
def yX2_relabel : MethodName := ⟨RX2, "relabel", "(II)V"⟩
def RX3 : String := "ChipGame$History"
def TX3 : u_T := fun k => match k with
  | 0 => ("ChipGame$History", "count", "I", false)
  | 1 => ("ChipGame$History", "oldest", "I", false)
  | _ => ("ChipGame$History", "states", "[[I", true)
def tyX3 : Nat → FieldType := fun k => match k with
  | 0 => .int
  | 1 => .int
  | _ => .array (.array .int)
abbrev wsX30 : List Cond := u_ws RX3 TX3 3
theorem nmX3 : ∀ a, a < 3 → ∀ b, b < 3 → a ≠ b → (TX3 a).2.1 ≠ (TX3 b).2.1 := by decide +kernel
theorem tyX3_ok : ∀ k, k < 3 → parseFieldDescriptor (TX3 k).2.2.1 = some (tyX3 k) := by decide +kernel
abbrev cX3_init : ByteArray := prog_5_method_1_code
def yX3_init : MethodName := ⟨RX3, "<init>", "()V"⟩
abbrev cX3_record : ByteArray := prog_5_method_2_code
def yX3_record : MethodName := ⟨RX3, "record", "([I)V"⟩
abbrev cX3_takeBack : ByteArray := prog_5_method_3_code
def yX3_takeBack : MethodName := ⟨RX3, "takeBack", "([I)V"⟩
abbrev cX3_forgetAll : ByteArray := prog_5_method_4_code
def yX3_forgetAll : MethodName := ⟨RX3, "forgetAll", "()V"⟩
def RX4 : String := "ChipGame$Levels"
def TX4 : u_T := fun k => match k with
  | 0 => ("ChipGame$Levels", "graph", "LChipGame$Graph;", true)
  | 1 => ("ChipGame$Levels", "edgesInside", "[I", true)
  | 2 => ("ChipGame$Levels", "sums", "[[J", true)
  | _ => ("ChipGame$Levels", "counts", "[J", true)
def tyX4 : Nat → FieldType := fun k => match k with
  | 0 => .object "ChipGame$Graph"
  | 1 => .array .int
  | 2 => .array (.array .long)
  | _ => .array .long
abbrev wsX40 : List Cond := u_ws RX4 TX4 4
theorem nmX4 : ∀ a, a < 4 → ∀ b, b < 4 → a ≠ b → (TX4 a).2.1 ≠ (TX4 b).2.1 := by decide +kernel
theorem tyX4_ok : ∀ k, k < 4 → parseFieldDescriptor (TX4 k).2.2.1 = some (tyX4 k) := by decide +kernel
abbrev cX4_init : ByteArray := prog_6_method_1_code
def yX4_init : MethodName := ⟨RX4, "<init>", "(LChipGame$Graph;)V"⟩
abbrev cX4_countAt : ByteArray := prog_6_method_2_code
def yX4_countAt : MethodName := ⟨RX4, "countAt", "(I)J"⟩
abbrev cX4_countEdgesInside : ByteArray := prog_6_method_3_code
def yX4_countEdgesInside : MethodName := ⟨RX4, "countEdgesInside", "()V"⟩
abbrev cX4_sumConnected : ByteArray := prog_6_method_4_code
def yX4_sumConnected : MethodName := ⟨RX4, "sumConnected", "(I)V"⟩
abbrev cX4_subtractShifted : ByteArray := prog_6_method_5_code
def yX4_subtractShifted : MethodName := ⟨RX4, "subtractShifted", "([J[JI)V"⟩
abbrev cX4_divideByYMinusOne : ByteArray := prog_6_method_6_code
def yX4_divideByYMinusOne : MethodName := ⟨RX4, "divideByYMinusOne", "()V"⟩
def RX5 : String := "ChipGame$Matrix"
def TX5 : u_T := fun k => match k with
  | 0 => ("ChipGame$Matrix", "factors", "[J", true)
  | 1 => ("ChipGame$Matrix", "factorCount", "I", false)
  | 2 => ("ChipGame$Matrix", "graph", "LChipGame$Graph;", true)
  | 3 => ("ChipGame$Matrix", "cells", "[[J", true)
  | _ => ("ChipGame$Matrix", "size", "I", false)
def tyX5 : Nat → FieldType := fun k => match k with
  | 0 => .array .long
  | 1 => .int
  | 2 => .object "ChipGame$Graph"
  | 3 => .array (.array .long)
  | _ => .int
abbrev wsX50 : List Cond := u_ws RX5 TX5 5
theorem nmX5 : ∀ a, a < 5 → ∀ b, b < 5 → a ≠ b → (TX5 a).2.1 ≠ (TX5 b).2.1 := by decide +kernel
theorem tyX5_ok : ∀ k, k < 5 → parseFieldDescriptor (TX5 k).2.2.1 = some (tyX5 k) := by decide +kernel
abbrev cX5_init : ByteArray := prog_7_method_1_code
def yX5_init : MethodName := ⟨RX5, "<init>", "(LChipGame$Graph;)V"⟩
abbrev cX5_fill : ByteArray := prog_7_method_2_code
def yX5_fill : MethodName := ⟨RX5, "fill", "(I)V"⟩
abbrev cX5_fillEdge : ByteArray := prog_7_method_3_code
def yX5_fillEdge : MethodName := ⟨RX5, "fillEdge", "(II)V"⟩
abbrev cX5_isFree : ByteArray := prog_7_method_4_code
def yX5_isFree : MethodName := ⟨RX5, "isFree", "(I)Z"⟩
abbrev cX5_fillWhole : ByteArray := prog_7_method_5_code
def yX5_fillWhole : MethodName := ⟨RX5, "fillWhole", "()V"⟩
abbrev cX5_eliminate : ByteArray := prog_7_method_6_code
def yX5_eliminate : MethodName := ⟨RX5, "eliminate", "()J"⟩
abbrev cX5_combineRows : ByteArray := prog_7_method_7_code
def yX5_combineRows : MethodName := ⟨RX5, "combineRows", "(IIJ)V"⟩
abbrev cX5_orderOf : ByteArray := prog_7_method_8_code
def yX5_orderOf : MethodName := ⟨RX5, "orderOf", "([I)J"⟩
abbrev cX5_findFactors : ByteArray := prog_7_method_9_code
def yX5_findFactors : MethodName := ⟨RX5, "findFactors", "()V"⟩
abbrev cX5_clearAround : ByteArray := prog_7_method_10_code
def yX5_clearAround : MethodName := ⟨RX5, "clearAround", "(IJ)V"⟩
abbrev cX5_bringLeastToCorner : ByteArray := prog_7_method_11_code
def yX5_bringLeastToCorner : MethodName := ⟨RX5, "bringLeastToCorner", "(I)Z"⟩
abbrev cX5_swapRows : ByteArray := prog_7_method_12_code
def yX5_swapRows : MethodName := ⟨RX5, "swapRows", "(II)V"⟩
abbrev cX5_swapColumns : ByteArray := prog_7_method_13_code
def yX5_swapColumns : MethodName := ⟨RX5, "swapColumns", "(II)V"⟩
abbrev cX5_clearColumn : ByteArray := prog_7_method_14_code
def yX5_clearColumn : MethodName := ⟨RX5, "clearColumn", "(IJ)Z"⟩
abbrev cX5_clearRow : ByteArray := prog_7_method_15_code
def yX5_clearRow : MethodName := ⟨RX5, "clearRow", "(IJ)Z"⟩
abbrev cX5_addRow : ByteArray := prog_7_method_16_code
def yX5_addRow : MethodName := ⟨RX5, "addRow", "(IIJJ)V"⟩
abbrev cX5_addColumn : ByteArray := prog_7_method_17_code
def yX5_addColumn : MethodName := ⟨RX5, "addColumn", "(IIJJ)V"⟩
abbrev cX5_addUndividedRow : ByteArray := prog_7_method_18_code
def yX5_addUndividedRow : MethodName := ⟨RX5, "addUndividedRow", "(IJ)Z"⟩
abbrev cX5_commonDivisor : ByteArray := prog_7_method_19_code
def yX5_commonDivisor : MethodName := ⟨RX5, "commonDivisor", "(JJ)J"⟩
def RX6 : String := "ChipGame$Shapes"
def TX6 : u_T := fun k => match k with
  | _ => ("", "", "", false)
def tyX6 : Nat → FieldType := fun k => match k with
  | _ => .int
abbrev wsX60 : List Cond := u_ws RX6 TX6 0
theorem nmX6 : ∀ a, a < 0 → ∀ b, b < 0 → a ≠ b → (TX6 a).2.1 ≠ (TX6 b).2.1 := by decide +kernel
theorem tyX6_ok : ∀ k, k < 0 → parseFieldDescriptor (TX6 k).2.2.1 = some (tyX6 k) := by decide +kernel
abbrev cX6_nameOf : ByteArray := prog_8_method_2_code
def yX6_nameOf : MethodName := ⟨RX6, "nameOf", "(I)Ljava/lang/String;"⟩
abbrev cX6_allows : ByteArray := prog_8_method_3_code
def yX6_allows : MethodName := ⟨RX6, "allows", "(II)Z"⟩
abbrev cX6_draw : ByteArray := prog_8_method_4_code
def yX6_draw : MethodName := ⟨RX6, "draw", "(LChipGame$Graph;II)V"⟩
abbrev cX6_drawPath : ByteArray := prog_8_method_5_code
def yX6_drawPath : MethodName := ⟨RX6, "drawPath", "(LChipGame$Graph;II)V"⟩
abbrev cX6_drawRays : ByteArray := prog_8_method_6_code
def yX6_drawRays : MethodName := ⟨RX6, "drawRays", "(LChipGame$Graph;II)V"⟩
def RX7 : String := "ChipGame$Slots"
def TX7 : u_T := fun k => match k with
  | 0 => ("ChipGame$Slots", "taken", "[Z", true)
  | _ => ("ChipGame$Slots", "states", "[[I", true)
def tyX7 : Nat → FieldType := fun k => match k with
  | 0 => .array .boolean
  | _ => .array (.array .int)
abbrev wsX70 : List Cond := u_ws RX7 TX7 2
theorem nmX7 : ∀ a, a < 2 → ∀ b, b < 2 → a ≠ b → (TX7 a).2.1 ≠ (TX7 b).2.1 := by decide +kernel
theorem tyX7_ok : ∀ k, k < 2 → parseFieldDescriptor (TX7 k).2.2.1 = some (tyX7 k) := by decide +kernel
abbrev cX7_init : ByteArray := prog_9_method_1_code
def yX7_init : MethodName := ⟨RX7, "<init>", "()V"⟩
abbrev cX7_has : ByteArray := prog_9_method_2_code
def yX7_has : MethodName := ⟨RX7, "has", "(I)Z"⟩
abbrev cX7_isEmpty : ByteArray := prog_9_method_3_code
def yX7_isEmpty : MethodName := ⟨RX7, "isEmpty", "(I)Z"⟩
abbrev cX7_put : ByteArray := prog_9_method_4_code
def yX7_put : MethodName := ⟨RX7, "put", "(I[I)V"⟩
abbrev cX7_copyTo : ByteArray := prog_9_method_5_code
def yX7_copyTo : MethodName := ⟨RX7, "copyTo", "(I[I)V"⟩
abbrev cX7_forgetAll : ByteArray := prog_9_method_6_code
def yX7_forgetAll : MethodName := ⟨RX7, "forgetAll", "()V"⟩
def RX8 : String := "ChipGame$Text"
def TX8 : u_T := fun k => match k with
  | 0 => ("ChipGame$Text", "length", "I", false)
  | _ => ("ChipGame$Text", "signs", "[C", true)
def tyX8 : Nat → FieldType := fun k => match k with
  | 0 => .int
  | _ => .array .char
abbrev wsX80 : List Cond := u_ws RX8 TX8 2
theorem nmX8 : ∀ a, a < 2 → ∀ b, b < 2 → a ≠ b → (TX8 a).2.1 ≠ (TX8 b).2.1 := by decide +kernel
theorem tyX8_ok : ∀ k, k < 2 → parseFieldDescriptor (TX8 k).2.2.1 = some (tyX8 k) := by decide +kernel
abbrev cX8_init : ByteArray := prog_10_method_1_code
def yX8_init : MethodName := ⟨RX8, "<init>", "()V"⟩
abbrev cX8_append : ByteArray := prog_10_method_2_code
def yX8_append : MethodName := ⟨RX8, "append", "(C)V"⟩
abbrev cX8_findShape : ByteArray := prog_10_method_3_code
def yX8_findShape : MethodName := ⟨RX8, "findShape", "()I"⟩
abbrev cX8_isNameAndSign : ByteArray := prog_10_method_4_code
def yX8_isNameAndSign : MethodName := ⟨RX8, "isNameAndSign", "(Ljava/lang/String;)Z"⟩
abbrev cX8_lastDigit : ByteArray := prog_10_method_5_code
def yX8_lastDigit : MethodName := ⟨RX8, "lastDigit", "()I"⟩
def RX9 : String := "ChipGame$Trees"
def TX9 : u_T := fun k => match k with
  | 0 => ("ChipGame$Trees", "graph", "LChipGame$Graph;", true)
  | 1 => ("ChipGame$Trees", "matrix", "LChipGame$Matrix;", true)
  | _ => ("ChipGame$Trees", "used", "[I", true)
def tyX9 : Nat → FieldType := fun k => match k with
  | 0 => .object "ChipGame$Graph"
  | 1 => .object "ChipGame$Matrix"
  | _ => .array .int
abbrev wsX90 : List Cond := u_ws RX9 TX9 3
theorem nmX9 : ∀ a, a < 3 → ∀ b, b < 3 → a ≠ b → (TX9 a).2.1 ≠ (TX9 b).2.1 := by decide +kernel
theorem tyX9_ok : ∀ k, k < 3 → parseFieldDescriptor (TX9 k).2.2.1 = some (tyX9 k) := by decide +kernel
abbrev cX9_init : ByteArray := prog_11_method_1_code
def yX9_init : MethodName := ⟨RX9, "<init>", "(LChipGame$Graph;LChipGame$Matrix;)V"⟩
abbrev cX9_count : ByteArray := prog_11_method_2_code
def yX9_count : MethodName := ⟨RX9, "count", "(II)J"⟩
abbrev cX9_treeNumbered : ByteArray := prog_11_method_3_code
def yX9_treeNumbered : MethodName := ⟨RX9, "treeNumbered", "(I)I"⟩
abbrev cX9_treeOf : ByteArray := prog_11_method_4_code
def yX9_treeOf : MethodName := ⟨RX9, "treeOf", "([I)I"⟩
abbrev cX9_toStateOf : ByteArray := prog_11_method_5_code
def yX9_toStateOf : MethodName := ⟨RX9, "toStateOf", "(I[I)V"⟩
abbrev cX9_lowestBorderEdge : ByteArray := prog_11_method_6_code
def yX9_lowestBorderEdge : MethodName := ⟨RX9, "lowestBorderEdge", "(II)I"⟩
abbrev cX9_unmarkedEnd : ByteArray := prog_11_method_7_code
def yX9_unmarkedEnd : MethodName := ⟨RX9, "unmarkedEnd", "(II)I"⟩
abbrev cX9_isIn : ByteArray := prog_11_method_8_code
def yX9_isIn : MethodName := ⟨RX9, "isIn", "(II)Z"⟩
def RX10 : String := "ChipGame"
def TX10 : u_T := fun k => match k with
  | 0 => ("ChipGame", "graph", "LChipGame$Graph;", true)
  | 1 => ("ChipGame", "text", "LChipGame$Text;", true)
  | 2 => ("ChipGame", "history", "LChipGame$History;", true)
  | 3 => ("ChipGame", "slots", "LChipGame$Slots;", true)
  | 4 => ("ChipGame", "burning", "LChipGame$Burning;", true)
  | 5 => ("ChipGame", "firing", "LChipGame$Firing;", true)
  | 6 => ("ChipGame", "matrix", "LChipGame$Matrix;", true)
  | 7 => ("ChipGame", "trees", "LChipGame$Trees;", true)
  | 8 => ("ChipGame", "levels", "LChipGame$Levels;", true)
  | 9 => ("ChipGame", "state", "[I", true)
  | 10 => ("ChipGame", "copy", "[I", true)
  | _ => ("ChipGame", "otherCopy", "[I", true)
def tyX10 : Nat → FieldType := fun k => match k with
  | 0 => .object "ChipGame$Graph"
  | 1 => .object "ChipGame$Text"
  | 2 => .object "ChipGame$History"
  | 3 => .object "ChipGame$Slots"
  | 4 => .object "ChipGame$Burning"
  | 5 => .object "ChipGame$Firing"
  | 6 => .object "ChipGame$Matrix"
  | 7 => .object "ChipGame$Trees"
  | 8 => .object "ChipGame$Levels"
  | 9 => .array .int
  | 10 => .array .int
  | _ => .array .int
abbrev wsX100 : List Cond := u_ws RX10 TX10 12
theorem nmX10 : ∀ a, a < 12 → ∀ b, b < 12 → a ≠ b → (TX10 a).2.1 ≠ (TX10 b).2.1 := by decide +kernel
theorem tyX10_ok : ∀ k, k < 12 → parseFieldDescriptor (TX10 k).2.2.1 = some (tyX10 k) := by decide +kernel
abbrev cX10_init : ByteArray := prog_1_method_1_code
def yX10_init : MethodName := ⟨RX10, "<init>", "()V"⟩
abbrev cX10_reset : ByteArray := prog_1_method_2_code
def yX10_reset : MethodName := ⟨RX10, "reset", "(I)I"⟩
abbrev cX10_addEdge : ByteArray := prog_1_method_3_code
def yX10_addEdge : MethodName := ⟨RX10, "addEdge", "(II)I"⟩
abbrev cX10_removeEdge : ByteArray := prog_1_method_4_code
def yX10_removeEdge : MethodName := ⟨RX10, "removeEdge", "(I)I"⟩
abbrev cX10_setSink : ByteArray := prog_1_method_5_code
def yX10_setSink : MethodName := ⟨RX10, "setSink", "(I)I"⟩
abbrev cX10_type : ByteArray := prog_1_method_6_code
def yX10_type : MethodName := ⟨RX10, "type", "(C)I"⟩
abbrev cX10_clearText : ByteArray := prog_1_method_7_code
def yX10_clearText : MethodName := ⟨RX10, "clearText", "()I"⟩
abbrev cX10_readGraph : ByteArray := prog_1_method_8_code
def yX10_readGraph : MethodName := ⟨RX10, "readGraph", "()I"⟩
abbrev cX10_value : ByteArray := prog_1_method_9_code
def yX10_value : MethodName := ⟨RX10, "value", "(I)I"⟩
abbrev cX10_degree : ByteArray := prog_1_method_10_code
def yX10_degree : MethodName := ⟨RX10, "degree", "(I)I"⟩
abbrev cX10_edge : ByteArray := prog_1_method_11_code
def yX10_edge : MethodName := ⟨RX10, "edge", "(IZ)I"⟩
abbrev cX10_setChips : ByteArray := prog_1_method_12_code
def yX10_setChips : MethodName := ⟨RX10, "setChips", "(II)I"⟩
abbrev cX10_chips : ByteArray := prog_1_method_13_code
def yX10_chips : MethodName := ⟨RX10, "chips", "(I)I"⟩
abbrev cX10_fire : ByteArray := prog_1_method_14_code
def yX10_fire : MethodName := ⟨RX10, "fire", "(I)I"⟩
abbrev cX10_stabilize : ByteArray := prog_1_method_15_code
def yX10_stabilize : MethodName := ⟨RX10, "stabilize", "()I"⟩
abbrev cX10_firings : ByteArray := prog_1_method_16_code
def yX10_firings : MethodName := ⟨RX10, "firings", "(I)I"⟩
abbrev cX10_reduce : ByteArray := prog_1_method_17_code
def yX10_reduce : MethodName := ⟨RX10, "reduce", "()I"⟩
abbrev cX10_makeRecurrent : ByteArray := prog_1_method_18_code
def yX10_makeRecurrent : MethodName := ⟨RX10, "makeRecurrent", "()I"⟩
abbrev cX10_kind : ByteArray := prog_1_method_19_code
def yX10_kind : MethodName := ⟨RX10, "kind", "()I"⟩
abbrev cX10_burnt : ByteArray := prog_1_method_20_code
def yX10_burnt : MethodName := ⟨RX10, "burnt", "(I)I"⟩
abbrev cX10_undo : ByteArray := prog_1_method_21_code
def yX10_undo : MethodName := ⟨RX10, "undo", "()I"⟩
abbrev cX10_keep : ByteArray := prog_1_method_22_code
def yX10_keep : MethodName := ⟨RX10, "keep", "(I)I"⟩
abbrev cX10_load : ByteArray := prog_1_method_23_code
def yX10_load : MethodName := ⟨RX10, "load", "(I)I"⟩
abbrev cX10_add : ByteArray := prog_1_method_24_code
def yX10_add : MethodName := ⟨RX10, "add", "(I)I"⟩
abbrev cX10_isSameClass : ByteArray := prog_1_method_25_code
def yX10_isSameClass : MethodName := ⟨RX10, "isSameClass", "(I)I"⟩
abbrev cX10_treeCount : ByteArray := prog_1_method_26_code
def yX10_treeCount : MethodName := ⟨RX10, "treeCount", "()J"⟩
abbrev cX10_identity : ByteArray := prog_1_method_27_code
def yX10_identity : MethodName := ⟨RX10, "identity", "(I)I"⟩
abbrev cX10_order : ByteArray := prog_1_method_28_code
def yX10_order : MethodName := ⟨RX10, "order", "()I"⟩
abbrev cX10_factor : ByteArray := prog_1_method_29_code
def yX10_factor : MethodName := ⟨RX10, "factor", "(I)J"⟩
abbrev cX10_level : ByteArray := prog_1_method_30_code
def yX10_level : MethodName := ⟨RX10, "level", "()I"⟩
abbrev cX10_levelCount : ByteArray := prog_1_method_31_code
def yX10_levelCount : MethodName := ⟨RX10, "levelCount", "(I)I"⟩
abbrev cX10_tree : ByteArray := prog_1_method_32_code
def yX10_tree : MethodName := ⟨RX10, "tree", "()I"⟩
abbrev cX10_takeTree : ByteArray := prog_1_method_33_code
def yX10_takeTree : MethodName := ⟨RX10, "takeTree", "(I)I"⟩
abbrev cX10_treeAt : ByteArray := prog_1_method_34_code
def yX10_treeAt : MethodName := ⟨RX10, "treeAt", "(I)I"⟩
abbrev cX10_startAnew : ByteArray := prog_1_method_35_code
def yX10_startAnew : MethodName := ⟨RX10, "startAnew", "(I)V"⟩
abbrev cX10_forgetStates : ByteArray := prog_1_method_36_code
def yX10_forgetStates : MethodName := ⟨RX10, "forgetStates", "()V"⟩
abbrev cX10_isRecurrent : ByteArray := prog_1_method_37_code
def yX10_isRecurrent : MethodName := ⟨RX10, "isRecurrent", "()Z"⟩
abbrev cX10_sumOf : ByteArray := prog_1_method_38_code
def yX10_sumOf : MethodName := ⟨RX10, "sumOf", "([I)I"⟩
abbrev cX10_clearChips : ByteArray := prog_1_method_39_code
def yX10_clearChips : MethodName := ⟨RX10, "clearChips", "([I)V"⟩
abbrev cX10_copyChips : ByteArray := prog_1_method_40_code
def yX10_copyChips : MethodName := ⟨RX10, "copyChips", "([I[I)V"⟩
abbrev cX10_isEqual : ByteArray := prog_1_method_41_code
def yX10_isEqual : MethodName := ⟨RX10, "isEqual", "([I[I)Z"⟩
def RX11 : String := "ChipGameModel"
def TX11 : u_T := fun k => match k with
  | 0 => ("ChipGameModel", "n", "I", false)
  | 1 => ("ChipGameModel", "m", "I", false)
  | 2 => ("ChipGameModel", "sink", "I", false)
  | 3 => ("ChipGameModel", "one", "[I", true)
  | 4 => ("ChipGameModel", "other", "[I", true)
  | 5 => ("ChipGameModel", "joins", "[I", true)
  | 6 => ("ChipGameModel", "degreeOf", "[I", true)
  | 7 => ("ChipGameModel", "chip", "[I", true)
  | 8 => ("ChipGameModel", "typed", "I", false)
  | 9 => ("ChipGameModel", "text", "[C", true)
  | 10 => ("ChipGameModel", "round", "[I", true)
  | 11 => ("ChipGameModel", "kept", "I", false)
  | 12 => ("ChipGameModel", "keptChips", "[I", true)
  | 13 => ("ChipGameModel", "isKept", "[Z", true)
  | 14 => ("ChipGameModel", "slotChips", "[I", true)
  | 15 => ("ChipGameModel", "fired", "[I", true)
  | 16 => ("ChipGameModel", "work", "[I", true)
  | 17 => ("ChipGameModel", "zero", "[I", true)
  | 18 => ("ChipGameModel", "first", "[I", true)
  | 19 => ("ChipGameModel", "added", "[I", true)
  | 20 => ("ChipGameModel", "matrix", "[J", true)
  | 21 => ("ChipGameModel", "isCounted", "Z", false)
  | 22 => ("ChipGameModel", "levels", "[I", true)
  | _ => ("ChipGameModel", "usedAt", "[I", true)
def tyX11 : Nat → FieldType := fun k => match k with
  | 0 => .int
  | 1 => .int
  | 2 => .int
  | 3 => .array .int
  | 4 => .array .int
  | 5 => .array .int
  | 6 => .array .int
  | 7 => .array .int
  | 8 => .int
  | 9 => .array .char
  | 10 => .array .int
  | 11 => .int
  | 12 => .array .int
  | 13 => .array .boolean
  | 14 => .array .int
  | 15 => .array .int
  | 16 => .array .int
  | 17 => .array .int
  | 18 => .array .int
  | 19 => .array .int
  | 20 => .array .long
  | 21 => .boolean
  | 22 => .array .int
  | _ => .array .int
abbrev wsX110 : List Cond := u_ws RX11 TX11 24
theorem nmX11 : ∀ a, a < 24 → ∀ b, b < 24 → a ≠ b → (TX11 a).2.1 ≠ (TX11 b).2.1 := by decide +kernel
theorem tyX11_ok : ∀ k, k < 24 → parseFieldDescriptor (TX11 k).2.2.1 = some (tyX11 k) := by decide +kernel
abbrev cX11_init : ByteArray := prog_13_method_1_code
def yX11_init : MethodName := ⟨RX11, "<init>", "()V"⟩
abbrev cX11_in : ByteArray := prog_13_method_2_code
def yX11_in : MethodName := ⟨RX11, "in", "(III)Z"⟩
abbrev cX11_lost : ByteArray := prog_13_method_3_code
def yX11_lost : MethodName := ⟨RX11, "lost", "()J"⟩
abbrev cX11_begin : ByteArray := prog_13_method_4_code
def yX11_begin : MethodName := ⟨RX11, "begin", "(I)V"⟩
abbrev cX11_changed : ByteArray := prog_13_method_5_code
def yX11_changed : MethodName := ⟨RX11, "changed", "()V"⟩
abbrev cX11_join : ByteArray := prog_13_method_6_code
def yX11_join : MethodName := ⟨RX11, "join", "(II)V"⟩
abbrev cX11_reset : ByteArray := prog_13_method_7_code
def yX11_reset : MethodName := ⟨RX11, "reset", "(I)I"⟩
abbrev cX11_isNode : ByteArray := prog_13_method_8_code
def yX11_isNode : MethodName := ⟨RX11, "isNode", "(I)Z"⟩
abbrev cX11_hasChips : ByteArray := prog_13_method_9_code
def yX11_hasChips : MethodName := ⟨RX11, "hasChips", "(I)Z"⟩
abbrev cX11_addEdge : ByteArray := prog_13_method_10_code
def yX11_addEdge : MethodName := ⟨RX11, "addEdge", "(II)I"⟩
abbrev cX11_removeEdge : ByteArray := prog_13_method_11_code
def yX11_removeEdge : MethodName := ⟨RX11, "removeEdge", "(I)I"⟩
abbrev cX11_setSink : ByteArray := prog_13_method_12_code
def yX11_setSink : MethodName := ⟨RX11, "setSink", "(I)I"⟩
abbrev cX11_type : ByteArray := prog_13_method_13_code
def yX11_type : MethodName := ⟨RX11, "type", "(C)I"⟩
abbrev cX11_clearText : ByteArray := prog_13_method_14_code
def yX11_clearText : MethodName := ⟨RX11, "clearText", "()I"⟩
abbrev cX11_isAt : ByteArray := prog_13_method_15_code
def yX11_isAt : MethodName := ⟨RX11, "isAt", "(IC)Z"⟩
abbrev cX11_begins : ByteArray := prog_13_method_16_code
def yX11_begins : MethodName := ⟨RX11, "begins", "(CCCC)Z"⟩
abbrev cX11_isNamed : ByteArray := prog_13_method_17_code
def yX11_isNamed : MethodName := ⟨RX11, "isNamed", "(I)Z"⟩
abbrev cX11_readGraph : ByteArray := prog_13_method_18_code
def yX11_readGraph : MethodName := ⟨RX11, "readGraph", "()I"⟩
abbrev cX11_isConnected : ByteArray := prog_13_method_19_code
def yX11_isConnected : MethodName := ⟨RX11, "isConnected", "()Z"⟩
abbrev cX11_inner : ByteArray := prog_13_method_20_code
def yX11_inner : MethodName := ⟨RX11, "inner", "()I"⟩
abbrev cX11_sum : ByteArray := prog_13_method_21_code
def yX11_sum : MethodName := ⟨RX11, "sum", "()I"⟩
abbrev cX11_value : ByteArray := prog_13_method_22_code
def yX11_value : MethodName := ⟨RX11, "value", "(I)I"⟩
abbrev cX11_degree : ByteArray := prog_13_method_23_code
def yX11_degree : MethodName := ⟨RX11, "degree", "(I)I"⟩
abbrev cX11_edge : ByteArray := prog_13_method_24_code
def yX11_edge : MethodName := ⟨RX11, "edge", "(IZ)I"⟩
abbrev cX11_keepState : ByteArray := prog_13_method_25_code
def yX11_keepState : MethodName := ⟨RX11, "keepState", "()V"⟩
abbrev cX11_undo : ByteArray := prog_13_method_26_code
def yX11_undo : MethodName := ⟨RX11, "undo", "()I"⟩
abbrev cX11_setChips : ByteArray := prog_13_method_27_code
def yX11_setChips : MethodName := ⟨RX11, "setChips", "(II)I"⟩
abbrev cX11_chips : ByteArray := prog_13_method_28_code
def yX11_chips : MethodName := ⟨RX11, "chips", "(I)I"⟩
abbrev cX11_canFire : ByteArray := prog_13_method_29_code
def yX11_canFire : MethodName := ⟨RX11, "canFire", "([II)Z"⟩
abbrev cX11_fireTimes : ByteArray := prog_13_method_30_code
def yX11_fireTimes : MethodName := ⟨RX11, "fireTimes", "([III)V"⟩
abbrev cX11_fire : ByteArray := prog_13_method_31_code
def yX11_fire : MethodName := ⟨RX11, "fire", "(I)I"⟩
abbrev cX11_settle : ByteArray := prog_13_method_32_code
def yX11_settle : MethodName := ⟨RX11, "settle", "([I)I"⟩
abbrev cX11_copy : ByteArray := prog_13_method_33_code
def yX11_copy : MethodName := ⟨RX11, "copy", "([I[I)V"⟩
abbrev cX11_stabilize : ByteArray := prog_13_method_34_code
def yX11_stabilize : MethodName := ⟨RX11, "stabilize", "()I"⟩
abbrev cX11_firings : ByteArray := prog_13_method_35_code
def yX11_firings : MethodName := ⟨RX11, "firings", "(I)I"⟩
abbrev cX11_burn : ByteArray := prog_13_method_36_code
def yX11_burn : MethodName := ⟨RX11, "burn", "([IZ)V"⟩
abbrev cX11_allBurn : ByteArray := prog_13_method_37_code
def yX11_allBurn : MethodName := ⟨RX11, "allBurn", "()Z"⟩
abbrev cX11_isStable : ByteArray := prog_13_method_38_code
def yX11_isStable : MethodName := ⟨RX11, "isStable", "([I)Z"⟩
abbrev cX11_isRecurrent : ByteArray := prog_13_method_39_code
def yX11_isRecurrent : MethodName := ⟨RX11, "isRecurrent", "([I)Z"⟩
abbrev cX11_isSuperstable : ByteArray := prog_13_method_40_code
def yX11_isSuperstable : MethodName := ⟨RX11, "isSuperstable", "([I)Z"⟩
abbrev cX11_fireSet : ByteArray := prog_13_method_41_code
def yX11_fireSet : MethodName := ⟨RX11, "fireSet", "([I)V"⟩
abbrev cX11_lower : ByteArray := prog_13_method_42_code
def yX11_lower : MethodName := ⟨RX11, "lower", "([I)I"⟩
abbrev cX11_raise : ByteArray := prog_13_method_43_code
def yX11_raise : MethodName := ⟨RX11, "raise", "([I)V"⟩
abbrev cX11_reduce : ByteArray := prog_13_method_44_code
def yX11_reduce : MethodName := ⟨RX11, "reduce", "()I"⟩
abbrev cX11_areSame : ByteArray := prog_13_method_45_code
def yX11_areSame : MethodName := ⟨RX11, "areSame", "([I[I)Z"⟩
abbrev cX11_makeRecurrent : ByteArray := prog_13_method_46_code
def yX11_makeRecurrent : MethodName := ⟨RX11, "makeRecurrent", "()I"⟩
abbrev cX11_kind : ByteArray := prog_13_method_47_code
def yX11_kind : MethodName := ⟨RX11, "kind", "()I"⟩
abbrev cX11_burnt : ByteArray := prog_13_method_48_code
def yX11_burnt : MethodName := ⟨RX11, "burnt", "(I)I"⟩
abbrev cX11_noSlot : ByteArray := prog_13_method_49_code
def yX11_noSlot : MethodName := ⟨RX11, "noSlot", "(I)Z"⟩
abbrev cX11_keep : ByteArray := prog_13_method_50_code
def yX11_keep : MethodName := ⟨RX11, "keep", "(I)I"⟩
abbrev cX11_load : ByteArray := prog_13_method_51_code
def yX11_load : MethodName := ⟨RX11, "load", "(I)I"⟩
abbrev cX11_add : ByteArray := prog_13_method_52_code
def yX11_add : MethodName := ⟨RX11, "add", "(I)I"⟩
abbrev cX11_isSameClass : ByteArray := prog_13_method_53_code
def yX11_isSameClass : MethodName := ⟨RX11, "isSameClass", "(I)I"⟩
abbrev cX11_layMatrix : ByteArray := prog_13_method_54_code
def yX11_layMatrix : MethodName := ⟨RX11, "layMatrix", "()V"⟩
abbrev cX11_size : ByteArray := prog_13_method_55_code
def yX11_size : MethodName := ⟨RX11, "size", "(J)J"⟩
abbrev cX11_swap : ByteArray := prog_13_method_56_code
def yX11_swap : MethodName := ⟨RX11, "swap", "(IIZ)V"⟩
abbrev cX11_lessen : ByteArray := prog_13_method_57_code
def yX11_lessen : MethodName := ⟨RX11, "lessen", "(IIJZ)V"⟩
abbrev cX11_bringLeast : ByteArray := prog_13_method_58_code
def yX11_bringLeast : MethodName := ⟨RX11, "bringLeast", "(II)Z"⟩
abbrev cX11_isDone : ByteArray := prog_13_method_59_code
def yX11_isDone : MethodName := ⟨RX11, "isDone", "(II)Z"⟩
abbrev cX11_smith : ByteArray := prog_13_method_60_code
def yX11_smith : MethodName := ⟨RX11, "smith", "()V"⟩
abbrev cX11_treeCount : ByteArray := prog_13_method_61_code
def yX11_treeCount : MethodName := ⟨RX11, "treeCount", "()J"⟩
abbrev cX11_factor : ByteArray := prog_13_method_62_code
def yX11_factor : MethodName := ⟨RX11, "factor", "(I)J"⟩
abbrev cX11_identity : ByteArray := prog_13_method_63_code
def yX11_identity : MethodName := ⟨RX11, "identity", "(I)I"⟩
abbrev cX11_order : ByteArray := prog_13_method_64_code
def yX11_order : MethodName := ⟨RX11, "order", "()I"⟩
abbrev cX11_isEmpty : ByteArray := prog_13_method_65_code
def yX11_isEmpty : MethodName := ⟨RX11, "isEmpty", "([I)Z"⟩
abbrev cX11_level : ByteArray := prog_13_method_66_code
def yX11_level : MethodName := ⟨RX11, "level", "()I"⟩
abbrev cX11_countLevels : ByteArray := prog_13_method_67_code
def yX11_countLevels : MethodName := ⟨RX11, "countLevels", "()V"⟩
abbrev cX11_levelCount : ByteArray := prog_13_method_68_code
def yX11_levelCount : MethodName := ⟨RX11, "levelCount", "(I)I"⟩
abbrev cX11_follow : ByteArray := prog_13_method_69_code
def yX11_follow : MethodName := ⟨RX11, "follow", "(I)I"⟩
abbrev cX11_tree : ByteArray := prog_13_method_70_code
def yX11_tree : MethodName := ⟨RX11, "tree", "()I"⟩
abbrev cX11_bits : ByteArray := prog_13_method_71_code
def yX11_bits : MethodName := ⟨RX11, "bits", "(I)I"⟩
abbrev cX11_isTree : ByteArray := prog_13_method_72_code
def yX11_isTree : MethodName := ⟨RX11, "isTree", "(I)Z"⟩
abbrev cX11_takeTree : ByteArray := prog_13_method_73_code
def yX11_takeTree : MethodName := ⟨RX11, "takeTree", "(I)I"⟩
abbrev cX11_treeAt : ByteArray := prog_13_method_74_code
def yX11_treeAt : MethodName := ⟨RX11, "treeAt", "(I)I"⟩
def RJ6 : String := "java/lang/Integer"
def TJ6 : u_T := fun k => match k with
  | _ => ("", "", "", false)
def tyJ6 : Nat → FieldType := fun k => match k with
  | _ => .int
abbrev wsJ60 : List Cond := u_ws RJ6 TJ6 0
abbrev cJ6_bitCount_0f7a4 : ByteArray := prog_14_method_49_code
def yJ6_bitCount_0f7a4 : MethodName := ⟨RJ6, "bitCount", "(I)I"⟩
def RJ9 : String := "java/lang/Math"
def TJ9 : u_T := fun k => match k with
  | _ => ("", "", "", false)
def tyJ9 : Nat → FieldType := fun k => match k with
  | _ => .int
abbrev wsJ90 : List Cond := u_ws RJ9 TJ9 0
abbrev cJ9_floorMod_f86c9 : ByteArray := prog_15_method_52_code
def yJ9_floorMod_f86c9 : MethodName := ⟨RJ9, "floorMod", "(JJ)J"⟩
abbrev cJ9_abs_067f4 : ByteArray := prog_15_method_61_code
def yJ9_abs_067f4 : MethodName := ⟨RJ9, "abs", "(J)J"⟩
def RJ0 : String := "java/lang/String"
def TJ0 : u_T := fun k => match k with
  | _ => ("", "", "", false)
def tyJ0 : Nat → FieldType := fun k => match k with
  | _ => .int
abbrev wsJ00 : List Cond := u_ws RJ0 TJ0 0
abbrev cJ0_length_8abf5 : ByteArray := prog_16_method_54_code
def yJ0_length_8abf5 : MethodName := ⟨RJ0, "length", "()I"⟩
abbrev cJ0_charAt_5068e : ByteArray := prog_16_method_56_code
def yJ0_charAt_5068e : MethodName := ⟨RJ0, "charAt", "(I)C"⟩
abbrev cJ0_coder_7d493 : ByteArray := prog_16_method_152_code
def yJ0_coder_7d493 : MethodName := ⟨RJ0, "coder", "()B"⟩
abbrev cJ0_isLatin1_aae02 : ByteArray := prog_16_method_154_code
def yJ0_isLatin1_aae02 : MethodName := ⟨RJ0, "isLatin1", "()Z"⟩
abbrev cJ0_checkIndex_df160 : ByteArray := prog_16_method_155_code
def yJ0_checkIndex_df160 : MethodName := ⟨RJ0, "checkIndex", "(II)V"⟩
def RJ1 : String := "java/lang/StringLatin1"
def TJ1 : u_T := fun k => match k with
  | _ => ("", "", "", false)
def tyJ1 : Nat → FieldType := fun k => match k with
  | _ => .int
abbrev wsJ10 : List Cond := u_ws RJ1 TJ1 0
abbrev cJ1_charAt_3b067 : ByteArray := prog_17_method_2_code
def yJ1_charAt_3b067 : MethodName := ⟨RJ1, "charAt", "([BI)C"⟩
def RJ2 : String := "java/lang/StringUTF16"
def TJ2 : u_T := fun k => match k with
  | _ => ("", "", "", false)
def tyJ2 : Nat → FieldType := fun k => match k with
  | _ => .int
abbrev wsJ20 : List Cond := u_ws RJ2 TJ2 0
abbrev cJ2_getChar_3b067 : ByteArray := prog_18_method_5_code
def yJ2_getChar_3b067 : MethodName := ⟨RJ2, "getChar", "([BI)C"⟩
abbrev cJ2_length_9d52b : ByteArray := prog_18_method_6_code
def yJ2_length_9d52b : MethodName := ⟨RJ2, "length", "([B)I"⟩
abbrev cJ2_charAt_3b067 : ByteArray := prog_18_method_83_code
def yJ2_charAt_3b067 : MethodName := ⟨RJ2, "charAt", "([BI)C"⟩
abbrev cJ2_checkIndex_2214a : ByteArray := prog_18_method_91_code
def yJ2_checkIndex_2214a : MethodName := ⟨RJ2, "checkIndex", "(I[B)V"⟩
def RJ3 : String := "jdk/internal/util/Preconditions"
def TJ3 : u_T := fun k => match k with
  | _ => ("", "", "", false)
def tyJ3 : Nat → FieldType := fun k => match k with
  | _ => .int
abbrev wsJ30 : List Cond := u_ws RJ3 TJ3 0
abbrev cJ3_checkIndex_8e157 : ByteArray := prog_19_method_11_code
def yJ3_checkIndex_8e157 : MethodName := ⟨RJ3, "checkIndex", "(IILjava/util/function/BiFunction;)I"⟩
def RL : String := "ChipGameLaw"
abbrev cL_law : ByteArray := code
def yL_law : MethodName := ⟨RL, "law", "([I)Z"⟩
abbrev vwCl : List vw_C := [(RX0, TX0, 3), (RX1, TX1, 3), (RX2, TX2, 8), (RX3, TX3, 3), (RX4, TX4, 4), (RX5, TX5, 5), (RX7, TX7, 2), (RX8, TX8, 2), (RX9, TX9, 3), (RX10, TX10, 12), (RX11, TX11, 24)]
end
section
/-! CORE 1: stores of whole numbers, values, the world of cells that a store stands for -/
abbrev Sto : Type := Nat → Nat → Int
def up (s : Sto) (k i : Nat) (x : Int) : Sto := fun k' i' => if k' = k ∧ i' = i then x else s k' i'
theorem up_eq (s : Sto) (k i : Nat) (x : Int) : up s k i x k i = x := by simp [up]
theorem up_ne {s : Sto} {k i : Nat} {x : Int} {k' i' : Nat} (h : ¬ (k' = k ∧ i' = i)) : up s k i x k' i' = s k' i' := if_neg h
theorem up_k {s : Sto} {k i : Nat} {x : Int} {k' i' : Nat} (h : k' ≠ k) : up s k i x k' i' = s k' i' := up_ne (fun q => h q.1)
theorem up_i {s : Sto} {k i : Nat} {x : Int} {k' i' : Nat} (h : i' ≠ i) : up s k i x k' i' = s k' i' := up_ne (fun q => h q.2)
def iV (x : Int) : Value := .int (Int32.ofInt x)
def jV (x : Int) : Value := .long (Int64.ofInt x)
def tv (ad : Nat → Nat) (v : Value) : Value := match v with
  | .ref k => .ref (ad k)
  | v => v
theorem tv_cat (ad : Nat → Nat) (v : Value) : (tv ad v).category = v.category := by cases v <;> rfl
def tl (ad : Nat → Nat) (l : List (Nat × Value)) : List (Nat × Value) := l.map (fun q => (q.1, tv ad q.2))
def ts (ad : Nat → Nat) (st : List Value) : List Value := st.map (tv ad)
theorem ts_cat (ad : Nat → Nat) (st : List Value) : (ts ad st).map (fun v => v.category) = st.map (fun v => v.category) := by
  induction st with
  | nil => rfl
  | cons a r ih => simp [ts, tv_cat] at ih ⊢
theorem ts_rev (ad : Nat → Nat) (as : List Value) : ts ad as.reverse = (ts ad as).reverse := by simp [ts]
theorem tl_args (ad : Nat → Nat) (as : List Value) : ∀ i, lv_args i (ts ad as) = tl ad (lv_args i as) := by
  induction as with
  | nil => intro i; rfl
  | cons a r ih =>
    intro i
    show (i, tv ad a) :: lv_args (if (tv ad a).category = 2 then i + 2 else i + 1) (ts ad r) = _
    rw [tv_cat, ih]
    rfl
theorem lg_ts (ad : Nat → Nat) (as : List Value) : (lg_sl (ts ad as)).length = (lg_sl as).length := by
  induction as with
  | nil => rfl
  | cons a r ih =>
    have e : ∀ (v : Value) (w : List Value), lg_sl (v :: w) = (if v.category = 2 then [Slot.val v, .second] else [.val v]) ++ lg_sl w := fun v w => by simp [lg_sl]
    show (lg_sl (tv ad a :: ts ad r)).length = _
    rw [e, e, List.length_append, List.length_append, ih, tv_cat]
    congr 1
    by_cases h : a.category = 2 <;> simp [h]
/-- how many cells; each cell's kind (0 object, 1 int, 2 long, 3 char, 4 boolean, 5 rows of ints, 6 rows of longs), length, class; its references -/
abbrev Shp : Type := Nat × (Nat → Nat × Nat × Nat) × (Nat → Nat → Option Nat)
def nc (S : Shp) : Nat := S.1
def kd (S : Shp) (k : Nat) : Nat := (S.2.1 k).1
def ln (S : Shp) (k : Nat) : Nat := (S.2.1 k).2.1
def ci (S : Shp) (k : Nat) : Nat := (S.2.1 k).2.2
def fr (S : Shp) (k i : Nat) : Option Nat := S.2.2 k i
def fV (S : Shp) (ad : Nat → Nat) (s : Sto) (k i : Nat) : Value := match fr S k i with
  | some j => .ref (ad j)
  | none => .int (Int32.ofInt (s k i))
def cE (S : Shp) (ad : Nat → Nat) (cA : Nat → ClassId) (s : Sto) (k : Nat) : va_E :=
  if kd S k = 0 then .inr (ci S k, (List.range (ln S k)).map (fV S ad s k))
  else if kd S k = 2 then .inl (cA 2, ln S k, .inr (.inl (fun i => Int64.ofInt (s k i))))
  else if kd S k = 5 then .inl (cA 5, ln S k, .inr (.inr (.inr (.inr (fun i => (fr S k i).map ad)))))
  else if kd S k = 6 then .inl (cA 6, ln S k, .inr (.inr (.inr (.inr (fun i => (fr S k i).map ad)))))
  else .inl (cA (kd S k), ln S k, .inl (fun i => Int32.ofInt (s k i)))
def wd (S : Shp) (ad : Nat → Nat) (cA : Nat → ClassId) (s : Sto) : va_W := (List.range (nc S)).map (fun k => (ad k, cE S ad cA s k))
theorem wd_at {S : Shp} {ad : Nat → Nat} {cA : Nat → ClassId} {s : Sto} {k : Nat} (h : k < nc S) : (wd S ad cA s)[k]? = some (ad k, cE S ad cA s k) := by
  simp [wd, h]
theorem wd_get {S : Shp} {ad : Nat → Nat} {cA : Nat → ClassId} {s : Sto} {k : Nat} {q : Nat × va_E} (h : (wd S ad cA s)[k]? = some q) : k < nc S ∧ q = (ad k, cE S ad cA s k) := by
  by_cases hk : k < nc S
  · rw [wd_at hk] at h
    exact ⟨hk, (Option.some.inj h).symm⟩
  · simp [wd, hk] at h
def AW (S : Shp) (ad : Nat → Nat) : Nat → Prop := fun q => ∃ k, k < nc S ∧ q = ad k
def DJ (S : Shp) (ad : Nat → Nat) : Prop := ∀ i j, i < nc S → j < nc S → ad i = ad j → i = j
theorem wd_D {S : Shp} {ad : Nat → Nat} {cA : Nat → ClassId} {s : Sto} (h : DJ S ad) : va_D (AW S ad) (wd S ad cA s) := by
  refine ⟨fun i j p q hi hj e => ?_, fun k q hk => ?_⟩
  · obtain ⟨h1, rfl⟩ := wd_get hi
    obtain ⟨h2, rfl⟩ := wd_get hj
    exact h i j h1 h2 e
  · obtain ⟨h1, rfl⟩ := wd_get hk
    exact ⟨k, h1, rfl⟩
theorem wd_set {S : Shp} {ad : Nat → Nat} {cA : Nat → ClassId} {s s' : Sto} {k : Nat} {e : va_E} (hk : k < nc S) (he : e = cE S ad cA s' k) (ho : ∀ j, j < nc S → j ≠ k → cE S ad cA s j = cE S ad cA s' j) : (wd S ad cA s).set k (ad k, e) = wd S ad cA s' := by
  subst he
  apply List.ext_getElem?
  intro j
  by_cases hj : j = k
  · subst hj
    rw [List.getElem?_set_self (by simp [wd, hk]), wd_at hk]
  · rw [List.getElem?_set_ne (Ne.symm hj)]
    by_cases hl : j < nc S
    · rw [wd_at hl, wd_at hl, ho j hl hj]
    · simp [wd, hl]
theorem cE_up_ne {S : Shp} {ad : Nat → Nat} {cA : Nat → ClassId} {s : Sto} {k i : Nat} {x : Int} {j : Nat} (h : j ≠ k) : cE S ad cA s j = cE S ad cA (up s k i x) j := by
  have e : ∀ i', up s k i x j i' = s j i' := fun i' => up_k h
  have e2 : fV S ad (up s k i x) j = fV S ad s j := by
    funext i'
    unfold fV
    cases fr S j i' with
    | some _ => rfl
    | none => simp [e]
  unfold cE
  simp only [e, e2]
def tysOf (cA : Nat → ClassId) : List (ClassId × FieldType) := [(cA 1, .int), (cA 2, .long), (cA 3, .char), (cA 4, .boolean), (cA 5, .array .int), (cA 6, .array .long)]
def TW : List Cond := lw_tbl.filter goodWord
theorem tw_in {w : Cond} (h : w ∈ lw_tbl) (g : goodWord w = true) : w ∈ TW := List.mem_filter.mpr ⟨h, g⟩
theorem tw_good {c : Cond} (hc : c ∈ TW) {ws : List Cond} (h : ∀ w ∈ ws, w ∈ TW) : GoodIn (c :: TW) ws := fun w hw => ⟨List.mem_cons_of_mem _ (h w hw), good_of_word (List.mem_filter.mp (h w hw)).2⟩
theorem ofInt_toInt32 {x : Int} (h : -2147483648 ≤ x ∧ x < 2147483648) : (Int32.ofInt x).toInt = x := by
  have e : ((Int32.size : Nat) : Int) = 4294967296 := rfl
  rw [Int32.toInt_ofInt, Int.bmod_eq_of_le] <;> omega
theorem ofInt_toInt64 {x : Int} (h : -9223372036854775808 ≤ x ∧ x < 9223372036854775808) : (Int64.ofInt x).toInt = x := by
  have e : ((Int64.size : Nat) : Int) = 18446744073709551616 := rfl
  rw [Int64.toInt_ofInt, Int.bmod_eq_of_le] <;> omega
theorem i32_lt {x y : Int} (h : (-2147483648 ≤ x ∧ x < 2147483648) ∧ -2147483648 ≤ y ∧ y < 2147483648) : Int32.ofInt x < Int32.ofInt y ↔ x < y := by
  rw [Int32.lt_iff_toInt_lt, ofInt_toInt32 h.1, ofInt_toInt32 h.2]
theorem i32_le {x y : Int} (h : (-2147483648 ≤ x ∧ x < 2147483648) ∧ -2147483648 ≤ y ∧ y < 2147483648) : Int32.ofInt x ≤ Int32.ofInt y ↔ x ≤ y := by
  rw [Int32.le_iff_toInt_le, ofInt_toInt32 h.1, ofInt_toInt32 h.2]
theorem i32_eq {x y : Int} (h : (-2147483648 ≤ x ∧ x < 2147483648) ∧ -2147483648 ≤ y ∧ y < 2147483648) : Int32.ofInt x = Int32.ofInt y ↔ x = y := by
  rw [← Int32.toInt_inj, ofInt_toInt32 h.1, ofInt_toInt32 h.2]
theorem i64_lt {x y : Int} (h : (-9223372036854775808 ≤ x ∧ x < 9223372036854775808) ∧ -9223372036854775808 ≤ y ∧ y < 9223372036854775808) : Int64.ofInt x < Int64.ofInt y ↔ x < y := by
  rw [Int64.lt_iff_toInt_lt, ofInt_toInt64 h.1, ofInt_toInt64 h.2]
theorem i64_eq {x y : Int} (h : (-9223372036854775808 ≤ x ∧ x < 9223372036854775808) ∧ -9223372036854775808 ≤ y ∧ y < 9223372036854775808) : Int64.ofInt x = Int64.ofInt y ↔ x = y := by
  rw [← Int64.toInt_inj, ofInt_toInt64 h.1, ofInt_toInt64 h.2]
theorem i32_add (x y : Int) : Int32.ofInt x + Int32.ofInt y = Int32.ofInt (x + y) := (Int32.ofInt_add x y).symm
theorem i32_sub (x y : Int) : Int32.ofInt x - Int32.ofInt y = Int32.ofInt (x - y) := (Int32.ofInt_sub x y).symm
theorem i32_mul (x y : Int) : Int32.ofInt x * Int32.ofInt y = Int32.ofInt (x * y) := (Int32.ofInt_mul x y).symm
theorem i32_neg (x : Int) : -Int32.ofInt x = Int32.ofInt (-x) := (Int32.ofInt_neg x).symm
theorem i64_add (x y : Int) : Int64.ofInt x + Int64.ofInt y = Int64.ofInt (x + y) := (Int64.ofInt_add x y).symm
theorem i64_sub (x y : Int) : Int64.ofInt x - Int64.ofInt y = Int64.ofInt (x - y) := (Int64.ofInt_sub x y).symm
theorem i64_mul (x y : Int) : Int64.ofInt x * Int64.ofInt y = Int64.ofInt (x * y) := (Int64.ofInt_mul x y).symm
theorem i64_neg (x : Int) : -Int64.ofInt x = Int64.ofInt (-x) := (Int64.ofInt_neg x).symm
theorem i32_div {x y : Int} (h : (-2147483648 ≤ x ∧ x < 2147483648) ∧ -2147483648 ≤ y ∧ y < 2147483648) : Int32.ofInt x / Int32.ofInt y = Int32.ofInt (x.tdiv y) := by
  apply Int32.toInt_inj.mp
  rw [Int32.toInt_div, ofInt_toInt32 h.1, ofInt_toInt32 h.2, Int32.toInt_ofInt]
theorem i64_div {x y : Int} (h : (-9223372036854775808 ≤ x ∧ x < 9223372036854775808) ∧ -9223372036854775808 ≤ y ∧ y < 9223372036854775808) : Int64.ofInt x / Int64.ofInt y = Int64.ofInt (x.tdiv y) := by
  apply Int64.toInt_inj.mp
  rw [Int64.toInt_div, ofInt_toInt64 h.1, ofInt_toInt64 h.2, Int64.toInt_ofInt]
theorem i32_rem {x y : Int} (h : (-2147483648 ≤ x ∧ x < 2147483648) ∧ -2147483648 ≤ y ∧ y < 2147483648) : Int32.ofInt x - Int32.ofInt x / Int32.ofInt y * Int32.ofInt y = Int32.ofInt (x.tmod y) := by
  rw [i32_div h, i32_mul, i32_sub]
  congr 1
  have := Int.mul_tdiv_add_tmod x y
  rw [Int.mul_comm] at this
  omega
theorem i64_rem {x y : Int} (h : (-9223372036854775808 ≤ x ∧ x < 9223372036854775808) ∧ -9223372036854775808 ≤ y ∧ y < 9223372036854775808) : Int64.ofInt x - Int64.ofInt x / Int64.ofInt y * Int64.ofInt y = Int64.ofInt (x.tmod y) := by
  rw [i64_div h, i64_mul, i64_sub]
  congr 1
  have := Int.mul_tdiv_add_tmod x y
  rw [Int.mul_comm] at this
  omega
theorem i32_ix {i : Int} {n : Nat} (h : 0 ≤ i ∧ i < n) (hn : n < 2147483648) : vp_in (Int32.ofInt i) n ∧ (Int32.ofInt i).toNatClampNeg = i.toNat := by
  have e := ofInt_toInt32 (x := i) (by omega)
  refine ⟨vp_in_iff.mpr (by rw [e]; omega), ?_⟩
  show (Int32.ofInt i).toInt.toNat = i.toNat
  rw [e]
def iand (x y : Int) : Int := (Int32.ofInt x &&& Int32.ofInt y).toInt
def ior (x y : Int) : Int := (Int32.ofInt x ||| Int32.ofInt y).toInt
def ixor (x y : Int) : Int := (Int32.ofInt x ^^^ Int32.ofInt y).toInt
def ishl (x y : Int) : Int := (Int32.ofInt x <<< (Int32.ofInt y &&& 31)).toInt
def ishr (x y : Int) : Int := (Int32.ofInt x >>> (Int32.ofInt y &&& 31)).toInt
theorem i32_inv (a : Int32) : Int32.ofInt a.toInt = a := Int32.ofInt_toInt a
theorem i32_i2l {x : Int} (h : -2147483648 ≤ x ∧ x < 2147483648) : (Int32.ofInt x).toInt64 = Int64.ofInt x := by
  apply Int64.toInt_inj.mp
  rw [Int32.toInt_toInt64, ofInt_toInt32 h, ofInt_toInt64 (by omega)]
theorem i64_l2i (x : Int) : (Int64.ofInt x).toInt32 = Int32.ofInt x := Int64.toInt32_ofInt
end
section
/-! CORE 2: what a method may take as given; the judgement Go; contracts Sp; returns and calls -/
def nestM : List (String × Nat × MethodName × String) := [("ChipGame", 11, yX2_init, "ChipGame"), ("ChipGame", 20, yX8_init, "ChipGame"), ("ChipGame", 27, yX3_init, "ChipGame"), ("ChipGame", 34, yX7_init, "ChipGame"), ("ChipGame$Firing", 55, yX10_clearChips, "ChipGame"), ("ChipGame$History", 23, yX10_copyChips, "ChipGame"), ("ChipGame$Slots", 24, yX10_copyChips, "ChipGame"), ("ChipGame$Trees", 47, yX10_clearChips, "ChipGame")]
def NW (U : State) : Prop := ∀ q ∈ nestM, va_Nw (.methodLinkNest q.1 q.2.1 q.2.2.1 q.2.2.2) U
theorem NW.warm {s U : State} (hW : s.WarmedH U.vm) (h : NW s) : NW U := fun q hq => va_Nw.warmM hW (h q hq)
theorem NW.same {u U : State} (e : u.vm = U.vm) (h : NW u) : NW U := fun q hq => va_Nw.same rfl e (h q hq)
def strL : List Nat := [4, 5, 8, 4, 5, 0]
def strB : List (List Int32) := [[112, 97, 116, 104], [99, 121, 99, 108, 101], [99, 111, 109, 112, 108, 101, 116, 101], [115, 116, 97, 114], [119, 104, 101, 101, 108], []]
def strT : List (Nat × String) := [(7, "path"), (9, "cycle"), (11, "complete"), (13, "star"), (15, "wheel"), (17, "")]
def leastL : List Int32 := [2, 3, 2, 2, 4]
def mostL : List Int32 := [8, 8, 6, 8, 8]
/-- the constants: the names, the two tables of numbers, String's own flag -/
def XS (ad : Nat → Nat) (A : Nat → Prop) (U : State) (H : Heap) : Prop :=
  (vk_S 6 strL strB (fun i => ad (1000 + i)) (fun i => ad (1010 + i)) A U H ∧ va_Z "ChipGame$Shapes" "LEAST" "[I" (.ref (ad 1020)) A U H ∧ va_T .int (ad 1020) 5 (fun j => .int (leastL.getD j 0)) A U H ∧ va_Z "ChipGame$Shapes" "MOST" "[I" (.ref (ad 1021)) A U H ∧ va_T .int (ad 1021) 5 (fun j => .int (mostL.getD j 0)) A U H ∧ va_Z "java/lang/String" "COMPACT_STRINGS" "Z" (.int 1) A U H) ∧
  ∀ i : Nat, ∀ q : Nat × String, strT[i]? = some q → vk_R "ChipGame$Shapes" q.1 q.2 (ad (1000 + i)) U
theorem XS.tr {ad : Nat → Nat} {A B : Nat → Prop} {s U : State} {H0 H : Heap} (h : XS ad A s H0) (hW : s.WarmedH U.vm) (hq : ∀ a : Nat, a < H0.size → ¬ A a → H[a]? = H0[a]?) (hAB : ∀ q, B q → A q) : XS ad B U H := by
  obtain ⟨⟨h1, h2, h3, h4, h5, h6⟩, h7⟩ := h
  have m := hW.alike
  exact ⟨⟨((h1.moved m).kept hq).narrow hAB, ((h2.moved m).kept hq).narrow hAB, ((h3.moved m).kept hq).narrow hAB, ((h4.moved m).kept hq).narrow hAB, ((h5.moved m).kept hq).narrow hAB, ((h6.moved m).kept hq).narrow hAB⟩, fun i q e => vk_R.warm hW (h7 i q e)⟩
theorem XS.same {ad : Nat → Nat} {A : Nat → Prop} {u U : State} {H : Heap} (e : U.vm = u.vm) (h : XS ad A u H) : XS ad A U H := by
  obtain ⟨⟨h1, h2, h3, h4, h5, h6⟩, h7⟩ := h
  have m : u.vm.Alike U.vm := by rw [e]; exact Vm.Alike.refl _
  exact ⟨⟨h1.moved m, h2.moved m, h3.moved m, h4.moved m, h5.moved m, h6.moved m⟩, fun i q e2 => vk_R.same e (h7 i q e2)⟩
/-- a method: its code, its class, its places for locals, what it returns, its room -/
abbrev Mth : Type := ByteArray × String × Nat × Option FieldType × Room
def Cx (S : Shp) (M : Mth) (p : Program) (s : State) (m : MethodId) (args : Array Value) (meth : Method) (c : Code) (D : va_G) (cA : Nat → ClassId) (ad : Nat → Nat) : Prop :=
  p.tables.exec = Jvm.exec ∧ c.code = M.1 ∧ meth.sig.returnType = M.2.2.2.1 ∧ c.maxLocals = M.2.2.1 ∧ s.vm.findClass M.2.1 = some m.cls ∧ (∀ w ∈ TW, w.before args s = true) ∧ meth.locks = false ∧ va_K D vwCl (tysOf cA) s ∧ DJ S ad ∧ NW s ∧ XS ad (AW S ad) s s.heap
def QQ (S : Shp) (D : va_G) (cA : Nat → ClassId) (ad : Nat → Nat) (F : Option Value → Sto → Prop) : Array Value → State → Outcome → State → Prop := fun _ st oc t =>
  (∃ (r : Option Value) (s' : Sto), oc = .returned (r.map (tv ad)) ∧ F r s' ∧ va_P D vwCl (wd S ad cA s') t.heap) ∧ va_F (AW S ad) st t
def Go (S : Shp) (M : Mth) (F : Option Value → Sto → Prop) (pc : Nat) (l : List (Nat × Value)) (st : List Value) (s : Sto) : Prop :=
  ∀ (p : Program) (lc : Launch) (e : Env) (u : State) (m : MethodId) (args : Array Value) (below : List Frame) (meth : Method) (c : Code) (D : va_G) (cA : Nat → ClassId) (ad : Nat → Nat) (H : Heap) (locs : List Loc) (ls : Array Slot),
    Cx S M p u m args meth c D cA ad → va_P D vwCl (wd S ad cA s) H → va_S (AW S ad) u.heap H locs → lv_has ls M.2.2.1 (tl ad l) →
    W p lc e M.2.2.2.2 u m args below meth c H locs 0 0 (MQ below (QQ S D cA ad F) args u 0 0 (AW S ad)) (F0 m pc ls (ts ad st))
/-- a contract: from the store s, with the arguments, the method returns with F -/
def Sp (S : Shp) (y : MethodName) (w : Cond) (R : Room) (as : List Value) (s : Sto) (F : Option Value → Sto → Prop) : Prop :=
  ∀ (l : Launch) (D : va_G) (cA : Nat → ClassId) (ad : Nat → Nat), Met l y (w :: TW) R (va_Pc (ts ad as) (fun U => va_P D vwCl (wd S ad cA s) U.heap ∧ va_K D vwCl (tysOf cA) U ∧ DJ S ad ∧ NW U ∧ XS ad (AW S ad) U U.heap)) (QQ S D cA ad F) 0 0 (AW S ad)
def SpI (S : Shp) (y : MethodName) (w : Cond) (R : Room) (as : List Value) (s : Sto) (F : Int → Sto → Prop) : Prop := Sp S y w R as s (fun r s' => ∃ x, r = some (iV x) ∧ F x s')
def SpJ (S : Shp) (y : MethodName) (w : Cond) (R : Room) (as : List Value) (s : Sto) (F : Int → Sto → Prop) : Prop := Sp S y w R as s (fun r s' => ∃ x, r = some (jV x) ∧ F x s')
def SpV (S : Shp) (y : MethodName) (w : Cond) (R : Room) (as : List Value) (s : Sto) (F : Sto → Prop) : Prop := Sp S y w R as s (fun r s' => r = none ∧ F s')
def SpR (S : Shp) (y : MethodName) (w : Cond) (R : Room) (as : List Value) (s : Sto) (F : Nat → Sto → Prop) : Prop := Sp S y w R as s (fun r s' => ∃ k, r = some (.ref k) ∧ F k s')
theorem QQ.mono {S : Shp} {D : va_G} {cA : Nat → ClassId} {ad : Nat → Nat} {F G : Option Value → Sto → Prop} (h : ∀ r s, F r s → G r s) {a : Array Value} {st t : State} {o : Outcome} (q : QQ S D cA ad F a st o t) : QQ S D cA ad G a st o t := by
  obtain ⟨⟨r, s', h1, h2, h3⟩, h4⟩ := q
  exact ⟨⟨r, s', h1, h r s' h2, h3⟩, h4⟩
theorem Go.mono {S : Shp} {M : Mth} {F G : Option Value → Sto → Prop} {pc : Nat} {l : List (Nat × Value)} {st : List Value} {s : Sto} (h : ∀ r s, F r s → G r s) (k : Go S M F pc l st s) : Go S M G pc l st s := by
  intro p lc e u m args below meth c D cA ad H locs ls X hP hS hl T hT Y
  obtain ⟨t, h1, o, h2, h3, h4, h5⟩ := k p lc e u m args below meth c D cA ad H locs ls X hP hS hl T hT Y
  exact ⟨t, h1, o, h2, h3, h4.mono h, h5⟩
/-- a contract out of a walk of the body -/
theorem Sp.body {S : Shp} {y : MethodName} {cc : ByteArray} {nL : Nat} {ret : Option FieldType} {R : Room} {as : List Value} {s : Sto} {F : Option Value → Sto → Prop} (hy : plainName y.cls = true) (hn : (lg_sl as).length ≤ nL)
    (k : Go S (cc, y.cls, nL, ret, R) F 0 (lv_args 0 as) [] s) : Sp S y (Cond.code y cc nL ret) R as s F := by
  intro l D cA ad
  refine Met.ofW (cc := cc) (maxL := nL) (ret := ret) hy rfl ?_
  intro p e u m args below meth c s₁ B hml hv
  obtain ⟨rfl, hP, hK, hDJ, hN, hX⟩ := hv
  have hts : ∀ w ∈ (Cond.code y cc nL ret :: TW), w.before (ts ad as).toArray u = true := atoms_spec (ws := Cond.code y cc nL ret :: TW) B.pre
  have hown : u.vm.findClass y.cls = some m.cls := findClass_of_methodNamed B.named
  rw [lg_entry_eq]
  have hl := lv_entry (ts ad as) (n := nL) (by rw [lg_ts]; exact hn)
  rw [tl_args] at hl
  exact k p l e u m _ below meth c D cA ad u.heap [] _ ⟨B.exec, B.bytes, B.returns, hml, hown, fun w hw => hts w (List.mem_cons_of_mem _ hw), B.notSynchronized, hK, hDJ, hN, hX⟩ hP va_S.rf hl
def lins (q : Nat × Value) (l : List (Nat × Value)) : List (Nat × Value) := match l with
  | [] => [q]
  | a :: r => if q.1 < a.1 then q :: a :: r else a :: lins q r
theorem lins_mem {q a : Nat × Value} {l : List (Nat × Value)} (h : a ∈ lins q l) : a = q ∨ a ∈ l := by
  induction l with
  | nil => exact Or.inl (List.mem_singleton.mp h)
  | cons b r ih =>
    unfold lins at h
    split at h
    · rcases List.mem_cons.mp h with h | h
      · exact Or.inl h
      · exact Or.inr h
    · rcases List.mem_cons.mp h with h | h
      · exact Or.inr (by rw [h]; exact List.mem_cons_self)
      · rcases ih h with h | h
        · exact Or.inl h
        · exact Or.inr (List.mem_cons_of_mem _ h)
def keep1 (i : Nat) (q : Nat × Value) : Bool := !(q.1 == i) && !(q.1 + 1 == i && q.2.category == 2)
def keep2 (i : Nat) (q : Nat × Value) : Bool := !(q.1 == i) && (!(q.1 == i + 1) && !(q.1 + 1 == i && q.2.category == 2))
def lset (l : List (Nat × Value)) (i : Nat) (v : Value) : List (Nat × Value) := lins (i, v) (l.filter (keep1 i))
def lset2 (l : List (Nat × Value)) (i : Nat) (v : Value) : List (Nat × Value) := lins (i, v) (l.filter (keep2 i))
def lget (l : List (Nat × Value)) (i : Nat) : Option Value := (l.find? (fun q => q.1 == i)).map (fun q => q.2)
theorem lget_at {ad : Nat → Nat} {ls : Array Slot} {nL : Nat} {l : List (Nat × Value)} {i : Nat} {v : Value} (h : lv_has ls nL (tl ad l)) (e : lget l i = some v) : ls[i]? = some (.val (tv ad v)) := by
  unfold lget at e
  cases hf : l.find? (fun q => q.1 == i) with
  | none => rw [hf] at e; cases e
  | some q =>
    rw [hf] at e
    have h1 := List.mem_of_find?_eq_some hf
    have h2 := List.find?_some hf
    have hi : q.1 = i := by simpa using h2
    have hv : q.2 = v := Option.some.inj e
    have := h.2.2 (q.1, tv ad q.2) (List.mem_map.mpr ⟨q, h1, rfl⟩)
    rw [hi, hv] at this
    exact this
theorem lset_has {ad : Nat → Nat} {ls : Array Slot} {nL : Nat} {l : List (Nat × Value)} {i : Nat} {v : Value} (h : lv_has ls nL ((i, tv ad v) :: (tl ad l).filter (fun q => !(q.1 == i) && !(q.1 + 1 == i && q.2.category == 2)))) : lv_has ls nL (tl ad (lset l i v)) := by
  refine ⟨h.1, h.2.1, fun q hq => ?_⟩
  obtain ⟨a, ha, rfl⟩ := List.mem_map.mp hq
  rcases lins_mem ha with rfl | ha
  · exact h.2.2 _ List.mem_cons_self
  · obtain ⟨h1, h2⟩ := List.mem_filter.mp ha
    refine h.2.2 _ (List.mem_cons_of_mem _ (List.mem_filter.mpr ⟨List.mem_map.mpr ⟨a, h1, rfl⟩, ?_⟩))
    simp only [tv_cat]
    exact h2
theorem lset2_has {ad : Nat → Nat} {ls : Array Slot} {nL : Nat} {l : List (Nat × Value)} {i : Nat} {v : Value} (h : lv_has ls nL ((i, tv ad v) :: (tl ad l).filter (fun q => !(q.1 == i) && (!(q.1 == i + 1) && !(q.1 + 1 == i && q.2.category == 2))))) : lv_has ls nL (tl ad (lset2 l i v)) := by
  refine ⟨h.1, h.2.1, fun q hq => ?_⟩
  obtain ⟨a, ha, rfl⟩ := List.mem_map.mp hq
  rcases lins_mem ha with rfl | ha
  · exact h.2.2 _ List.mem_cons_self
  · obtain ⟨h1, h2⟩ := List.mem_filter.mp ha
    refine h.2.2 _ (List.mem_cons_of_mem _ (List.mem_filter.mpr ⟨List.mem_map.mpr ⟨a, h1, rfl⟩, ?_⟩))
    simp only [tv_cat]
    exact h2
/-- some locals are forgotten -/
theorem Go.lsub {S : Shp} {M : Mth} {F : Option Value → Sto → Prop} {pc : Nat} {l l' : List (Nat × Value)} {st : List Value} {s : Sto} (is : List Nat) (h : lv_pick l is = l') (k : Go S M F pc l' st s) : Go S M F pc l st s := by
  intro p lc e u m args below meth c D cA ad H locs ls X hP hS hl
  refine k p lc e u m args below meth c D cA ad H locs ls X hP hS ⟨hl.1, hl.2.1, fun q hq => ?_⟩
  obtain ⟨a, ha, rfl⟩ := List.mem_map.mp hq
  rw [← h] at ha
  obtain ⟨j, -, hj⟩ := List.mem_filterMap.mp ha
  exact hl.2.2 _ (List.mem_map.mpr ⟨a, List.mem_of_getElem? hj, rfl⟩)
end
section
/-! CORE 3: a row an instruction -/
theorem g_iconst {S : Shp} {M : Mth} {F : Option Value → Sto → Prop} {pc npc : Nat} {l : List (Nat × Value)} {st : List Value} {s : Sto} {n : Int} (hd : decode M.1 pc = .ok (.iconst n, 1)) (hn : pc + 1 = npc) (k : Go S M F npc l (iV n :: st) s) : Go S M F pc l (st) s := by
  subst hn
  intro p lc e u m args below meth c D cA ad H locs ls X hP hS hl
  exact lv_iconst X.1 X.2.1 hd rfl (k p lc e u m args below meth c D cA ad H locs ls X hP hS hl)
theorem g_bipush {S : Shp} {M : Mth} {F : Option Value → Sto → Prop} {pc npc : Nat} {l : List (Nat × Value)} {st : List Value} {s : Sto} {n : Int} {x : Int} (hd : decode M.1 pc = .ok (.bipush n, 2)) (hn : pc + 2 = npc) (hv : (Int8.ofInt n).toInt32 = Int32.ofInt x) (k : Go S M F npc l (iV x :: st) s) : Go S M F pc l (st) s := by
  subst hn
  intro p lc e u m args below meth c D cA ad H locs ls X hP hS hl
  exact lv_bipush X.1 X.2.1 hd hv (k p lc e u m args below meth c D cA ad H locs ls X hP hS hl)
theorem g_sipush {S : Shp} {M : Mth} {F : Option Value → Sto → Prop} {pc npc : Nat} {l : List (Nat × Value)} {st : List Value} {s : Sto} {n : Int} {x : Int} (hd : decode M.1 pc = .ok (.sipush n, 3)) (hn : pc + 3 = npc) (hv : (Int16.ofInt n).toInt32 = Int32.ofInt x) (k : Go S M F npc l (iV x :: st) s) : Go S M F pc l (st) s := by
  subst hn
  intro p lc e u m args below meth c D cA ad H locs ls X hP hS hl
  exact lv_sipush X.1 X.2.1 hd hv (k p lc e u m args below meth c D cA ad H locs ls X hP hS hl)
theorem g_lconst {S : Shp} {M : Mth} {F : Option Value → Sto → Prop} {pc npc : Nat} {l : List (Nat × Value)} {st : List Value} {s : Sto} {n : Fin 2} {x : Int} (hd : decode M.1 pc = .ok (.lconst n, 1)) (hn : pc + 1 = npc) (hv : Int64.ofNat (n : Nat) = Int64.ofInt x) (k : Go S M F npc l (jV x :: st) s) : Go S M F pc l (st) s := by
  subst hn
  intro p lc e u m args below meth c D cA ad H locs ls X hP hS hl
  exact lv_lconst X.1 X.2.1 hd hv (k p lc e u m args below meth c D cA ad H locs ls X hP hS hl)
theorem g_ldc {S : Shp} {M : Mth} {F : Option Value → Sto → Prop} {pc npc : Nat} {l : List (Nat × Value)} {st : List Value} {s : Sto} {index : Nat} {x : Int} (hd : decode M.1 pc = .ok (.ldc index, 2)) (hn : pc + 2 = npc) (hc : Cond.constant M.2.1 index (Int32.ofInt x) ∈ TW) (k : Go S M F npc l (iV x :: st) s) : Go S M F pc l (st) s := by
  subst hn
  intro p lc e u m args below meth c D cA ad H locs ls X hP hS hl
  exact lv_ldc X.1 X.2.1 X.2.2.2.2.1 (X.2.2.2.2.2.1 _ hc) hd (k p lc e u m args below meth c D cA ad H locs ls X hP hS hl)
theorem g_ldc2 {S : Shp} {M : Mth} {F : Option Value → Sto → Prop} {pc npc : Nat} {l : List (Nat × Value)} {st : List Value} {s : Sto} {index : Nat} {x : Int} (hd : decode M.1 pc = .ok (.ldc2_w index, 3)) (hn : pc + 3 = npc) (hc : Cond.constantLong M.2.1 index (Int64.ofInt x) ∈ TW) (k : Go S M F npc l (jV x :: st) s) : Go S M F pc l (st) s := by
  subst hn
  intro p lc e u m args below meth c D cA ad H locs ls X hP hS hl
  exact lv_ldc2 X.1 X.2.1 X.2.2.2.2.1 (X.2.2.2.2.2.1 _ hc) hd (k p lc e u m args below meth c D cA ad H locs ls X hP hS hl)
theorem g_iload_n {S : Shp} {M : Mth} {F : Option Value → Sto → Prop} {pc npc : Nat} {l : List (Nat × Value)} {st : List Value} {s : Sto} {j : Fin 4} {i : Nat} {x : Int} (hd : decode M.1 pc = .ok (.iload_n j, 1)) (hn : pc + 1 = npc) (hi : (j : Nat) = i) (hg : lget l i = some (iV x)) (k : Go S M F npc l (iV x :: st) s) : Go S M F pc l (st) s := by
  subst hn
  intro p lc e u m args below meth c D cA ad H locs ls X hP hS hl
  exact lv_iload_n X.1 X.2.1 hd hi (lget_at hl hg) (k p lc e u m args below meth c D cA ad H locs ls X hP hS hl)
theorem g_iload {S : Shp} {M : Mth} {F : Option Value → Sto → Prop} {pc npc : Nat} {l : List (Nat × Value)} {st : List Value} {s : Sto} {i : Nat} {x : Int} (hd : decode M.1 pc = .ok (.iload i, 2)) (hn : pc + 2 = npc) (hg : lget l i = some (iV x)) (k : Go S M F npc l (iV x :: st) s) : Go S M F pc l (st) s := by
  subst hn
  intro p lc e u m args below meth c D cA ad H locs ls X hP hS hl
  exact lv_iload X.1 X.2.1 hd (lget_at hl hg) (k p lc e u m args below meth c D cA ad H locs ls X hP hS hl)
theorem g_lload_n {S : Shp} {M : Mth} {F : Option Value → Sto → Prop} {pc npc : Nat} {l : List (Nat × Value)} {st : List Value} {s : Sto} {j : Fin 4} {i : Nat} {x : Int} (hd : decode M.1 pc = .ok (.lload_n j, 1)) (hn : pc + 1 = npc) (hi : (j : Nat) = i) (hg : lget l i = some (jV x)) (k : Go S M F npc l (jV x :: st) s) : Go S M F pc l (st) s := by
  subst hn
  intro p lc e u m args below meth c D cA ad H locs ls X hP hS hl
  exact lv_lload_n X.1 X.2.1 hd hi (lget_at hl hg) (k p lc e u m args below meth c D cA ad H locs ls X hP hS hl)
theorem g_lload {S : Shp} {M : Mth} {F : Option Value → Sto → Prop} {pc npc : Nat} {l : List (Nat × Value)} {st : List Value} {s : Sto} {i : Nat} {x : Int} (hd : decode M.1 pc = .ok (.lload i, 2)) (hn : pc + 2 = npc) (hg : lget l i = some (jV x)) (k : Go S M F npc l (jV x :: st) s) : Go S M F pc l (st) s := by
  subst hn
  intro p lc e u m args below meth c D cA ad H locs ls X hP hS hl
  exact lv_lload X.1 X.2.1 hd (lget_at hl hg) (k p lc e u m args below meth c D cA ad H locs ls X hP hS hl)
theorem g_aload_n {S : Shp} {M : Mth} {F : Option Value → Sto → Prop} {pc npc : Nat} {l : List (Nat × Value)} {st : List Value} {s : Sto} {j : Fin 4} {i : Nat} {x : Nat} (hd : decode M.1 pc = .ok (.aload_n j, 1)) (hn : pc + 1 = npc) (hi : (j : Nat) = i) (hg : lget l i = some (.ref x)) (k : Go S M F npc l (.ref x :: st) s) : Go S M F pc l (st) s := by
  subst hn
  intro p lc e u m args below meth c D cA ad H locs ls X hP hS hl
  exact lv_aload_n X.1 X.2.1 hd hi (lget_at hl hg) (k p lc e u m args below meth c D cA ad H locs ls X hP hS hl)
theorem g_aload {S : Shp} {M : Mth} {F : Option Value → Sto → Prop} {pc npc : Nat} {l : List (Nat × Value)} {st : List Value} {s : Sto} {i : Nat} {x : Nat} (hd : decode M.1 pc = .ok (.aload i, 2)) (hn : pc + 2 = npc) (hg : lget l i = some (.ref x)) (k : Go S M F npc l (.ref x :: st) s) : Go S M F pc l (st) s := by
  subst hn
  intro p lc e u m args below meth c D cA ad H locs ls X hP hS hl
  exact lv_aload X.1 X.2.1 hd (lget_at hl hg) (k p lc e u m args below meth c D cA ad H locs ls X hP hS hl)
theorem g_istore_n {S : Shp} {M : Mth} {F : Option Value → Sto → Prop} {pc npc : Nat} {l : List (Nat × Value)} {st : List Value} {s : Sto} {j : Fin 4} {i : Nat} {x : Int} {l' : List (Nat × Value)} (hd : decode M.1 pc = .ok (.istore_n j, 1)) (hn : pc + 1 = npc) (hi : (j : Nat) = i) (hb : i < M.2.2.1) (hl' : lset l i (iV x) = l') (k : Go S M F npc l' st s) : Go S M F pc l (iV x :: st) s := by
  subst hn hl'
  intro p lc e u m args below meth c D cA ad H locs ls X hP hS hl
  refine lv_istore_n X.1 X.2.1 hd hi hl hb rfl (fun ls' h' => ?_)
  exact k p lc e u m args below meth c D cA ad H locs ls' X hP hS (lset_has h')
theorem g_istore {S : Shp} {M : Mth} {F : Option Value → Sto → Prop} {pc npc : Nat} {l : List (Nat × Value)} {st : List Value} {s : Sto} {i : Nat} {x : Int} {l' : List (Nat × Value)} (hd : decode M.1 pc = .ok (.istore i, 2)) (hn : pc + 2 = npc) (hb : i < M.2.2.1) (hl' : lset l i (iV x) = l') (k : Go S M F npc l' st s) : Go S M F pc l (iV x :: st) s := by
  subst hn hl'
  intro p lc e u m args below meth c D cA ad H locs ls X hP hS hl
  refine lv_istore X.1 X.2.1 hd hl hb rfl (fun ls' h' => ?_)
  exact k p lc e u m args below meth c D cA ad H locs ls' X hP hS (lset_has h')
theorem g_astore_n {S : Shp} {M : Mth} {F : Option Value → Sto → Prop} {pc npc : Nat} {l : List (Nat × Value)} {st : List Value} {s : Sto} {j : Fin 4} {i : Nat} {x : Nat} {l' : List (Nat × Value)} (hd : decode M.1 pc = .ok (.astore_n j, 1)) (hn : pc + 1 = npc) (hi : (j : Nat) = i) (hb : i < M.2.2.1) (hl' : lset l i (.ref x) = l') (k : Go S M F npc l' st s) : Go S M F pc l (.ref x :: st) s := by
  subst hn hl'
  intro p lc e u m args below meth c D cA ad H locs ls X hP hS hl
  refine lv_astore_n X.1 X.2.1 hd hi hl hb rfl (fun ls' h' => ?_)
  exact k p lc e u m args below meth c D cA ad H locs ls' X hP hS (lset_has h')
theorem g_astore {S : Shp} {M : Mth} {F : Option Value → Sto → Prop} {pc npc : Nat} {l : List (Nat × Value)} {st : List Value} {s : Sto} {i : Nat} {x : Nat} {l' : List (Nat × Value)} (hd : decode M.1 pc = .ok (.astore i, 2)) (hn : pc + 2 = npc) (hb : i < M.2.2.1) (hl' : lset l i (.ref x) = l') (k : Go S M F npc l' st s) : Go S M F pc l (.ref x :: st) s := by
  subst hn hl'
  intro p lc e u m args below meth c D cA ad H locs ls X hP hS hl
  refine lv_astore X.1 X.2.1 hd hl hb rfl (fun ls' h' => ?_)
  exact k p lc e u m args below meth c D cA ad H locs ls' X hP hS (lset_has h')
theorem g_lstore_n {S : Shp} {M : Mth} {F : Option Value → Sto → Prop} {pc npc : Nat} {l : List (Nat × Value)} {st : List Value} {s : Sto} {j : Fin 4} {i : Nat} {x : Int} {l' : List (Nat × Value)} (hd : decode M.1 pc = .ok (.lstore_n j, 1)) (hn : pc + 1 = npc) (hi : (j : Nat) = i) (hb : i + 1 < M.2.2.1) (hl' : lset2 l i (jV x) = l') (k : Go S M F npc l' st s) : Go S M F pc l (jV x :: st) s := by
  subst hn hl'
  intro p lc e u m args below meth c D cA ad H locs ls X hP hS hl
  refine lv_lstore_n X.1 X.2.1 hd hi hl hb rfl (fun ls' h' => ?_)
  exact k p lc e u m args below meth c D cA ad H locs ls' X hP hS (lset2_has h')
theorem g_lstore {S : Shp} {M : Mth} {F : Option Value → Sto → Prop} {pc npc : Nat} {l : List (Nat × Value)} {st : List Value} {s : Sto} {i : Nat} {x : Int} {l' : List (Nat × Value)} (hd : decode M.1 pc = .ok (.lstore i, 2)) (hn : pc + 2 = npc) (hb : i + 1 < M.2.2.1) (hl' : lset2 l i (jV x) = l') (k : Go S M F npc l' st s) : Go S M F pc l (jV x :: st) s := by
  subst hn hl'
  intro p lc e u m args below meth c D cA ad H locs ls X hP hS hl
  refine lv_lstore X.1 X.2.1 hd hl hb rfl (fun ls' h' => ?_)
  exact k p lc e u m args below meth c D cA ad H locs ls' X hP hS (lset2_has h')
theorem g_iinc {S : Shp} {M : Mth} {F : Option Value → Sto → Prop} {pc npc : Nat} {l : List (Nat × Value)} {st : List Value} {s : Sto} {i : Nat} {n x y : Int} {l' : List (Nat × Value)} (hd : decode M.1 pc = .ok (.iinc i n, 3)) (hn : pc + 3 = npc) (hb : i < M.2.2.1) (hg : lget l i = some (iV x)) (hy : x + n = y) (hl' : lset l i (iV y) = l') (k : Go S M F npc l' st s) : Go S M F pc l st s := by
  subst hn hl' hy
  intro p lc e u m args below meth c D cA ad H locs ls X hP hS hl
  have hq := lget_at hl hg
  have hl2 : lv_has ls M.2.2.1 ((i, Value.int (Int32.ofInt x)) :: tl ad l) := ⟨hl.1, hl.2.1, fun q hq2 => by
    rcases List.mem_cons.mp hq2 with rfl | h
    · exact hq
    · exact hl.2.2 q h⟩
  refine lv_iinc (k := 0) X.1 X.2.1 hd hl2 rfl (i32_add x n) hb rfl (fun ls' h' => ?_)
  refine k p lc e u m args below meth c D cA ad H locs ls' X hP hS (lset_has ⟨h'.1, h'.2.1, fun q hq2 => h'.2.2 q ?_⟩)
  rcases List.mem_cons.mp hq2 with h | h
  · exact h ▸ List.mem_cons_self
  · obtain ⟨h1, h2⟩ := List.mem_filter.mp h
    exact List.mem_cons_of_mem _ (List.mem_filter.mpr ⟨List.mem_cons_of_mem _ h1, h2⟩)
theorem g_iadd {S : Shp} {M : Mth} {F : Option Value → Sto → Prop} {pc npc : Nat} {l : List (Nat × Value)} {st : List Value} {s : Sto} {x y : Int} (hd : decode M.1 pc = .ok (.iadd, 1)) (hn : pc + 1 = npc) (k : Go S M F npc l (iV (x + y) :: st) s) : Go S M F pc l (iV y :: iV x :: st) s := by
  subst hn
  intro p lc e u m args below meth c D cA ad H locs ls X hP hS hl
  refine lv_iadd X.1 X.2.1 hd ?_
  rw [i32_add x y]
  exact k p lc e u m args below meth c D cA ad H locs ls X hP hS hl
theorem g_isub {S : Shp} {M : Mth} {F : Option Value → Sto → Prop} {pc npc : Nat} {l : List (Nat × Value)} {st : List Value} {s : Sto} {x y : Int} (hd : decode M.1 pc = .ok (.isub, 1)) (hn : pc + 1 = npc) (k : Go S M F npc l (iV (x - y) :: st) s) : Go S M F pc l (iV y :: iV x :: st) s := by
  subst hn
  intro p lc e u m args below meth c D cA ad H locs ls X hP hS hl
  refine lv_isub X.1 X.2.1 hd ?_
  rw [i32_sub x y]
  exact k p lc e u m args below meth c D cA ad H locs ls X hP hS hl
theorem g_imul {S : Shp} {M : Mth} {F : Option Value → Sto → Prop} {pc npc : Nat} {l : List (Nat × Value)} {st : List Value} {s : Sto} {x y : Int} (hd : decode M.1 pc = .ok (.imul, 1)) (hn : pc + 1 = npc) (k : Go S M F npc l (iV (x * y) :: st) s) : Go S M F pc l (iV y :: iV x :: st) s := by
  subst hn
  intro p lc e u m args below meth c D cA ad H locs ls X hP hS hl
  refine lv_imul X.1 X.2.1 hd ?_
  rw [i32_mul x y]
  exact k p lc e u m args below meth c D cA ad H locs ls X hP hS hl
theorem g_iand {S : Shp} {M : Mth} {F : Option Value → Sto → Prop} {pc npc : Nat} {l : List (Nat × Value)} {st : List Value} {s : Sto} {x y : Int} (hd : decode M.1 pc = .ok (.iand, 1)) (hn : pc + 1 = npc) (k : Go S M F npc l (iV (iand x y) :: st) s) : Go S M F pc l (iV y :: iV x :: st) s := by
  subst hn
  intro p lc e u m args below meth c D cA ad H locs ls X hP hS hl
  refine lv_iand X.1 X.2.1 hd ?_
  rw [← i32_inv (Int32.ofInt x &&& Int32.ofInt y)]
  exact k p lc e u m args below meth c D cA ad H locs ls X hP hS hl
theorem g_ior {S : Shp} {M : Mth} {F : Option Value → Sto → Prop} {pc npc : Nat} {l : List (Nat × Value)} {st : List Value} {s : Sto} {x y : Int} (hd : decode M.1 pc = .ok (.ior, 1)) (hn : pc + 1 = npc) (k : Go S M F npc l (iV (ior x y) :: st) s) : Go S M F pc l (iV y :: iV x :: st) s := by
  subst hn
  intro p lc e u m args below meth c D cA ad H locs ls X hP hS hl
  refine lv_ior X.1 X.2.1 hd ?_
  rw [← i32_inv (Int32.ofInt x ||| Int32.ofInt y)]
  exact k p lc e u m args below meth c D cA ad H locs ls X hP hS hl
theorem g_ixor {S : Shp} {M : Mth} {F : Option Value → Sto → Prop} {pc npc : Nat} {l : List (Nat × Value)} {st : List Value} {s : Sto} {x y : Int} (hd : decode M.1 pc = .ok (.ixor, 1)) (hn : pc + 1 = npc) (k : Go S M F npc l (iV (ixor x y) :: st) s) : Go S M F pc l (iV y :: iV x :: st) s := by
  subst hn
  intro p lc e u m args below meth c D cA ad H locs ls X hP hS hl
  refine lv_ixor X.1 X.2.1 hd ?_
  rw [← i32_inv (Int32.ofInt x ^^^ Int32.ofInt y)]
  exact k p lc e u m args below meth c D cA ad H locs ls X hP hS hl
theorem g_ishl {S : Shp} {M : Mth} {F : Option Value → Sto → Prop} {pc npc : Nat} {l : List (Nat × Value)} {st : List Value} {s : Sto} {x y : Int} (hd : decode M.1 pc = .ok (.ishl, 1)) (hn : pc + 1 = npc) (k : Go S M F npc l (iV (ishl x y) :: st) s) : Go S M F pc l (iV y :: iV x :: st) s := by
  subst hn
  intro p lc e u m args below meth c D cA ad H locs ls X hP hS hl
  refine lv_ishl X.1 X.2.1 hd ?_
  rw [← i32_inv (Int32.ofInt x <<< (Int32.ofInt y &&& 31))]
  exact k p lc e u m args below meth c D cA ad H locs ls X hP hS hl
theorem g_ishr {S : Shp} {M : Mth} {F : Option Value → Sto → Prop} {pc npc : Nat} {l : List (Nat × Value)} {st : List Value} {s : Sto} {x y : Int} (hd : decode M.1 pc = .ok (.ishr, 1)) (hn : pc + 1 = npc) (k : Go S M F npc l (iV (ishr x y) :: st) s) : Go S M F pc l (iV y :: iV x :: st) s := by
  subst hn
  intro p lc e u m args below meth c D cA ad H locs ls X hP hS hl
  refine lv_ishr X.1 X.2.1 hd ?_
  rw [← i32_inv (Int32.ofInt x >>> (Int32.ofInt y &&& 31))]
  exact k p lc e u m args below meth c D cA ad H locs ls X hP hS hl
theorem g_ineg {S : Shp} {M : Mth} {F : Option Value → Sto → Prop} {pc npc : Nat} {l : List (Nat × Value)} {st : List Value} {s : Sto} {x : Int} (hd : decode M.1 pc = .ok (.ineg, 1)) (hn : pc + 1 = npc) (k : Go S M F npc l (iV (-x) :: st) s) : Go S M F pc l (iV x :: st) s := by
  subst hn
  intro p lc e u m args below meth c D cA ad H locs ls X hP hS hl
  refine lv_ineg X.1 X.2.1 hd ?_
  rw [i32_neg]
  exact k p lc e u m args below meth c D cA ad H locs ls X hP hS hl
theorem g_idiv {S : Shp} {M : Mth} {F : Option Value → Sto → Prop} {pc npc : Nat} {l : List (Nat × Value)} {st : List Value} {s : Sto} {x y : Int} (hd : decode M.1 pc = .ok (.idiv, 1)) (hn : pc + 1 = npc) (hr : (-2147483648 ≤ x ∧ x < 2147483648) ∧ -2147483648 ≤ y ∧ y < 2147483648) (h0 : ¬ y = 0) (k : Go S M F npc l (iV (x.tdiv y) :: st) s) : Go S M F pc l (iV y :: iV x :: st) s := by
  subst hn
  intro p lc e u m args below meth c D cA ad H locs ls X hP hS hl
  refine lv_idiv X.1 X.2.1 hd (fun z => h0 ((i32_eq (x := y) (y := 0) ⟨hr.2, by omega, by omega⟩).mp z)) ?_
  rw [i32_div hr]
  exact k p lc e u m args below meth c D cA ad H locs ls X hP hS hl
theorem g_irem {S : Shp} {M : Mth} {F : Option Value → Sto → Prop} {pc npc : Nat} {l : List (Nat × Value)} {st : List Value} {s : Sto} {x y : Int} (hd : decode M.1 pc = .ok (.irem, 1)) (hn : pc + 1 = npc) (hr : (-2147483648 ≤ x ∧ x < 2147483648) ∧ -2147483648 ≤ y ∧ y < 2147483648) (h0 : ¬ y = 0) (k : Go S M F npc l (iV (x.tmod y) :: st) s) : Go S M F pc l (iV y :: iV x :: st) s := by
  subst hn
  intro p lc e u m args below meth c D cA ad H locs ls X hP hS hl
  refine lv_irem X.1 X.2.1 hd (fun z => h0 ((i32_eq (x := y) (y := 0) ⟨hr.2, by omega, by omega⟩).mp z)) ?_
  rw [i32_rem hr]
  exact k p lc e u m args below meth c D cA ad H locs ls X hP hS hl
theorem g_ladd {S : Shp} {M : Mth} {F : Option Value → Sto → Prop} {pc npc : Nat} {l : List (Nat × Value)} {st : List Value} {s : Sto} {x y : Int} (hd : decode M.1 pc = .ok (.ladd, 1)) (hn : pc + 1 = npc) (k : Go S M F npc l (jV (x + y) :: st) s) : Go S M F pc l (jV y :: jV x :: st) s := by
  subst hn
  intro p lc e u m args below meth c D cA ad H locs ls X hP hS hl
  refine lv_ladd X.1 X.2.1 hd ?_
  rw [i64_add x y]
  exact k p lc e u m args below meth c D cA ad H locs ls X hP hS hl
theorem g_lsub {S : Shp} {M : Mth} {F : Option Value → Sto → Prop} {pc npc : Nat} {l : List (Nat × Value)} {st : List Value} {s : Sto} {x y : Int} (hd : decode M.1 pc = .ok (.lsub, 1)) (hn : pc + 1 = npc) (k : Go S M F npc l (jV (x - y) :: st) s) : Go S M F pc l (jV y :: jV x :: st) s := by
  subst hn
  intro p lc e u m args below meth c D cA ad H locs ls X hP hS hl
  refine lv_lsub X.1 X.2.1 hd ?_
  rw [i64_sub x y]
  exact k p lc e u m args below meth c D cA ad H locs ls X hP hS hl
theorem g_lmul {S : Shp} {M : Mth} {F : Option Value → Sto → Prop} {pc npc : Nat} {l : List (Nat × Value)} {st : List Value} {s : Sto} {x y : Int} (hd : decode M.1 pc = .ok (.lmul, 1)) (hn : pc + 1 = npc) (k : Go S M F npc l (jV (x * y) :: st) s) : Go S M F pc l (jV y :: jV x :: st) s := by
  subst hn
  intro p lc e u m args below meth c D cA ad H locs ls X hP hS hl
  refine lv_lmul X.1 X.2.1 hd ?_
  rw [i64_mul x y]
  exact k p lc e u m args below meth c D cA ad H locs ls X hP hS hl
theorem g_lneg {S : Shp} {M : Mth} {F : Option Value → Sto → Prop} {pc npc : Nat} {l : List (Nat × Value)} {st : List Value} {s : Sto} {x : Int} (hd : decode M.1 pc = .ok (.lneg, 1)) (hn : pc + 1 = npc) (k : Go S M F npc l (jV (-x) :: st) s) : Go S M F pc l (jV x :: st) s := by
  subst hn
  intro p lc e u m args below meth c D cA ad H locs ls X hP hS hl
  refine lv_lneg X.1 X.2.1 hd ?_
  rw [i64_neg]
  exact k p lc e u m args below meth c D cA ad H locs ls X hP hS hl
theorem g_ldiv {S : Shp} {M : Mth} {F : Option Value → Sto → Prop} {pc npc : Nat} {l : List (Nat × Value)} {st : List Value} {s : Sto} {x y : Int} (hd : decode M.1 pc = .ok (.ldiv, 1)) (hn : pc + 1 = npc) (hr : (-9223372036854775808 ≤ x ∧ x < 9223372036854775808) ∧ -9223372036854775808 ≤ y ∧ y < 9223372036854775808) (h0 : ¬ y = 0) (k : Go S M F npc l (jV (x.tdiv y) :: st) s) : Go S M F pc l (jV y :: jV x :: st) s := by
  subst hn
  intro p lc e u m args below meth c D cA ad H locs ls X hP hS hl
  refine lv_ldiv X.1 X.2.1 hd (fun z => h0 ((i64_eq (x := y) (y := 0) ⟨hr.2, by omega, by omega⟩).mp z)) ?_
  rw [i64_div hr]
  exact k p lc e u m args below meth c D cA ad H locs ls X hP hS hl
theorem g_lrem {S : Shp} {M : Mth} {F : Option Value → Sto → Prop} {pc npc : Nat} {l : List (Nat × Value)} {st : List Value} {s : Sto} {x y : Int} (hd : decode M.1 pc = .ok (.lrem, 1)) (hn : pc + 1 = npc) (hr : (-9223372036854775808 ≤ x ∧ x < 9223372036854775808) ∧ -9223372036854775808 ≤ y ∧ y < 9223372036854775808) (h0 : ¬ y = 0) (k : Go S M F npc l (jV (x.tmod y) :: st) s) : Go S M F pc l (jV y :: jV x :: st) s := by
  subst hn
  intro p lc e u m args below meth c D cA ad H locs ls X hP hS hl
  refine lv_lrem X.1 X.2.1 hd (fun z => h0 ((i64_eq (x := y) (y := 0) ⟨hr.2, by omega, by omega⟩).mp z)) ?_
  rw [i64_rem hr]
  exact k p lc e u m args below meth c D cA ad H locs ls X hP hS hl
theorem g_i2l {S : Shp} {M : Mth} {F : Option Value → Sto → Prop} {pc npc : Nat} {l : List (Nat × Value)} {st : List Value} {s : Sto} {x : Int} (hd : decode M.1 pc = .ok (.i2l, 1)) (hn : pc + 1 = npc) (hr : -2147483648 ≤ x ∧ x < 2147483648) (k : Go S M F npc l (jV x :: st) s) : Go S M F pc l (iV x :: st) s := by
  subst hn
  intro p lc e u m args below meth c D cA ad H locs ls X hP hS hl
  exact lv_i2l X.1 X.2.1 hd (i32_i2l hr) (k p lc e u m args below meth c D cA ad H locs ls X hP hS hl)
theorem g_l2i {S : Shp} {M : Mth} {F : Option Value → Sto → Prop} {pc npc : Nat} {l : List (Nat × Value)} {st : List Value} {s : Sto} {x : Int} (hd : decode M.1 pc = .ok (.l2i, 1)) (hn : pc + 1 = npc) (k : Go S M F npc l (iV x :: st) s) : Go S M F pc l (jV x :: st) s := by
  subst hn
  intro p lc e u m args below meth c D cA ad H locs ls X hP hS hl
  exact lv_l2i X.1 X.2.1 hd (i64_l2i x) (k p lc e u m args below meth c D cA ad H locs ls X hP hS hl)
theorem g_dup {S : Shp} {M : Mth} {F : Option Value → Sto → Prop} {pc npc : Nat} {l : List (Nat × Value)} {st : List Value} {s : Sto} {v : Value} (hd : decode M.1 pc = .ok (.dup, 1)) (hn : pc + 1 = npc) (hc : v.category = 1) (k : Go S M F npc l (v :: v :: st) s) : Go S M F pc l (v :: st) s := by
  subst hn
  intro p lc e u m args below meth c D cA ad H locs ls X hP hS hl
  exact lv_dup X.1 X.2.1 hd (by rw [tv_cat]; exact hc) (k p lc e u m args below meth c D cA ad H locs ls X hP hS hl)
theorem g_pop {S : Shp} {M : Mth} {F : Option Value → Sto → Prop} {pc npc : Nat} {l : List (Nat × Value)} {st : List Value} {s : Sto} {v : Value} (hd : decode M.1 pc = .ok (.pop, 1)) (hn : pc + 1 = npc) (hc : v.category = 1) (k : Go S M F npc l (st) s) : Go S M F pc l (v :: st) s := by
  subst hn
  intro p lc e u m args below meth c D cA ad H locs ls X hP hS hl
  exact lv_pop X.1 X.2.1 hd (by rw [tv_cat]; exact hc) (k p lc e u m args below meth c D cA ad H locs ls X hP hS hl)
theorem g_dup2 {S : Shp} {M : Mth} {F : Option Value → Sto → Prop} {pc npc : Nat} {l : List (Nat × Value)} {st : List Value} {s : Sto} {v w : Value} (hd : decode M.1 pc = .ok (.dup2, 1)) (hn : pc + 1 = npc) (hc : v.category = 1) (hc2 : w.category = 1) (k : Go S M F npc l (v :: w :: v :: w :: st) s) : Go S M F pc l (v :: w :: st) s := by
  subst hn
  intro p lc e u m args below meth c D cA ad H locs ls X hP hS hl
  exact lv_dup2_11 X.1 X.2.1 hd (by rw [tv_cat]; exact hc) (by rw [tv_cat]; exact hc2) (k p lc e u m args below meth c D cA ad H locs ls X hP hS hl)
theorem g_if_eq {S : Shp} {M : Mth} {F : Option Value → Sto → Prop} {pc npc : Nat} {l : List (Nat × Value)} {st : List Value} {s : Sto} {tgt : Nat} {off : Int} {x : Int} (hd : decode M.1 pc = .ok (.ifCond .eq off, 3)) (hn : pc + 3 = npc) (ht : (pc : Int) + off = (tgt : Int)) (hr : -2147483648 ≤ x ∧ x < 2147483648) (kt : (x = 0) → Go S M F tgt l st s) (kf : ¬ (x = 0) → Go S M F npc l st s) : Go S M F pc l (iV x :: st) s := by
  subst hn
  intro p lc e u m args below meth c D cA ad H locs ls X hP hS hl
  refine lv_if_eq X.1 X.2.1 hd ht (fun q => ?_) (fun q => ?_)
  · exact kt ((i32_eq (y := 0) ⟨hr, by omega, by omega⟩).mp q) p lc e u m args below meth c D cA ad H locs ls X hP hS hl
  · exact kf (fun z => q ((i32_eq (y := 0) ⟨hr, by omega, by omega⟩).mpr z)) p lc e u m args below meth c D cA ad H locs ls X hP hS hl
theorem g_icmp_eq {S : Shp} {M : Mth} {F : Option Value → Sto → Prop} {pc npc : Nat} {l : List (Nat × Value)} {st : List Value} {s : Sto} {tgt : Nat} {off : Int} {x y : Int} (hd : decode M.1 pc = .ok (.if_icmp .eq off, 3)) (hn : pc + 3 = npc) (ht : (pc : Int) + off = (tgt : Int)) (hr : (-2147483648 ≤ x ∧ x < 2147483648) ∧ -2147483648 ≤ y ∧ y < 2147483648) (kt : (x = y) → Go S M F tgt l st s) (kf : ¬ (x = y) → Go S M F npc l st s) : Go S M F pc l (iV y :: iV x :: st) s := by
  subst hn
  intro p lc e u m args below meth c D cA ad H locs ls X hP hS hl
  refine lv_icmp_eq X.1 X.2.1 hd ht (fun q => ?_) (fun q => ?_)
  · exact kt ((i32_eq hr).mp q) p lc e u m args below meth c D cA ad H locs ls X hP hS hl
  · exact kf (fun z => q ((i32_eq hr).mpr z)) p lc e u m args below meth c D cA ad H locs ls X hP hS hl
theorem g_if_ne {S : Shp} {M : Mth} {F : Option Value → Sto → Prop} {pc npc : Nat} {l : List (Nat × Value)} {st : List Value} {s : Sto} {tgt : Nat} {off : Int} {x : Int} (hd : decode M.1 pc = .ok (.ifCond .ne off, 3)) (hn : pc + 3 = npc) (ht : (pc : Int) + off = (tgt : Int)) (hr : -2147483648 ≤ x ∧ x < 2147483648) (kt : (¬ x = 0) → Go S M F tgt l st s) (kf : ¬ (¬ x = 0) → Go S M F npc l st s) : Go S M F pc l (iV x :: st) s := by
  subst hn
  intro p lc e u m args below meth c D cA ad H locs ls X hP hS hl
  refine lv_if_ne X.1 X.2.1 hd ht (fun q => ?_) (fun q => ?_)
  · exact kt ((not_congr (i32_eq (y := 0) ⟨hr, by omega, by omega⟩)).mp q) p lc e u m args below meth c D cA ad H locs ls X hP hS hl
  · exact kf (fun z => z ((i32_eq (y := 0) ⟨hr, by omega, by omega⟩).mp q)) p lc e u m args below meth c D cA ad H locs ls X hP hS hl
theorem g_icmp_ne {S : Shp} {M : Mth} {F : Option Value → Sto → Prop} {pc npc : Nat} {l : List (Nat × Value)} {st : List Value} {s : Sto} {tgt : Nat} {off : Int} {x y : Int} (hd : decode M.1 pc = .ok (.if_icmp .ne off, 3)) (hn : pc + 3 = npc) (ht : (pc : Int) + off = (tgt : Int)) (hr : (-2147483648 ≤ x ∧ x < 2147483648) ∧ -2147483648 ≤ y ∧ y < 2147483648) (kt : (¬ x = y) → Go S M F tgt l st s) (kf : ¬ (¬ x = y) → Go S M F npc l st s) : Go S M F pc l (iV y :: iV x :: st) s := by
  subst hn
  intro p lc e u m args below meth c D cA ad H locs ls X hP hS hl
  refine lv_icmp_ne X.1 X.2.1 hd ht (fun q => ?_) (fun q => ?_)
  · exact kt ((not_congr (i32_eq hr)).mp q) p lc e u m args below meth c D cA ad H locs ls X hP hS hl
  · exact kf (fun z => z ((i32_eq hr).mp q)) p lc e u m args below meth c D cA ad H locs ls X hP hS hl
theorem g_if_lt {S : Shp} {M : Mth} {F : Option Value → Sto → Prop} {pc npc : Nat} {l : List (Nat × Value)} {st : List Value} {s : Sto} {tgt : Nat} {off : Int} {x : Int} (hd : decode M.1 pc = .ok (.ifCond .lt off, 3)) (hn : pc + 3 = npc) (ht : (pc : Int) + off = (tgt : Int)) (hr : -2147483648 ≤ x ∧ x < 2147483648) (kt : (x < 0) → Go S M F tgt l st s) (kf : ¬ (x < 0) → Go S M F npc l st s) : Go S M F pc l (iV x :: st) s := by
  subst hn
  intro p lc e u m args below meth c D cA ad H locs ls X hP hS hl
  refine lv_if_lt X.1 X.2.1 hd ht (fun q => ?_) (fun q => ?_)
  · exact kt ((i32_lt (y := 0) ⟨hr, by omega, by omega⟩).mp q) p lc e u m args below meth c D cA ad H locs ls X hP hS hl
  · exact kf (fun z => q ((i32_lt (y := 0) ⟨hr, by omega, by omega⟩).mpr z)) p lc e u m args below meth c D cA ad H locs ls X hP hS hl
theorem g_icmp_lt {S : Shp} {M : Mth} {F : Option Value → Sto → Prop} {pc npc : Nat} {l : List (Nat × Value)} {st : List Value} {s : Sto} {tgt : Nat} {off : Int} {x y : Int} (hd : decode M.1 pc = .ok (.if_icmp .lt off, 3)) (hn : pc + 3 = npc) (ht : (pc : Int) + off = (tgt : Int)) (hr : (-2147483648 ≤ x ∧ x < 2147483648) ∧ -2147483648 ≤ y ∧ y < 2147483648) (kt : (x < y) → Go S M F tgt l st s) (kf : ¬ (x < y) → Go S M F npc l st s) : Go S M F pc l (iV y :: iV x :: st) s := by
  subst hn
  intro p lc e u m args below meth c D cA ad H locs ls X hP hS hl
  refine lv_icmp_lt X.1 X.2.1 hd ht (fun q => ?_) (fun q => ?_)
  · exact kt ((i32_lt hr).mp q) p lc e u m args below meth c D cA ad H locs ls X hP hS hl
  · exact kf (fun z => q ((i32_lt hr).mpr z)) p lc e u m args below meth c D cA ad H locs ls X hP hS hl
theorem g_if_ge {S : Shp} {M : Mth} {F : Option Value → Sto → Prop} {pc npc : Nat} {l : List (Nat × Value)} {st : List Value} {s : Sto} {tgt : Nat} {off : Int} {x : Int} (hd : decode M.1 pc = .ok (.ifCond .ge off, 3)) (hn : pc + 3 = npc) (ht : (pc : Int) + off = (tgt : Int)) (hr : -2147483648 ≤ x ∧ x < 2147483648) (kt : (0 ≤ x) → Go S M F tgt l st s) (kf : ¬ (0 ≤ x) → Go S M F npc l st s) : Go S M F pc l (iV x :: st) s := by
  subst hn
  intro p lc e u m args below meth c D cA ad H locs ls X hP hS hl
  refine lv_if_ge X.1 X.2.1 hd ht (fun q => ?_) (fun q => ?_)
  · exact kt ((i32_le (x := 0) ⟨⟨by omega, by omega⟩, hr⟩).mp q) p lc e u m args below meth c D cA ad H locs ls X hP hS hl
  · exact kf (fun z => q ((i32_le (x := 0) ⟨⟨by omega, by omega⟩, hr⟩).mpr z)) p lc e u m args below meth c D cA ad H locs ls X hP hS hl
theorem g_icmp_ge {S : Shp} {M : Mth} {F : Option Value → Sto → Prop} {pc npc : Nat} {l : List (Nat × Value)} {st : List Value} {s : Sto} {tgt : Nat} {off : Int} {x y : Int} (hd : decode M.1 pc = .ok (.if_icmp .ge off, 3)) (hn : pc + 3 = npc) (ht : (pc : Int) + off = (tgt : Int)) (hr : (-2147483648 ≤ x ∧ x < 2147483648) ∧ -2147483648 ≤ y ∧ y < 2147483648) (kt : (y ≤ x) → Go S M F tgt l st s) (kf : ¬ (y ≤ x) → Go S M F npc l st s) : Go S M F pc l (iV y :: iV x :: st) s := by
  subst hn
  intro p lc e u m args below meth c D cA ad H locs ls X hP hS hl
  refine lv_icmp_ge X.1 X.2.1 hd ht (fun q => ?_) (fun q => ?_)
  · exact kt ((i32_le ⟨hr.2, hr.1⟩).mp q) p lc e u m args below meth c D cA ad H locs ls X hP hS hl
  · exact kf (fun z => q ((i32_le ⟨hr.2, hr.1⟩).mpr z)) p lc e u m args below meth c D cA ad H locs ls X hP hS hl
theorem g_if_gt {S : Shp} {M : Mth} {F : Option Value → Sto → Prop} {pc npc : Nat} {l : List (Nat × Value)} {st : List Value} {s : Sto} {tgt : Nat} {off : Int} {x : Int} (hd : decode M.1 pc = .ok (.ifCond .gt off, 3)) (hn : pc + 3 = npc) (ht : (pc : Int) + off = (tgt : Int)) (hr : -2147483648 ≤ x ∧ x < 2147483648) (kt : (0 < x) → Go S M F tgt l st s) (kf : ¬ (0 < x) → Go S M F npc l st s) : Go S M F pc l (iV x :: st) s := by
  subst hn
  intro p lc e u m args below meth c D cA ad H locs ls X hP hS hl
  refine lv_if_gt X.1 X.2.1 hd ht (fun q => ?_) (fun q => ?_)
  · exact kt ((i32_lt (x := 0) ⟨⟨by omega, by omega⟩, hr⟩).mp q) p lc e u m args below meth c D cA ad H locs ls X hP hS hl
  · exact kf (fun z => q ((i32_lt (x := 0) ⟨⟨by omega, by omega⟩, hr⟩).mpr z)) p lc e u m args below meth c D cA ad H locs ls X hP hS hl
theorem g_icmp_gt {S : Shp} {M : Mth} {F : Option Value → Sto → Prop} {pc npc : Nat} {l : List (Nat × Value)} {st : List Value} {s : Sto} {tgt : Nat} {off : Int} {x y : Int} (hd : decode M.1 pc = .ok (.if_icmp .gt off, 3)) (hn : pc + 3 = npc) (ht : (pc : Int) + off = (tgt : Int)) (hr : (-2147483648 ≤ x ∧ x < 2147483648) ∧ -2147483648 ≤ y ∧ y < 2147483648) (kt : (y < x) → Go S M F tgt l st s) (kf : ¬ (y < x) → Go S M F npc l st s) : Go S M F pc l (iV y :: iV x :: st) s := by
  subst hn
  intro p lc e u m args below meth c D cA ad H locs ls X hP hS hl
  refine lv_icmp_gt X.1 X.2.1 hd ht (fun q => ?_) (fun q => ?_)
  · exact kt ((i32_lt ⟨hr.2, hr.1⟩).mp q) p lc e u m args below meth c D cA ad H locs ls X hP hS hl
  · exact kf (fun z => q ((i32_lt ⟨hr.2, hr.1⟩).mpr z)) p lc e u m args below meth c D cA ad H locs ls X hP hS hl
theorem g_if_le {S : Shp} {M : Mth} {F : Option Value → Sto → Prop} {pc npc : Nat} {l : List (Nat × Value)} {st : List Value} {s : Sto} {tgt : Nat} {off : Int} {x : Int} (hd : decode M.1 pc = .ok (.ifCond .le off, 3)) (hn : pc + 3 = npc) (ht : (pc : Int) + off = (tgt : Int)) (hr : -2147483648 ≤ x ∧ x < 2147483648) (kt : (x ≤ 0) → Go S M F tgt l st s) (kf : ¬ (x ≤ 0) → Go S M F npc l st s) : Go S M F pc l (iV x :: st) s := by
  subst hn
  intro p lc e u m args below meth c D cA ad H locs ls X hP hS hl
  refine lv_if_le X.1 X.2.1 hd ht (fun q => ?_) (fun q => ?_)
  · exact kt ((i32_le (y := 0) ⟨hr, by omega, by omega⟩).mp q) p lc e u m args below meth c D cA ad H locs ls X hP hS hl
  · exact kf (fun z => q ((i32_le (y := 0) ⟨hr, by omega, by omega⟩).mpr z)) p lc e u m args below meth c D cA ad H locs ls X hP hS hl
theorem g_icmp_le {S : Shp} {M : Mth} {F : Option Value → Sto → Prop} {pc npc : Nat} {l : List (Nat × Value)} {st : List Value} {s : Sto} {tgt : Nat} {off : Int} {x y : Int} (hd : decode M.1 pc = .ok (.if_icmp .le off, 3)) (hn : pc + 3 = npc) (ht : (pc : Int) + off = (tgt : Int)) (hr : (-2147483648 ≤ x ∧ x < 2147483648) ∧ -2147483648 ≤ y ∧ y < 2147483648) (kt : (x ≤ y) → Go S M F tgt l st s) (kf : ¬ (x ≤ y) → Go S M F npc l st s) : Go S M F pc l (iV y :: iV x :: st) s := by
  subst hn
  intro p lc e u m args below meth c D cA ad H locs ls X hP hS hl
  refine lv_icmp_le X.1 X.2.1 hd ht (fun q => ?_) (fun q => ?_)
  · exact kt ((i32_le hr).mp q) p lc e u m args below meth c D cA ad H locs ls X hP hS hl
  · exact kf (fun z => q ((i32_le hr).mpr z)) p lc e u m args below meth c D cA ad H locs ls X hP hS hl
theorem g_goto {S : Shp} {M : Mth} {F : Option Value → Sto → Prop} {pc npc : Nat} {l : List (Nat × Value)} {st : List Value} {s : Sto} {off : Int} (hd : decode M.1 pc = .ok (.goto off, 3)) (ht : (pc : Int) + off = (npc : Int)) (k : Go S M F npc l st s) : Go S M F pc l st s := by
  intro p lc e u m args below meth c D cA ad H locs ls X hP hS hl
  exact lv_goto X.1 X.2.1 hd ht (k p lc e u m args below meth c D cA ad H locs ls X hP hS hl)
def lcm (x y : Int) : Int := if y < x then 1 else if x = y then 0 else -1
theorem lg_lcm {x y : Int} (h : (-9223372036854775808 ≤ x ∧ x < 9223372036854775808) ∧ -9223372036854775808 ≤ y ∧ y < 9223372036854775808) : lg_cmp (Int64.ofInt x) (Int64.ofInt y) = Int32.ofInt (lcm x y) := by
  unfold lg_cmp lcm
  have e1 : (Int64.ofInt x > Int64.ofInt y) ↔ y < x := i64_lt ⟨h.2, h.1⟩
  have e2 : (Int64.ofInt x = Int64.ofInt y) ↔ x = y := i64_eq h
  simp only [e1, e2]
  split
  · rfl
  · split <;> rfl
theorem lcm_r (x y : Int) : -2147483648 ≤ lcm x y ∧ lcm x y < 2147483648 := by
  unfold lcm
  split
  · decide
  · split <;> decide
theorem lcm_eq (x y : Int) : lcm x y = 0 ↔ x = y := by unfold lcm; split <;> (try split) <;> omega
theorem lcm_lt (x y : Int) : lcm x y < 0 ↔ x < y := by unfold lcm; split <;> (try split) <;> omega
theorem lcm_ge (x y : Int) : 0 ≤ lcm x y ↔ y ≤ x := by unfold lcm; split <;> (try split) <;> omega
theorem lcm_gt (x y : Int) : 0 < lcm x y ↔ y < x := by unfold lcm; split <;> (try split) <;> omega
theorem lcm_le (x y : Int) : lcm x y ≤ 0 ↔ x ≤ y := by unfold lcm; split <;> (try split) <;> omega
theorem g_lcmp {S : Shp} {M : Mth} {F : Option Value → Sto → Prop} {pc npc : Nat} {l : List (Nat × Value)} {st : List Value} {s : Sto} {x y : Int} (hd : decode M.1 pc = .ok (.lcmp, 1)) (hn : pc + 1 = npc) (hr : (-9223372036854775808 ≤ x ∧ x < 9223372036854775808) ∧ -9223372036854775808 ≤ y ∧ y < 9223372036854775808) (k : Go S M F npc l (iV (lcm x y) :: st) s) : Go S M F pc l (jV y :: jV x :: st) s := by
  subst hn
  intro p lc e u m args below meth c D cA ad H locs ls X hP hS hl
  refine W.lcmp X.1 X.2.1 hd ?_
  rw [lg_lcm hr]
  exact k p lc e u m args below meth c D cA ad H locs ls X hP hS hl
theorem g_leq {S : Shp} {M : Mth} {F : Option Value → Sto → Prop} {pc npc : Nat} {l : List (Nat × Value)} {st : List Value} {s : Sto} {pc2 : Nat} {tgt : Nat} {off : Int} {x y : Int} (hd : decode M.1 pc = .ok (.lcmp, 1)) (hn2 : pc + 1 = pc2) (hd2 : decode M.1 pc2 = .ok (.ifCond .eq off, 3)) (hn : pc2 + 3 = npc) (ht : (pc2 : Int) + off = (tgt : Int)) (hr : (-9223372036854775808 ≤ x ∧ x < 9223372036854775808) ∧ -9223372036854775808 ≤ y ∧ y < 9223372036854775808) (kt : (x = y) → Go S M F tgt l st s) (kf : ¬ (x = y) → Go S M F npc l st s) : Go S M F pc l (jV y :: jV x :: st) s :=
  g_lcmp hd hn2 hr (g_if_eq hd2 hn ht (lcm_r x y) (fun q => kt ((lcm_eq x y).mp q)) (fun q => kf (fun z => q ((lcm_eq x y).mpr z))))
theorem g_lne {S : Shp} {M : Mth} {F : Option Value → Sto → Prop} {pc npc : Nat} {l : List (Nat × Value)} {st : List Value} {s : Sto} {pc2 : Nat} {tgt : Nat} {off : Int} {x y : Int} (hd : decode M.1 pc = .ok (.lcmp, 1)) (hn2 : pc + 1 = pc2) (hd2 : decode M.1 pc2 = .ok (.ifCond .ne off, 3)) (hn : pc2 + 3 = npc) (ht : (pc2 : Int) + off = (tgt : Int)) (hr : (-9223372036854775808 ≤ x ∧ x < 9223372036854775808) ∧ -9223372036854775808 ≤ y ∧ y < 9223372036854775808) (kt : (¬ x = y) → Go S M F tgt l st s) (kf : ¬ (¬ x = y) → Go S M F npc l st s) : Go S M F pc l (jV y :: jV x :: st) s :=
  g_lcmp hd hn2 hr (g_if_ne hd2 hn ht (lcm_r x y) (fun q => kt (fun z => q ((lcm_eq x y).mpr z))) (fun q => kf (fun z => q (fun w => z ((lcm_eq x y).mp w)))))
theorem g_llt {S : Shp} {M : Mth} {F : Option Value → Sto → Prop} {pc npc : Nat} {l : List (Nat × Value)} {st : List Value} {s : Sto} {pc2 : Nat} {tgt : Nat} {off : Int} {x y : Int} (hd : decode M.1 pc = .ok (.lcmp, 1)) (hn2 : pc + 1 = pc2) (hd2 : decode M.1 pc2 = .ok (.ifCond .lt off, 3)) (hn : pc2 + 3 = npc) (ht : (pc2 : Int) + off = (tgt : Int)) (hr : (-9223372036854775808 ≤ x ∧ x < 9223372036854775808) ∧ -9223372036854775808 ≤ y ∧ y < 9223372036854775808) (kt : (x < y) → Go S M F tgt l st s) (kf : ¬ (x < y) → Go S M F npc l st s) : Go S M F pc l (jV y :: jV x :: st) s :=
  g_lcmp hd hn2 hr (g_if_lt hd2 hn ht (lcm_r x y) (fun q => kt ((lcm_lt x y).mp q)) (fun q => kf (fun z => q ((lcm_lt x y).mpr z))))
theorem g_lge {S : Shp} {M : Mth} {F : Option Value → Sto → Prop} {pc npc : Nat} {l : List (Nat × Value)} {st : List Value} {s : Sto} {pc2 : Nat} {tgt : Nat} {off : Int} {x y : Int} (hd : decode M.1 pc = .ok (.lcmp, 1)) (hn2 : pc + 1 = pc2) (hd2 : decode M.1 pc2 = .ok (.ifCond .ge off, 3)) (hn : pc2 + 3 = npc) (ht : (pc2 : Int) + off = (tgt : Int)) (hr : (-9223372036854775808 ≤ x ∧ x < 9223372036854775808) ∧ -9223372036854775808 ≤ y ∧ y < 9223372036854775808) (kt : (y ≤ x) → Go S M F tgt l st s) (kf : ¬ (y ≤ x) → Go S M F npc l st s) : Go S M F pc l (jV y :: jV x :: st) s :=
  g_lcmp hd hn2 hr (g_if_ge hd2 hn ht (lcm_r x y) (fun q => kt ((lcm_ge x y).mp q)) (fun q => kf (fun z => q ((lcm_ge x y).mpr z))))
theorem g_lgt {S : Shp} {M : Mth} {F : Option Value → Sto → Prop} {pc npc : Nat} {l : List (Nat × Value)} {st : List Value} {s : Sto} {pc2 : Nat} {tgt : Nat} {off : Int} {x y : Int} (hd : decode M.1 pc = .ok (.lcmp, 1)) (hn2 : pc + 1 = pc2) (hd2 : decode M.1 pc2 = .ok (.ifCond .gt off, 3)) (hn : pc2 + 3 = npc) (ht : (pc2 : Int) + off = (tgt : Int)) (hr : (-9223372036854775808 ≤ x ∧ x < 9223372036854775808) ∧ -9223372036854775808 ≤ y ∧ y < 9223372036854775808) (kt : (y < x) → Go S M F tgt l st s) (kf : ¬ (y < x) → Go S M F npc l st s) : Go S M F pc l (jV y :: jV x :: st) s :=
  g_lcmp hd hn2 hr (g_if_gt hd2 hn ht (lcm_r x y) (fun q => kt ((lcm_gt x y).mp q)) (fun q => kf (fun z => q ((lcm_gt x y).mpr z))))
theorem g_lle {S : Shp} {M : Mth} {F : Option Value → Sto → Prop} {pc npc : Nat} {l : List (Nat × Value)} {st : List Value} {s : Sto} {pc2 : Nat} {tgt : Nat} {off : Int} {x y : Int} (hd : decode M.1 pc = .ok (.lcmp, 1)) (hn2 : pc + 1 = pc2) (hd2 : decode M.1 pc2 = .ok (.ifCond .le off, 3)) (hn : pc2 + 3 = npc) (ht : (pc2 : Int) + off = (tgt : Int)) (hr : (-9223372036854775808 ≤ x ∧ x < 9223372036854775808) ∧ -9223372036854775808 ≤ y ∧ y < 9223372036854775808) (kt : (x ≤ y) → Go S M F tgt l st s) (kf : ¬ (x ≤ y) → Go S M F npc l st s) : Go S M F pc l (jV y :: jV x :: st) s :=
  g_lcmp hd hn2 hr (g_if_le hd2 hn ht (lcm_r x y) (fun q => kt ((lcm_le x y).mp q)) (fun q => kf (fun z => q ((lcm_le x y).mpr z))))
def ar (S : Shp) (k t n : Nat) : Prop := k < nc S ∧ kd S k = t ∧ ln S k = n ∧ n < 2147483648
theorem wd_iald {S : Shp} {ad : Nat → Nat} {cA : Nat → ClassId} {s : Sto} {k n : Nat} (h : ar S k 1 n) : (wd S ad cA s)[k]? = some (ad k, .inl (cA 1, n, .inl (fun i => Int32.ofInt (s k i)))) := by
  obtain ⟨h1, h2, h3, -⟩ := h
  rw [wd_at h1]
  simp [cE, h2, h3]
theorem g_iald {S : Shp} {M : Mth} {F : Option Value → Sto → Prop} {pc npc : Nat} {l : List (Nat × Value)} {st : List Value} {s : Sto} {k n : Nat} {i : Int} (hd : decode M.1 pc = .ok (.iaload, 1)) (hn : pc + 1 = npc) (hk : ar S k 1 n) (hi : 0 ≤ i ∧ i < n) (k' : Go S M F npc l (iV (s k i.toNat) :: st) s) : Go S M F pc l (iV i :: .ref k :: st) s := by
  subst hn
  intro p lc e u m args below meth c D cA ad H locs ls X hP hS hl
  obtain ⟨a1, a2⟩ := i32_ix hi hk.2.2.2
  refine va_iald X.1 X.2.1 X.2.2.2.2.2.2.2.1 hP k 0 (wd_iald hk) rfl a1 hd ?_
  rw [a2]
  exact k' p lc e u m args below meth c D cA ad H locs ls X hP hS hl
theorem wd_lald {S : Shp} {ad : Nat → Nat} {cA : Nat → ClassId} {s : Sto} {k n : Nat} (h : ar S k 2 n) : (wd S ad cA s)[k]? = some (ad k, .inl (cA 2, n, .inr (.inl (fun i => Int64.ofInt (s k i))))) := by
  obtain ⟨h1, h2, h3, -⟩ := h
  rw [wd_at h1]
  simp [cE, h2, h3]
theorem g_lald {S : Shp} {M : Mth} {F : Option Value → Sto → Prop} {pc npc : Nat} {l : List (Nat × Value)} {st : List Value} {s : Sto} {k n : Nat} {i : Int} (hd : decode M.1 pc = .ok (.laload, 1)) (hn : pc + 1 = npc) (hk : ar S k 2 n) (hi : 0 ≤ i ∧ i < n) (k' : Go S M F npc l (jV (s k i.toNat) :: st) s) : Go S M F pc l (iV i :: .ref k :: st) s := by
  subst hn
  intro p lc e u m args below meth c D cA ad H locs ls X hP hS hl
  obtain ⟨a1, a2⟩ := i32_ix hi hk.2.2.2
  refine va_lald X.1 X.2.1 X.2.2.2.2.2.2.2.1 hP k 1 (wd_lald hk) rfl a1 hd ?_
  rw [a2]
  exact k' p lc e u m args below meth c D cA ad H locs ls X hP hS hl
theorem wd_cald {S : Shp} {ad : Nat → Nat} {cA : Nat → ClassId} {s : Sto} {k n : Nat} (h : ar S k 3 n) : (wd S ad cA s)[k]? = some (ad k, .inl (cA 3, n, .inl (fun i => Int32.ofInt (s k i)))) := by
  obtain ⟨h1, h2, h3, -⟩ := h
  rw [wd_at h1]
  simp [cE, h2, h3]
theorem g_cald {S : Shp} {M : Mth} {F : Option Value → Sto → Prop} {pc npc : Nat} {l : List (Nat × Value)} {st : List Value} {s : Sto} {k n : Nat} {i : Int} (hd : decode M.1 pc = .ok (.caload, 1)) (hn : pc + 1 = npc) (hk : ar S k 3 n) (hi : 0 ≤ i ∧ i < n) (k' : Go S M F npc l (iV (s k i.toNat) :: st) s) : Go S M F pc l (iV i :: .ref k :: st) s := by
  subst hn
  intro p lc e u m args below meth c D cA ad H locs ls X hP hS hl
  obtain ⟨a1, a2⟩ := i32_ix hi hk.2.2.2
  refine va_cald X.1 X.2.1 X.2.2.2.2.2.2.2.1 hP k 2 (wd_cald hk) rfl a1 hd ?_
  rw [a2]
  exact k' p lc e u m args below meth c D cA ad H locs ls X hP hS hl
theorem wd_zald {S : Shp} {ad : Nat → Nat} {cA : Nat → ClassId} {s : Sto} {k n : Nat} (h : ar S k 4 n) : (wd S ad cA s)[k]? = some (ad k, .inl (cA 4, n, .inl (fun i => Int32.ofInt (s k i)))) := by
  obtain ⟨h1, h2, h3, -⟩ := h
  rw [wd_at h1]
  simp [cE, h2, h3]
theorem g_zald {S : Shp} {M : Mth} {F : Option Value → Sto → Prop} {pc npc : Nat} {l : List (Nat × Value)} {st : List Value} {s : Sto} {k n : Nat} {i : Int} (hd : decode M.1 pc = .ok (.baload, 1)) (hn : pc + 1 = npc) (hk : ar S k 4 n) (hi : 0 ≤ i ∧ i < n) (k' : Go S M F npc l (iV (s k i.toNat) :: st) s) : Go S M F pc l (iV i :: .ref k :: st) s := by
  subst hn
  intro p lc e u m args below meth c D cA ad H locs ls X hP hS hl
  obtain ⟨a1, a2⟩ := i32_ix hi hk.2.2.2
  refine va_zald X.1 X.2.1 X.2.2.2.2.2.2.2.1 hP k 3 (wd_zald hk) rfl a1 hd ?_
  rw [a2]
  exact k' p lc e u m args below meth c D cA ad H locs ls X hP hS hl
theorem wd_iset {S : Shp} {ad : Nat → Nat} {cA : Nat → ClassId} {s : Sto} {k n t i : Nat} {x : Int} (h : ar S k t n) (ht : t = 1 ∨ t = 3 ∨ t = 4) : (wd S ad cA s).set k (ad k, .inl (cA t, n, .inl (upd (fun j => Int32.ofInt (s k j)) i (Int32.ofInt x)))) = wd S ad cA (up s k i x) := by
  obtain ⟨h1, h2, h3, -⟩ := h
  refine wd_set h1 ?_ (fun j _ hj => cE_up_ne hj)
  have e : (upd (fun j => Int32.ofInt (s k j)) i (Int32.ofInt x)) = (fun j => Int32.ofInt (up s k i x k j)) := by
    funext j
    by_cases hj : j = i
    · subst hj; simp [upd, up]
    · simp [upd, up, hj]
  rw [e]
  rcases ht with rfl | rfl | rfl <;> simp [cE, h2, h3]
theorem wd_jset {S : Shp} {ad : Nat → Nat} {cA : Nat → ClassId} {s : Sto} {k n i : Nat} {x : Int} (h : ar S k 2 n) : (wd S ad cA s).set k (ad k, .inl (cA 2, n, .inr (.inl (vp_updL (fun j => Int64.ofInt (s k j)) i (Int64.ofInt x))))) = wd S ad cA (up s k i x) := by
  obtain ⟨h1, h2, h3, -⟩ := h
  refine wd_set h1 ?_ (fun j _ hj => cE_up_ne hj)
  have e : (vp_updL (fun j => Int64.ofInt (s k j)) i (Int64.ofInt x)) = (fun j => Int64.ofInt (up s k i x k j)) := by
    funext j
    by_cases hj : j = i
    · subst hj; simp [vp_updL, up]
    · simp [vp_updL, up, hj]
  rw [e]
  simp [cE, h2, h3]
theorem g_iast {S : Shp} {M : Mth} {F : Option Value → Sto → Prop} {pc npc : Nat} {l : List (Nat × Value)} {st : List Value} {s : Sto} {k n : Nat} {i x : Int} (hd : decode M.1 pc = .ok (.iastore, 1)) (hn : pc + 1 = npc) (hk : ar S k 1 n) (hi : 0 ≤ i ∧ i < n) (k' : Go S M F npc l st (up s k i.toNat x)) : Go S M F pc l (iV x :: iV i :: .ref k :: st) s := by
  subst hn
  intro p lc e u m args below meth c D cA ad H locs ls X hP hS hl
  obtain ⟨a1, a2⟩ := i32_ix hi hk.2.2.2
  refine va_iast X.1 X.2.1 X.2.2.2.2.2.2.2.1 hP (wd_D X.2.2.2.2.2.2.2.2.1) hS k 0 (wd_iald hk) rfl a1 hd (fun H1 locs1 hP1 hD1 hS1 => ?_)
  rw [a2, wd_iset hk (Or.inl rfl)] at hP1
  exact k' p lc e u m args below meth c D cA ad H1 locs1 ls X hP1 hS1 hl
theorem g_last {S : Shp} {M : Mth} {F : Option Value → Sto → Prop} {pc npc : Nat} {l : List (Nat × Value)} {st : List Value} {s : Sto} {k n : Nat} {i x : Int} (hd : decode M.1 pc = .ok (.lastore, 1)) (hn : pc + 1 = npc) (hk : ar S k 2 n) (hi : 0 ≤ i ∧ i < n) (k' : Go S M F npc l st (up s k i.toNat x)) : Go S M F pc l (jV x :: iV i :: .ref k :: st) s := by
  subst hn
  intro p lc e u m args below meth c D cA ad H locs ls X hP hS hl
  obtain ⟨a1, a2⟩ := i32_ix hi hk.2.2.2
  refine va_last X.1 X.2.1 X.2.2.2.2.2.2.2.1 hP (wd_D X.2.2.2.2.2.2.2.2.1) hS k 1 (wd_lald hk) rfl a1 hd (fun H1 locs1 hP1 hD1 hS1 => ?_)
  rw [a2, wd_jset hk] at hP1
  exact k' p lc e u m args below meth c D cA ad H1 locs1 ls X hP1 hS1 hl
theorem g_cast {S : Shp} {M : Mth} {F : Option Value → Sto → Prop} {pc npc : Nat} {l : List (Nat × Value)} {st : List Value} {s : Sto} {k n : Nat} {i x : Int} (hd : decode M.1 pc = .ok (.castore, 1)) (hn : pc + 1 = npc) (hk : ar S k 3 n) (hi : 0 ≤ i ∧ i < n) (hx : vp_nar .char (Int32.ofInt x) = Int32.ofInt x) (k' : Go S M F npc l st (up s k i.toNat x)) : Go S M F pc l (iV x :: iV i :: .ref k :: st) s := by
  subst hn
  intro p lc e u m args below meth c D cA ad H locs ls X hP hS hl
  obtain ⟨a1, a2⟩ := i32_ix hi hk.2.2.2
  refine va_cast X.1 X.2.1 X.2.2.2.2.2.2.2.1 hP (wd_D X.2.2.2.2.2.2.2.2.1) hS k 2 (wd_cald hk) rfl a1 hd (fun H1 locs1 hP1 hD1 hS1 => ?_)
  rw [a2, hx, wd_iset hk (Or.inr (Or.inl rfl))] at hP1
  exact k' p lc e u m args below meth c D cA ad H1 locs1 ls X hP1 hS1 hl
theorem g_zast {S : Shp} {M : Mth} {F : Option Value → Sto → Prop} {pc npc : Nat} {l : List (Nat × Value)} {st : List Value} {s : Sto} {k n : Nat} {i x : Int} (hd : decode M.1 pc = .ok (.bastore, 1)) (hn : pc + 1 = npc) (hk : ar S k 4 n) (hi : 0 ≤ i ∧ i < n) (hx : vp_nar .boolean (Int32.ofInt x) = Int32.ofInt x) (k' : Go S M F npc l st (up s k i.toNat x)) : Go S M F pc l (iV x :: iV i :: .ref k :: st) s := by
  subst hn
  intro p lc e u m args below meth c D cA ad H locs ls X hP hS hl
  obtain ⟨a1, a2⟩ := i32_ix hi hk.2.2.2
  refine va_zast X.1 X.2.1 X.2.2.2.2.2.2.2.1 hP (wd_D X.2.2.2.2.2.2.2.2.1) hS k 3 (wd_zald hk) rfl a1 hd (fun H1 locs1 hP1 hD1 hS1 => ?_)
  rw [a2, hx, wd_iset hk (Or.inr (Or.inr rfl))] at hP1
  exact k' p lc e u m args below meth c D cA ad H1 locs1 ls X hP1 hS1 hl
theorem g_aald5 {S : Shp} {M : Mth} {F : Option Value → Sto → Prop} {pc npc : Nat} {l : List (Nat × Value)} {st : List Value} {s : Sto} {k n b : Nat} {i : Int} (hd : decode M.1 pc = .ok (.aaload, 1)) (hn : pc + 1 = npc) (hk : ar S k 5 n) (hi : 0 ≤ i ∧ i < n) (hb : fr S k i.toNat = some (b + i.toNat)) (k' : Go S M F npc l (.ref (b + i.toNat) :: st) s) : Go S M F pc l (iV i :: .ref k :: st) s := by
  subst hn
  intro p lc e u m args below meth c D cA ad H locs ls X hP hS hl
  obtain ⟨a1, a2⟩ := i32_ix hi hk.2.2.2
  have ha : (wd S ad cA s)[k]? = some (ad k, .inl (cA 5, n, .inr (.inr (.inr (.inr (fun i => (fr S k i).map ad)))))) := by
    rw [wd_at hk.1]
    simp [cE, hk.2.1, hk.2.2.1]
  have hlt : (Int32.ofInt i).toNatClampNeg < n := Nat.not_le.mp fun q => a1 (Or.inr q)
  refine W.aald (v := .ref (ad (b + i.toNat))) (ty := .array .int) X.1 X.2.1 (hP k _ ha) ((X.2.2.2.2.2.2.2.1.2 4 _ rfl).1 n (fun j => va_rf ((fr S k j).map ad))) rfl (fun q => by cases q) (by show ¬ (_ < 0 ∨ (arrV _ _ _).slots.size ≤ _); rw [arrV_size]; exact a1) ?_ rfl rfl hd (k' p lc e u m args below meth c D cA ad H locs ls X hP hS hl)
  show (arrV _ _ _).slots[_]? = _
  rw [arrV_read _ _ hlt, a2]
  show some (va_rf ((fr S k i.toNat).map ad)) = _
  rw [hb]
  rfl
theorem g_aald6 {S : Shp} {M : Mth} {F : Option Value → Sto → Prop} {pc npc : Nat} {l : List (Nat × Value)} {st : List Value} {s : Sto} {k n b : Nat} {i : Int} (hd : decode M.1 pc = .ok (.aaload, 1)) (hn : pc + 1 = npc) (hk : ar S k 6 n) (hi : 0 ≤ i ∧ i < n) (hb : fr S k i.toNat = some (b + i.toNat)) (k' : Go S M F npc l (.ref (b + i.toNat) :: st) s) : Go S M F pc l (iV i :: .ref k :: st) s := by
  subst hn
  intro p lc e u m args below meth c D cA ad H locs ls X hP hS hl
  obtain ⟨a1, a2⟩ := i32_ix hi hk.2.2.2
  have ha : (wd S ad cA s)[k]? = some (ad k, .inl (cA 6, n, .inr (.inr (.inr (.inr (fun i => (fr S k i).map ad)))))) := by
    rw [wd_at hk.1]
    simp [cE, hk.2.1, hk.2.2.1]
  have hlt : (Int32.ofInt i).toNatClampNeg < n := Nat.not_le.mp fun q => a1 (Or.inr q)
  refine W.aald (v := .ref (ad (b + i.toNat))) (ty := .array .long) X.1 X.2.1 (hP k _ ha) ((X.2.2.2.2.2.2.2.1.2 5 _ rfl).1 n (fun j => va_rf ((fr S k j).map ad))) rfl (fun q => by cases q) (by show ¬ (_ < 0 ∨ (arrV _ _ _).slots.size ≤ _); rw [arrV_size]; exact a1) ?_ rfl rfl hd (k' p lc e u m args below meth c D cA ad H locs ls X hP hS hl)
  show (arrV _ _ _).slots[_]? = _
  rw [arrV_read _ _ hlt, a2]
  show some (va_rf ((fr S k i.toNat).map ad)) = _
  rw [hb]
  rfl
theorem g_alen {S : Shp} {M : Mth} {F : Option Value → Sto → Prop} {pc npc : Nat} {l : List (Nat × Value)} {st : List Value} {s : Sto} {k n t : Nat} (hd : decode M.1 pc = .ok (.arraylength, 1)) (hn : pc + 1 = npc) (hk : ar S k t n) (ht : t = 1 ∨ t = 2 ∨ t = 3) (k' : Go S M F npc l (iV (n : Int) :: st) s) : Go S M F pc l (.ref k :: st) s := by
  subst hn
  intro p lc e0 u m args below meth c D cA ad H locs ls X hP hS hl
  have e : Int32.ofNat n = Int32.ofInt (n : Int) := (Int32.ofInt_eq_ofNat (n := n)).symm
  rcases ht with rfl | rfl | rfl
  · exact va_alen (ty := .int) X.1 X.2.1 X.2.2.2.2.2.2.2.1 hP k 0 (wd_iald hk) rfl e hd (k' p lc e0 u m args below meth c D cA ad H locs ls X hP hS hl)
  · exact va_alen (ty := .long) X.1 X.2.1 X.2.2.2.2.2.2.2.1 hP k 1 (wd_lald hk) rfl e hd (k' p lc e0 u m args below meth c D cA ad H locs ls X hP hS hl)
  · exact va_alen (ty := .char) X.1 X.2.1 X.2.2.2.2.2.2.2.1 hP k 2 (wd_cald hk) rfl e hd (k' p lc e0 u m args below meth c D cA ad H locs ls X hP hS hl)
theorem g_get {S : Shp} {M : Mth} {F : Option Value → Sto → Prop} {pc npc : Nat} {l : List (Nat × Value)} {st : List Value} {s : Sto} {C : String} {T : u_T} {N idx f k : Nat} {v : Value} (hd : decode M.1 pc = .ok (.getfield idx, 3)) (hn : pc + 3 = npc) (hk : k < nc S ∧ kd S k = 0 ∧ ln S k = N) (hcl : vwCl[ci S k]? = some (C, T, N)) (hws : ∀ w ∈ u_ws C T N, w ∈ TW) (hf : f < N) (hlink : Cond.fieldLink M.2.1 idx C (T f).2.1 (T f).2.2.1 ∈ TW) (hC : (T f).1 = C) (hv : fr S k f = none ∧ v = iV (s k f) ∨ ∃ j, fr S k f = some j ∧ v = .ref j) (k' : Go S M F npc l (v :: st) s) : Go S M F pc l (.ref k :: st) s := by
  subst hn
  intro p lc e u m args below meth c D cA ad H locs ls X hP hS hl
  have ha : (wd S ad cA s)[k]? = some (ad k, .inr (ci S k, (List.range N).map (fV S ad s k))) := by
    rw [wd_at hk.1]
    simp [cE, hk.2.1, hk.2.2]
  refine va_get X.1 X.2.1 (X.2.2.2.2.2.1) hws X.2.2.2.2.1 X.2.2.2.2.2.2.2.1 hP k ha hcl f hf (X.2.2.2.2.2.1 _ hlink) (fun x hx => by rw [hC] at hx; exact hx) (v := tv ad v) ?_ hd (k' p lc e u m args below meth c D cA ad H locs ls X hP hS hl)
  simp only [List.getElem?_map, List.getElem?_range hf, Option.map_some]
  rcases hv with ⟨h1, rfl⟩ | ⟨j, h1, rfl⟩
  · simp [fV, h1, iV, tv]
  · simp [fV, h1, tv]
theorem g_put {S : Shp} {M : Mth} {F : Option Value → Sto → Prop} {pc npc : Nat} {l : List (Nat × Value)} {st : List Value} {s : Sto} {C : String} {T : u_T} {N idx f k : Nat} {x : Int} (ty0 : Nat → FieldType) (hd : decode M.1 pc = .ok (.putfield idx, 3)) (hn : pc + 3 = npc) (hk : k < nc S ∧ kd S k = 0 ∧ ln S k = N) (hcl : vwCl[ci S k]? = some (C, T, N)) (hws : ∀ w ∈ u_ws C T N, w ∈ TW) (hty : ∀ k, k < N → parseFieldDescriptor (T k).2.2.1 = some (ty0 k)) (hnm : ∀ a, a < N → ∀ b, b < N → a ≠ b → (T a).2.1 ≠ (T b).2.1) (hf : f < N) (hlink : Cond.fieldLink M.2.1 idx C (T f).2.1 (T f).2.2.1 ∈ TW) (hC : (T f).1 = C) (hfin : (T f).2.2.2 = false) (hr : fr S k f = none) (hx : narrow (ty0 f) (iV x) = iV x ∧ fits (ty0 f) (iV x) = true) (k' : Go S M F npc l st (up s k f x)) : Go S M F pc l (iV x :: .ref k :: st) s := by
  subst hn
  intro p lc e9 u m args below meth c D cA ad H locs ls X hP hS hl
  have ha : (wd S ad cA s)[k]? = some (ad k, .inr (ci S k, (List.range N).map (fV S ad s k))) := by
    rw [wd_at hk.1]
    simp [cE, hk.2.1, hk.2.2]
  refine va_put X.1 X.2.1 (X.2.2.2.2.2.1) hws ty0 hty hnm X.2.2.2.2.1 X.2.2.2.2.2.2.2.1 hP (wd_D X.2.2.2.2.2.2.2.2.1) hS k ha hcl f hf (X.2.2.2.2.2.1 _ hlink) (fun x hx => by rw [hC] at hx; exact hx) hfin (hty f hf) hx.1 hx.2 (by simpa using hf) hd (fun H1 locs1 hP1 hD1 hS1 => ?_)
  have e : (wd S ad cA s).set k (ad k, .inr (ci S k, ((List.range N).map (fV S ad s k)).set f (iV x))) = wd S ad cA (up s k f x) := by
    refine wd_set hk.1 ?_ (fun j _ hj => cE_up_ne hj)
    have e2 : ((List.range N).map (fV S ad s k)).set f (iV x) = (List.range N).map (fV S ad (up s k f x) k) := by
      apply List.ext_getElem?
      intro j
      by_cases hj : j = f
      · subst hj
        rw [List.getElem?_set_self (by simpa using hf)]
        simp [hf, fV, hr, up, iV]
      · rw [List.getElem?_set_ne (Ne.symm hj)]
        by_cases hl : j < N
        · simp only [List.getElem?_map, List.getElem?_range hl, Option.map_some]
          congr 1
          unfold fV
          cases fr S k j with
          | some _ => rfl
          | none => simp [up, hj]
        · simp [hl]
    rw [e2]
    simp [cE, hk.2.1, hk.2.2]
  have hP2 : va_P D vwCl ((wd S ad cA s).set k (ad k, .inr (ci S k, ((List.range N).map (fV S ad s k)).set f (iV x)))) H1 := hP1
  rw [e] at hP2
  exact k' p lc e9 u m args below meth c D cA ad H1 locs1 ls X hP2 hS1 hl
theorem g_iret {S : Shp} {M : Mth} {F : Option Value → Sto → Prop} {pc npc : Nat} {l : List (Nat × Value)} {st : List Value} {s : Sto} {x : Int} {ty : FieldType} (hd : decode M.1 pc = .ok (.ireturn, 1)) (hr : M.2.2.2.1 = some ty) (hx : narrow ty (iV x) = iV x) (h : F (some (iV x)) s) : Go S M F pc l [iV x] s := by
  intro p lc e u m args below meth c D cA ad H locs ls X hP hS hl
  exact W.zret (ty := ty) X.1 X.2.1 (X.2.2.1.trans hr) hx (fun t ht hW => ⟨⟨some (iV x), s, rfl, h, by rw [ht]; exact hP⟩, hS.F ht⟩) hS.2.2 hd X.2.2.2.2.2.2.1
theorem g_lret {S : Shp} {M : Mth} {F : Option Value → Sto → Prop} {pc npc : Nat} {l : List (Nat × Value)} {st : List Value} {s : Sto} {x : Int} (hd : decode M.1 pc = .ok (.lreturn, 1)) (hr : M.2.2.2.1 = some .long) (h : F (some (jV x)) s) : Go S M F pc l [jV x] s := by
  intro p lc e u m args below meth c D cA ad H locs ls X hP hS hl
  exact W.lret X.1 X.2.1 (X.2.2.1.trans hr) (fun t ht hW => ⟨⟨some (jV x), s, rfl, h, by rw [ht]; exact hP⟩, hS.F ht⟩) hS.2.2 hd X.2.2.2.2.2.2.1
theorem g_ret {S : Shp} {M : Mth} {F : Option Value → Sto → Prop} {pc npc : Nat} {l : List (Nat × Value)} {st : List Value} {s : Sto} (hd : decode M.1 pc = .ok (.return_, 1)) (hr : M.2.2.2.1 = none) (h : F none s) : Go S M F pc l [] s := by
  intro p lc e u m args below meth c D cA ad H locs ls X hP hS hl
  exact W.vret X.1 X.2.1 (X.2.2.1.trans hr) (fun t ht hW => ⟨⟨none, s, rfl, h, by rw [ht]; exact hP⟩, hS.F ht⟩) hS.2.2 hd X.2.2.2.2.2.2.1
theorem g_aret {S : Shp} {M : Mth} {F : Option Value → Sto → Prop} {pc npc : Nat} {l : List (Nat × Value)} {st : List Value} {s : Sto} {k : Nat} {ty : FieldType} (hd : decode M.1 pc = .ok (.areturn, 1)) (hr : M.2.2.2.1 = some ty) (hrt : (∃ n, ty = .object n) ∨ ∃ t, ty = .array t) (h : F (some (.ref k)) s) : Go S M F pc l [.ref k] s := by
  intro p lc e u m args below meth c D cA ad H locs ls X hP hS hl
  exact W.aret X.1 X.2.1 (X.2.2.1.trans hr) hrt (Or.inr ⟨ad k, rfl⟩) (fun t ht hW => ⟨⟨some (.ref k), s, rfl, h, by rw [ht]; exact hP⟩, hS.F ht⟩) hS.2.2 hd X.2.2.2.2.2.2.1
theorem fb_pc {S : Shp} {D : va_G} {cA : Nat → ClassId} {ad : Nat → Nat} {av : List Value} {s : Sto} : FrameBlind (va_Pc av (fun U => va_P D vwCl (wd S ad cA s) U.heap ∧ va_K D vwCl (tysOf cA) U ∧ DJ S ad ∧ NW U ∧ XS ad (AW S ad) U U.heap)) := by
  intro a U g mk q
  obtain ⟨q1, q2, q3, q4, q5, q6⟩ := q
  exact ⟨q1, q2, va_K.moved (u := U) (U := U.calling g mk a) (Vm.Alike.refl U.vm) q3, q4, NW.same rfl q5, XS.same (u := U) (U := U.calling g mk a) rfl q6⟩
theorem pc_of {S : Shp} {M : Mth} {p : Program} {u : State} {m : MethodId} {args : Array Value} {meth : Method} {c : Code} {D : va_G} {cA : Nat → ClassId} {ad : Nat → Nat} {H : Heap} {locs : List Loc} {s : Sto} {av : List Value} (X : Cx S M p u m args meth c D cA ad) (hP : va_P D vwCl (wd S ad cA s) H) (hS : va_S (AW S ad) u.heap H locs) :
    ∀ U : State, U.heap = H → u.WarmedH U.vm → va_Pc av (fun U => va_P D vwCl (wd S ad cA s) U.heap ∧ va_K D vwCl (tysOf cA) U ∧ DJ S ad ∧ NW U ∧ XS ad (AW S ad) U U.heap) av.toArray U := by
  intro U hU hW
  obtain ⟨-, -, -, -, -, -, -, hK, hDJ, hN, hX⟩ := X
  exact ⟨rfl, by rw [hU]; exact hP, va_K.moved hW.alike hK, hDJ, hN.warm hW, by rw [hU]; exact hX.tr hW (fun a h1 h2 => hS.2.1 a h1 h2) (fun _ h => h)⟩
theorem g_run {S : Shp} {M : Mth} {F : Option Value → Sto → Prop} {pc : Nat} {l : List (Nat × Value)} {st0 : List Value} (st : List Value) {G : Option Value → Sto → Prop} {p : Program} {lc : Launch} {e : Env} {u : State} {m : MethodId} {args : Array Value} {below : List Frame} {meth : Method} {c : Code} {D : va_G} {cA : Nat → ClassId} {ad : Nat → Nat} {H : Heap} {locs : List Loc} {ls : Array Slot} {a : Array Value}
    (hr : va_Run p lc e M.2.2.2.2 u m args below meth c H locs 0 0 0 0 (F0 m pc ls st0) (ts ad st) (QQ S D cA ad G a) (AW S ad)) (X : Cx S M p u m args meth c D cA ad) (hS : va_S (AW S ad) u.heap H locs) (hl : lv_has ls M.2.2.1 (tl ad l)) (k : ∀ r s', G r s' → Go S M F (pc + 3) l (r.toList ++ st) s') :
    W p lc e M.2.2.2.2 u m args below meth c H locs 0 0 (MQ below (QQ S D cA ad F) args u 0 0 (AW S ad)) (F0 m pc ls st0) := by
  intro T hT Y
  obtain ⟨v, st₀, t, T', L, h0, X', hL, e1, e2, ⟨⟨r, s', hv, hp, hb⟩, hz, hk⟩, stp⟩ := hr T hT Y
  have hv' : v = r.map (tv ad) := Outcome.returned.inj hv
  subst hv'
  rw [h0] at hz hk
  have hP' : va_P D vwCl (wd S ad cA s') T'.heap := by rw [e1]; exact hb
  have hS' : va_S (AW S ad) u.heap T'.heap (locs ++ L) := ⟨Nat.le_trans hS.1 (by rw [e1]; exact hz), fun q h1 h2 => by rw [e1, hk q (Nat.lt_of_lt_of_le h1 hS.1) h2]; exact hS.2.1 q h1 h2, fun q hq => by
    rcases List.mem_append.mp hq with h | h
    · exact hS.2.2 q h
    · exact hL q h⟩
  obtain ⟨t2, a1, b1⟩ := k r s' hp p lc e u m args below meth c D cA ad T'.heap (locs ++ L) ls X hP' hS' hl T' rfl X'
  refine ⟨t2, stp t2 ?_, b1⟩
  have es : ts ad (r.toList ++ st) = (r.map (tv ad)).toList ++ ts ad st := by cases r <;> simp [ts]
  rw [es] at a1
  exact a1
def okV (M : Mth) (idx : Nat) (C : String) (y : MethodName) (cy : ByteArray) (maxL : Nat) (ret : Option FieldType) (n : Nat) : Prop :=
  (Cond.methodLink M.2.1 idx y ∈ TW ∧ Cond.instanceMethod y ∈ TW ∧ Cond.selects C y y ∈ TW ∧ Cond.initialized C ∈ TW ∧ Cond.code y cy maxL ret ∈ TW) ∧ y.cls = C ∧ y.cls ≠ "java/lang/invoke/MethodHandle" ∧ y.cls ≠ "java/lang/invoke/VarHandle" ∧ (parseMethodDescriptor y.desc).map (fun d => d.parameters.length) = some n
theorem g_callV {S : Shp} {M : Mth} {F : Option Value → Sto → Prop} {pc npc : Nat} {l : List (Nat × Value)} {st0 st : List Value} {s : Sto} {G : Option Value → Sto → Prop} {C : String} {y : MethodName} {cy : ByteArray} {maxL idx k n : Nat} {ret : Option FieldType} {R2 : Room} {as : List Value} {q : vw_C}
    (hd : decode M.1 pc = .ok (.invokevirtual idx, 3)) (hn : pc + 3 = npc) (hst : st0 = as.reverse ++ .ref k :: st) (hk : k < nc S ∧ kd S k = 0) (hcl : vwCl[ci S k]? = some q) (hq : q.1 = C) (hw : okV M idx C y cy maxL ret n) (hlen : as.length = n) (hcat : (st.map (fun v => v.category)).sum ≤ 8) (hR0 : R2.cells = 0 ∧ R2.slots = 0) (hR : R2.frames + 1 ≤ M.2.2.2.2.frames ∧ 8 + (maxL + 11) + R2.locals ≤ M.2.2.2.2.locals)
    (hS9 : Sp S y (Cond.code y cy maxL ret) R2 (.ref k :: as) s G) (k' : ∀ r s', G r s' → Go S M F npc l (r.toList ++ st) s') : Go S M F pc l st0 s := by
  subst hn hst hq
  intro p lc e u m args below meth c D cA ad H locs ls X hP hS hl
  obtain ⟨⟨w1, w2, w3, w4, w5⟩, w6, w7, w8, w9⟩ := hw
  have X' := X
  obtain ⟨hx, hb, hret, hml, hown, hts, hlk, hK, hDJ, hN, hXS⟩ := X
  have hG : GoodIn TW (wsV M.2.1 idx q.1 y (Cond.code y cy maxL ret :: TW)) := fun w hw => by
    have : w ∈ TW := by
      rcases List.mem_append.mp hw with h | h
      · simp only [List.mem_cons, List.not_mem_nil, or_false] at h
        rcases h with rfl | rfl | rfl | rfl <;> assumption
      · rcases List.mem_cons.mp h with rfl | h
        · exact w5
        · exact h
    exact ⟨this, good_of_word (List.mem_filter.mp this).2⟩
  have ha : (wd S ad cA s)[k]? = some (ad k, .inr (ci S k, (List.range (ln S k)).map (fV S ad s k))) := by
    rw [wd_at hk.1]
    simp [cE, hk.2]
  have hrev : ts ad (as.reverse ++ .ref k :: st) = (ts ad as).reverse ++ .ref (ad k) :: ts ad st := by simp [ts, tv]
  rw [hrev]
  refine g_run st (va_runV (As := ts ad as) (rest := ts ad st) ⟨hx, hb, hml, hown, hts⟩ (hS9 lc D cA ad) (cwV n hts hG rfl hR0.1 hR0.2 ⟨w6, w7, w8, w9⟩ hR) ⟨fb_pc, va_recv hK hP hcl ha, ?_⟩ rfl (by simp [ts, hlen]) hl.1 rfl (lv_room (by rw [ts_cat]; exact hcat)) hd ⟨Nat.zero_le _, Nat.zero_le _⟩) X' hS hl k'
  exact pc_of X' hP hS
def okS (M : Mth) (idx : Nat) (y : MethodName) (cy : ByteArray) (maxL : Nat) (ret : Option FieldType) (n : Nat) : Prop :=
  (Cond.methodLink M.2.1 idx y ∈ TW ∧ Cond.static y ∈ TW ∧ Cond.initialized y.cls ∈ TW ∧ Cond.code y cy maxL ret ∈ TW) ∧ y.cls ≠ "java/lang/invoke/MethodHandle" ∧ y.cls ≠ "java/lang/invoke/VarHandle" ∧ (parseMethodDescriptor y.desc).map (fun d => d.parameters.length) = some n
theorem g_callS {S : Shp} {M : Mth} {F : Option Value → Sto → Prop} {pc npc : Nat} {l : List (Nat × Value)} {st0 st : List Value} {s : Sto} {G : Option Value → Sto → Prop} {y : MethodName} {cy : ByteArray} {maxL idx n : Nat} {ret : Option FieldType} {R2 : Room} {as : List Value}
    (hd : decode M.1 pc = .ok (.invokestatic idx, 3)) (hn : pc + 3 = npc) (hst : st0 = as.reverse ++ st) (hw : okS M idx y cy maxL ret n) (hlen : as.length = n) (hcat : (st.map (fun v => v.category)).sum ≤ 8) (hR0 : R2.cells = 0 ∧ R2.slots = 0) (hR : R2.frames + 1 ≤ M.2.2.2.2.frames ∧ 8 + (maxL + 11) + R2.locals ≤ M.2.2.2.2.locals)
    (hS9 : Sp S y (Cond.code y cy maxL ret) R2 as s G) (k' : ∀ r s', G r s' → Go S M F npc l (r.toList ++ st) s') : Go S M F pc l st0 s := by
  subst hn hst
  intro p lc e u m args below meth c D cA ad H locs ls X hP hS hl
  obtain ⟨⟨w1, w2, w4, w5⟩, w7, w8, w9⟩ := hw
  have X' := X
  obtain ⟨hx, hb, hret, hml, hown, hts, hlk, hK, hDJ, hN, hXS⟩ := X
  have hG : GoodIn TW (Cond.code y cy maxL ret :: TW) := fun w hw => by
    have : w ∈ TW := by
      rcases List.mem_cons.mp hw with rfl | h
      · exact w5
      · exact h
    exact ⟨this, good_of_word (List.mem_filter.mp this).2⟩
  have hrev : ts ad (as.reverse ++ st) = (ts ad as).reverse ++ ts ad st := by simp [ts]
  rw [hrev]
  refine g_run st (va_runS (As := ts ad as) (rest := ts ad st) ⟨hx, hb, hml, hown, hts⟩ (hS9 lc D cA ad) ⟨callB_of n hts hG rfl hR0.1 hR0.2 (hts _ w4) (hts _ w1) ⟨w7, w8, w9⟩ hR, hts _ w2⟩ ⟨fb_pc, ?_⟩ rfl (by simp [ts, hlen]) hl.1 rfl (lv_room (by rw [ts_cat]; exact hcat)) hd ⟨Nat.zero_le _, Nat.zero_le _⟩) X' hS hl k'
  exact pc_of X' hP hS
/-- a private static method of the host, called by a nest mate -/
def okN (M : Mth) (idx : Nat) (y : MethodName) (cy : ByteArray) (maxL : Nat) (ret : Option FieldType) (n : Nat) : Prop :=
  ((M.2.1, idx, y, "ChipGame") ∈ nestM ∧ Cond.static y ∈ TW ∧ Cond.initialized y.cls ∈ TW ∧ Cond.code y cy maxL ret ∈ TW) ∧ y.cls ≠ "java/lang/invoke/MethodHandle" ∧ y.cls ≠ "java/lang/invoke/VarHandle" ∧ (parseMethodDescriptor y.desc).map (fun d => d.parameters.length) = some n
theorem g_callN {S : Shp} {M : Mth} {F : Option Value → Sto → Prop} {pc npc : Nat} {l : List (Nat × Value)} {st0 st : List Value} {s : Sto} {G : Option Value → Sto → Prop} {y : MethodName} {cy : ByteArray} {maxL idx n : Nat} {ret : Option FieldType} {R2 : Room} {as : List Value}
    (hd : decode M.1 pc = .ok (.invokestatic idx, 3)) (hn : pc + 3 = npc) (hst : st0 = as.reverse ++ st) (hw : okN M idx y cy maxL ret n) (hlen : as.length = n) (hcat : (st.map (fun v => v.category)).sum ≤ 8) (hR0 : R2.cells = 0 ∧ R2.slots = 0) (hR : R2.frames + 1 ≤ M.2.2.2.2.frames ∧ 8 + (maxL + 11) + R2.locals ≤ M.2.2.2.2.locals)
    (hS9 : Sp S y (Cond.code y cy maxL ret) R2 as s G) (k' : ∀ r s', G r s' → Go S M F npc l (r.toList ++ st) s') : Go S M F pc l st0 s := by
  subst hn hst
  intro p lc e u m args below meth c D cA ad H locs ls X hP hS hl
  obtain ⟨⟨w1, w2, w4, w5⟩, w7, w8, w9⟩ := hw
  have X' := X
  obtain ⟨hx, hb, hret, hml, hown, hts, hlk, hK, hDJ, hN, hXS⟩ := X
  have hG : GoodIn TW (Cond.code y cy maxL ret :: TW) := fun w hw => by
    have : w ∈ TW := by
      rcases List.mem_cons.mp hw with rfl | h
      · exact w5
      · exact h
    exact ⟨this, good_of_word (List.mem_filter.mp this).2⟩
  have hrev : ts ad (as.reverse ++ st) = (ts ad as).reverse ++ ts ad st := by simp [ts]
  rw [hrev]
  refine g_run st (va_runSN (As := ts ad as) (rest := ts ad st) ⟨hx, hb, hml, hown, hts⟩ (hS9 lc D cA ad) ⟨va_cnB n hts hG rfl hR0.1 hR0.2 (hN _ w1) (hts _ w4) ⟨w7, w8, w9⟩ hR, hts _ w2, trivial⟩ ⟨fb_pc, ?_⟩ rfl (by simp [ts, hlen]) hl.1 rfl (lv_room (by rw [ts_cat]; exact hcat)) hd ⟨Nat.zero_le _, Nat.zero_le _⟩) X' hS hl k'
  exact pc_of X' hP hS
end
section
/-! CORE 4: ends by type, switches, a few more rows -/
abbrev fI (Q : Int → Sto → Prop) : Option Value → Sto → Prop := fun r s' => ∃ x, r = some (iV x) ∧ Q x s'
abbrev fJ (Q : Int → Sto → Prop) : Option Value → Sto → Prop := fun r s' => ∃ x, r = some (jV x) ∧ Q x s'
abbrev fR (Q : Nat → Sto → Prop) : Option Value → Sto → Prop := fun r s' => ∃ k, r = some (.ref k) ∧ Q k s'
abbrev fV0 (Q : Sto → Prop) : Option Value → Sto → Prop := fun r s' => r = none ∧ Q s'
theorem nar_zv {x : Int} (h : x = 0 ∨ x = 1) : narrow .boolean (iV x) = iV x := by rcases h with rfl | rfl <;> rfl
theorem nar_z {x : Int} (h : x = 0 ∨ x = 1) : vp_nar .boolean (Int32.ofInt x) = Int32.ofInt x := by rcases h with rfl | rfl <;> rfl
theorem nar_c {x : Int} (h : 0 ≤ x ∧ x < 65536) : vp_nar .char (Int32.ofInt x) = Int32.ofInt x := by
  obtain ⟨n, rfl⟩ : ∃ n : Nat, x = n := ⟨x.toNat, by omega⟩
  have e : Int32.ofInt (n : Int) = nI n := by rw [Int32.ofInt_eq_ofNat]; rfl
  rw [e]
  have := (pk_charN (q := n) (by omega)).1
  unfold vp_nar
  rw [this]
def iushr (x y : Int) : Int := ((Int32.ofInt x).toUInt32 >>> ((Int32.ofInt y).toUInt32 &&& Int32.toUInt32 31)).toInt32.toInt
def lxor (x y : Int) : Int := (Int64.ofInt x ^^^ Int64.ofInt y).toInt
section C4
variable {S : Shp} {M : Mth} {F : Option Value → Sto → Prop} {pc npc : Nat} {l : List (Nat × Value)} {st : List Value} {s : Sto}
theorem g_iushr {x y : Int} (hd : decode M.1 pc = .ok (.iushr, 1)) (hn : pc + 1 = npc) (k : Go S M F npc l (iV (iushr x y) :: st) s) : Go S M F pc l (iV y :: iV x :: st) s := by
  subst hn
  intro p lc e u m args below meth c D cA ad H locs ls X hP hS hl
  exact lv_iushr X.1 X.2.1 hd (i32_inv _).symm (k p lc e u m args below meth c D cA ad H locs ls X hP hS hl)
theorem g_lxor {x y : Int} (hd : decode M.1 pc = .ok (.lxor, 1)) (hn : pc + 1 = npc) (k : Go S M F npc l (jV (lxor x y) :: st) s) : Go S M F pc l (jV y :: jV x :: st) s := by
  subst hn
  intro p lc e u m args below meth c D cA ad H locs ls X hP hS hl
  refine lv_lxor X.1 X.2.1 hd ?_
  rw [← Int64.ofInt_toInt (Int64.ofInt x ^^^ Int64.ofInt y)]
  exact k p lc e u m args below meth c D cA ad H locs ls X hP hS hl
theorem g_ldcw {index : Nat} {x : Int} (hd : decode M.1 pc = .ok (.ldc_w index, 3)) (hn : pc + 3 = npc) (hc : Cond.constant M.2.1 index (Int32.ofInt x) ∈ TW) (k : Go S M F npc l (iV x :: st) s) : Go S M F pc l st s := by
  subst hn
  intro p lc e u m args below meth c D cA ad H locs ls X hP hS hl
  exact lv_ldcw X.1 X.2.1 X.2.2.2.2.1 (X.2.2.2.2.2.1 _ hc) hd (k p lc e u m args below meth c D cA ad H locs ls X hP hS hl)
theorem g_tabIn {x dflt lo hi off : Int} {offs : Array Int} {len j tgt : Nat} (hd : decode M.1 pc = .ok (.tableswitch dflt lo hi offs, len)) (hr : -2147483648 ≤ x ∧ x < 2147483648) (h : x = lo + j) (hle : lo + j ≤ hi) (ho : offs[j]? = some off) (ht : (pc : Int) + off = (tgt : Int)) (k : Go S M F tgt l st s) : Go S M F pc l (iV x :: st) s := by
  intro p lc e u m args below meth c D cA ad H locs ls X hP hS hl
  have ex := ofInt_toInt32 hr
  exact lv_tableIn X.1 X.2.1 hd (by rw [ex]; omega) (by rw [ex]; omega) (by rw [ex, h, show lo + (j : Int) - lo = (j : Int) by omega]; exact ho) ht (k p lc e u m args below meth c D cA ad H locs ls X hP hS hl)
theorem g_tabOut {x dflt lo hi : Int} {offs : Array Int} {len tgt : Nat} (hd : decode M.1 pc = .ok (.tableswitch dflt lo hi offs, len)) (hr : -2147483648 ≤ x ∧ x < 2147483648) (h : x < lo ∨ hi < x) (ht : (pc : Int) + dflt = (tgt : Int)) (k : Go S M F tgt l st s) : Go S M F pc l (iV x :: st) s := by
  intro p lc e u m args below meth c D cA ad H locs ls X hP hS hl
  have ex := ofInt_toInt32 hr
  exact lv_tableOut X.1 X.2.1 hd (by rw [ex]; exact h) ht (k p lc e u m args below meth c D cA ad H locs ls X hP hS hl)
end C4
end
section
/-! the cells of SC: 0 ChipGame, 1 ChipGame$Graph, 2 ChipGame$Text, 3 ChipGame$History, 4 ChipGame$Slots, 5 ChipGame$Burning, 6 ChipGame$Firing, 7 ChipGame$Matrix, 8 ChipGame$Trees, 9 ChipGame$Levels, 10 ChipGame.state, 11 ChipGame.copy, 12 ChipGame.otherCopy, 13 ChipGame$Graph.first, 14 ChipGame$Graph.second, 15 ChipGame$Graph.joining, 24 ChipGame$Graph.degrees, 25 ChipGame$Graph.labels, 26 ChipGame$Text.signs, 27 ChipGame$History.states, 40 ChipGame$Slots.taken, 41 ChipGame$Slots.states, 45 ChipGame$Burning.round, 46 ChipGame$Burning.needed, 47 ChipGame$Firing.times, 48 ChipGame$Matrix.factors, 49 ChipGame$Matrix.cells, 58 ChipGame$Trees.used, 59 ChipGame$Levels.edgesInside, 60 ChipGame$Levels.sums, 189 ChipGame$Levels.counts -/
def tSC : List (Nat × Nat × Nat) := [(0, 12, 9), (0, 8, 2), (0, 2, 7), (0, 3, 3), (0, 2, 6), (0, 3, 0), (0, 3, 1), (0, 5, 5), (0, 3, 8), (0, 4, 4), (1, 8, 0), (1, 8, 0), (1, 8, 0), (1, 20, 0), (1, 20, 0), (5, 8, 0), (1, 8, 0), (1, 8, 0), (1, 8, 0), (1, 8, 0), (1, 8, 0), (1, 8, 0), (1, 8, 0), (1, 8, 0), (1, 8, 0), (1, 8, 0), (3, 12, 0), (5, 12, 0), (1, 8, 0), (1, 8, 0), (1, 8, 0), (1, 8, 0), (1, 8, 0), (1, 8, 0), (1, 8, 0), (1, 8, 0), (1, 8, 0), (1, 8, 0), (1, 8, 0), (1, 8, 0), (4, 3, 0), (5, 3, 0), (1, 8, 0), (1, 8, 0), (1, 8, 0), (1, 8, 0), (1, 8, 0), (1, 8, 0), (2, 8, 0), (6, 8, 0), (2, 9, 0), (2, 9, 0), (2, 9, 0), (2, 9, 0), (2, 9, 0), (2, 9, 0), (2, 9, 0), (2, 9, 0), (1, 8, 0), (1, 256, 0), (6, 128, 0), (2, 21, 0), (2, 21, 0), (2, 21, 0), (2, 21, 0), (2, 21, 0), (2, 21, 0), (2, 21, 0), (2, 21, 0), (2, 21, 0), (2, 21, 0), (2, 21, 0), (2, 21, 0), (2, 21, 0), (2, 21, 0), (2, 21, 0), (2, 21, 0), (2, 21, 0), (2, 21, 0), (2, 21, 0), (2, 21, 0), (2, 21, 0), (2, 21, 0), (2, 21, 0), (2, 21, 0), (2, 21, 0), (2, 21, 0), (2, 21, 0), (2, 21, 0), (2, 21, 0), (2, 21, 0), (2, 21, 0), (2, 21, 0), (2, 21, 0), (2, 21, 0), (2, 21, 0), (2, 21, 0), (2, 21, 0), (2, 21, 0), (2, 21, 0), (2, 21, 0), (2, 21, 0), (2, 21, 0), (2, 21, 0), (2, 21, 0), (2, 21, 0), (2, 21, 0), (2, 21, 0), (2, 21, 0), (2, 21, 0), (2, 21, 0), (2, 21, 0), (2, 21, 0), (2, 21, 0), (2, 21, 0), (2, 21, 0), (2, 21, 0), (2, 21, 0), (2, 21, 0), (2, 21, 0), (2, 21, 0), (2, 21, 0), (2, 21, 0), (2, 21, 0), (2, 21, 0), (2, 21, 0), (2, 21, 0), (2, 21, 0), (2, 21, 0), (2, 21, 0), (2, 21, 0), (2, 21, 0), (2, 21, 0), (2, 21, 0), (2, 21, 0), (2, 21, 0), (2, 21, 0), (2, 21, 0), (2, 21, 0), (2, 21, 0), (2, 21, 0), (2, 21, 0), (2, 21, 0), (2, 21, 0), (2, 21, 0), (2, 21, 0), (2, 21, 0), (2, 21, 0), (2, 21, 0), (2, 21, 0), (2, 21, 0), (2, 21, 0), (2, 21, 0), (2, 21, 0), (2, 21, 0), (2, 21, 0), (2, 21, 0), (2, 21, 0), (2, 21, 0), (2, 21, 0), (2, 21, 0), (2, 21, 0), (2, 21, 0), (2, 21, 0), (2, 21, 0), (2, 21, 0), (2, 21, 0), (2, 21, 0), (2, 21, 0), (2, 21, 0), (2, 21, 0), (2, 21, 0), (2, 21, 0), (2, 21, 0), (2, 21, 0), (2, 21, 0), (2, 21, 0), (2, 21, 0), (2, 21, 0), (2, 21, 0), (2, 21, 0), (2, 21, 0), (2, 21, 0), (2, 21, 0), (2, 21, 0), (2, 21, 0), (2, 21, 0), (2, 21, 0), (2, 21, 0), (2, 21, 0)]
def rSC (k i : Nat) : Option Nat := match k with
  | 0 => [some 1, some 2, some 3, some 4, some 5, some 6, some 7, some 8, some 9, some 10, some 11, some 12].getD i none
  | 1 => [none, none, none, some 13, some 14, some 15, some 24, some 25].getD i none
  | 2 => [none, some 26].getD i none
  | 3 => [none, none, some 27].getD i none
  | 4 => [some 40, some 41].getD i none
  | 5 => [some 45, some 46, some 1].getD i none
  | 6 => [some 47, some 1, some 5].getD i none
  | 7 => [some 48, none, some 1, some 49, none].getD i none
  | 8 => [some 1, some 7, some 58].getD i none
  | 9 => [some 1, some 59, some 60, some 189].getD i none
  | 15 => if i < 8 then some (16 + i) else none
  | 27 => if i < 12 then some (28 + i) else none
  | 41 => if i < 3 then some (42 + i) else none
  | 49 => if i < 8 then some (50 + i) else none
  | 60 => if i < 128 then some (61 + i) else none
  | _ => none
abbrev SC : Shp := (190, fun k => tSC.getD k (1, 0, 0), rSC)
theorem arSC_10 : ar SC 10 1 8 := by unfold ar; decide +kernel
theorem arSC_11 : ar SC 11 1 8 := by unfold ar; decide +kernel
theorem arSC_12 : ar SC 12 1 8 := by unfold ar; decide +kernel
theorem arSC_13 : ar SC 13 1 20 := by unfold ar; decide +kernel
theorem arSC_14 : ar SC 14 1 20 := by unfold ar; decide +kernel
theorem arSC_15 : ar SC 15 5 8 := by unfold ar; decide +kernel
theorem arSC_24 : ar SC 24 1 8 := by unfold ar; decide +kernel
theorem arSC_25 : ar SC 25 1 8 := by unfold ar; decide +kernel
theorem arSC_26 : ar SC 26 3 12 := by unfold ar; decide +kernel
theorem arSC_27 : ar SC 27 5 12 := by unfold ar; decide +kernel
theorem arSC_40 : ar SC 40 4 3 := by unfold ar; decide +kernel
theorem arSC_41 : ar SC 41 5 3 := by unfold ar; decide +kernel
theorem arSC_45 : ar SC 45 1 8 := by unfold ar; decide +kernel
theorem arSC_46 : ar SC 46 1 8 := by unfold ar; decide +kernel
theorem arSC_47 : ar SC 47 1 8 := by unfold ar; decide +kernel
theorem arSC_48 : ar SC 48 2 8 := by unfold ar; decide +kernel
theorem arSC_49 : ar SC 49 6 8 := by unfold ar; decide +kernel
theorem arSC_58 : ar SC 58 1 8 := by unfold ar; decide +kernel
theorem arSC_59 : ar SC 59 1 256 := by unfold ar; decide +kernel
theorem arSC_60 : ar SC 60 6 128 := by unfold ar; decide +kernel
theorem arSC_189 : ar SC 189 2 21 := by unfold ar; decide +kernel
theorem rnSC_15 : ∀ j : Nat, j < 8 → ar SC (16 + j) 1 8 := by unfold ar; decide +kernel
theorem rwSC_15 {i : Int} (h : 0 ≤ i ∧ i < 8) : ar SC (16 + i.toNat) 1 8 := rnSC_15 _ (by omega)
theorem frSC_15 {i : Int} (h : 0 ≤ i ∧ i < 8) : fr SC 15 i.toNat = some (16 + i.toNat) := if_pos (by omega)
theorem rnSC_27 : ∀ j : Nat, j < 12 → ar SC (28 + j) 1 8 := by unfold ar; decide +kernel
theorem rwSC_27 {i : Int} (h : 0 ≤ i ∧ i < 12) : ar SC (28 + i.toNat) 1 8 := rnSC_27 _ (by omega)
theorem frSC_27 {i : Int} (h : 0 ≤ i ∧ i < 12) : fr SC 27 i.toNat = some (28 + i.toNat) := if_pos (by omega)
theorem rnSC_41 : ∀ j : Nat, j < 3 → ar SC (42 + j) 1 8 := by unfold ar; decide +kernel
theorem rwSC_41 {i : Int} (h : 0 ≤ i ∧ i < 3) : ar SC (42 + i.toNat) 1 8 := rnSC_41 _ (by omega)
theorem frSC_41 {i : Int} (h : 0 ≤ i ∧ i < 3) : fr SC 41 i.toNat = some (42 + i.toNat) := if_pos (by omega)
theorem rnSC_49 : ∀ j : Nat, j < 8 → ar SC (50 + j) 2 9 := by unfold ar; decide +kernel
theorem rwSC_49 {i : Int} (h : 0 ≤ i ∧ i < 8) : ar SC (50 + i.toNat) 2 9 := rnSC_49 _ (by omega)
theorem frSC_49 {i : Int} (h : 0 ≤ i ∧ i < 8) : fr SC 49 i.toNat = some (50 + i.toNat) := if_pos (by omega)
theorem rnSC_60 : ∀ j : Nat, j < 128 → ar SC (61 + j) 2 21 := by unfold ar; decide +kernel
theorem rwSC_60 {i : Int} (h : 0 ≤ i ∧ i < 128) : ar SC (61 + i.toNat) 2 21 := rnSC_60 _ (by omega)
theorem frSC_60 {i : Int} (h : 0 ≤ i ∧ i < 128) : fr SC 60 i.toNat = some (61 + i.toNat) := if_pos (by omega)
/-! the cells of SM: 0 ChipGameModel, 1 ChipGameModel.one, 2 ChipGameModel.other, 3 ChipGameModel.joins, 4 ChipGameModel.degreeOf, 5 ChipGameModel.chip, 6 ChipGameModel.text, 7 ChipGameModel.round, 8 ChipGameModel.keptChips, 9 ChipGameModel.isKept, 10 ChipGameModel.slotChips, 11 ChipGameModel.fired, 12 ChipGameModel.work, 13 ChipGameModel.zero, 14 ChipGameModel.first, 15 ChipGameModel.added, 16 ChipGameModel.matrix, 17 ChipGameModel.levels, 18 ChipGameModel.usedAt -/
def tSM : List (Nat × Nat × Nat) := [(0, 24, 10), (1, 20, 0), (1, 20, 0), (1, 64, 0), (1, 8, 0), (1, 8, 0), (3, 12, 0), (1, 8, 0), (1, 96, 0), (4, 3, 0), (1, 24, 0), (1, 8, 0), (1, 8, 0), (1, 8, 0), (1, 8, 0), (1, 8, 0), (2, 49, 0), (1, 64, 0), (1, 8, 0)]
def rSM (k i : Nat) : Option Nat := match k with
  | 0 => [none, none, none, some 1, some 2, some 3, some 4, some 5, none, some 6, some 7, none, some 8, some 9, some 10, some 11, some 12, some 13, some 14, some 15, some 16, none, some 17, some 18].getD i none
  | _ => none
abbrev SM : Shp := (19, fun k => tSM.getD k (1, 0, 0), rSM)
theorem arSM_1 : ar SM 1 1 20 := by unfold ar; decide +kernel
theorem arSM_2 : ar SM 2 1 20 := by unfold ar; decide +kernel
theorem arSM_3 : ar SM 3 1 64 := by unfold ar; decide +kernel
theorem arSM_4 : ar SM 4 1 8 := by unfold ar; decide +kernel
theorem arSM_5 : ar SM 5 1 8 := by unfold ar; decide +kernel
theorem arSM_6 : ar SM 6 3 12 := by unfold ar; decide +kernel
theorem arSM_7 : ar SM 7 1 8 := by unfold ar; decide +kernel
theorem arSM_8 : ar SM 8 1 96 := by unfold ar; decide +kernel
theorem arSM_9 : ar SM 9 4 3 := by unfold ar; decide +kernel
theorem arSM_10 : ar SM 10 1 24 := by unfold ar; decide +kernel
theorem arSM_11 : ar SM 11 1 8 := by unfold ar; decide +kernel
theorem arSM_12 : ar SM 12 1 8 := by unfold ar; decide +kernel
theorem arSM_13 : ar SM 13 1 8 := by unfold ar; decide +kernel
theorem arSM_14 : ar SM 14 1 8 := by unfold ar; decide +kernel
theorem arSM_15 : ar SM 15 1 8 := by unfold ar; decide +kernel
theorem arSM_16 : ar SM 16 2 49 := by unfold ar; decide +kernel
theorem arSM_17 : ar SM 17 1 64 := by unfold ar; decide +kernel
theorem arSM_18 : ar SM 18 1 8 := by unfold ar; decide +kernel
/-! words of the tables, by their places -/
theorem tw_0 : Cond.selects RX2 yX2_countJoining yX2_countJoining ∈ TW := tw_in (List.mem_of_getElem? (i := 0) (by decide +kernel)) (by decide +kernel)
theorem tw_1 : Cond.selects RX10 yX10_startAnew yX10_startAnew ∈ TW := tw_in (List.mem_of_getElem? (i := 1) (by decide +kernel)) (by decide +kernel)
theorem tw_2 : Cond.selects RX10 yX10_forgetStates yX10_forgetStates ∈ TW := tw_in (List.mem_of_getElem? (i := 2) (by decide +kernel)) (by decide +kernel)
theorem tw_4 : Cond.selects RX2 yX2_relabel yX2_relabel ∈ TW := tw_in (List.mem_of_getElem? (i := 4) (by decide +kernel)) (by decide +kernel)
theorem tw_5 : Cond.selects RX1 yX1_giveAlong yX1_giveAlong ∈ TW := tw_in (List.mem_of_getElem? (i := 5) (by decide +kernel)) (by decide +kernel)
theorem tw_6 : Cond.selects RX1 yX1_fireWhilePossible yX1_fireWhilePossible ∈ TW := tw_in (List.mem_of_getElem? (i := 6) (by decide +kernel)) (by decide +kernel)
theorem tw_7 : Cond.selects RX0 yX0_spreadFire yX0_spreadFire ∈ TW := tw_in (List.mem_of_getElem? (i := 7) (by decide +kernel)) (by decide +kernel)
theorem tw_8 : Cond.selects RX0 yX0_burnRound yX0_burnRound ∈ TW := tw_in (List.mem_of_getElem? (i := 8) (by decide +kernel)) (by decide +kernel)
theorem tw_9 : Cond.selects RX0 yX0_edgesToBurnt yX0_edgesToBurnt ∈ TW := tw_in (List.mem_of_getElem? (i := 9) (by decide +kernel)) (by decide +kernel)
theorem tw_10 : Cond.selects RX1 yX1_fireUnburnt yX1_fireUnburnt ∈ TW := tw_in (List.mem_of_getElem? (i := 10) (by decide +kernel)) (by decide +kernel)
theorem tw_11 : Cond.selects RX1 yX1_mirror yX1_mirror ∈ TW := tw_in (List.mem_of_getElem? (i := 11) (by decide +kernel)) (by decide +kernel)
theorem tw_12 : Cond.selects RX10 yX10_isRecurrent yX10_isRecurrent ∈ TW := tw_in (List.mem_of_getElem? (i := 12) (by decide +kernel)) (by decide +kernel)
theorem tw_13 : Cond.selects RX5 yX5_isFree yX5_isFree ∈ TW := tw_in (List.mem_of_getElem? (i := 13) (by decide +kernel)) (by decide +kernel)
theorem tw_14 : Cond.selects RX5 yX5_fillEdge yX5_fillEdge ∈ TW := tw_in (List.mem_of_getElem? (i := 14) (by decide +kernel)) (by decide +kernel)
theorem tw_15 : Cond.selects RX5 yX5_combineRows yX5_combineRows ∈ TW := tw_in (List.mem_of_getElem? (i := 15) (by decide +kernel)) (by decide +kernel)
theorem tw_16 : Cond.selects RX5 yX5_fillWhole yX5_fillWhole ∈ TW := tw_in (List.mem_of_getElem? (i := 16) (by decide +kernel)) (by decide +kernel)
theorem tw_17 : Cond.selects RX5 yX5_clearAround yX5_clearAround ∈ TW := tw_in (List.mem_of_getElem? (i := 17) (by decide +kernel)) (by decide +kernel)
theorem tw_18 : Cond.selects RX5 yX5_bringLeastToCorner yX5_bringLeastToCorner ∈ TW := tw_in (List.mem_of_getElem? (i := 18) (by decide +kernel)) (by decide +kernel)
theorem tw_19 : Cond.selects RX5 yX5_swapRows yX5_swapRows ∈ TW := tw_in (List.mem_of_getElem? (i := 19) (by decide +kernel)) (by decide +kernel)
theorem tw_20 : Cond.selects RX5 yX5_swapColumns yX5_swapColumns ∈ TW := tw_in (List.mem_of_getElem? (i := 20) (by decide +kernel)) (by decide +kernel)
theorem tw_21 : Cond.selects RX5 yX5_clearColumn yX5_clearColumn ∈ TW := tw_in (List.mem_of_getElem? (i := 21) (by decide +kernel)) (by decide +kernel)
theorem tw_22 : Cond.selects RX5 yX5_addRow yX5_addRow ∈ TW := tw_in (List.mem_of_getElem? (i := 22) (by decide +kernel)) (by decide +kernel)
theorem tw_23 : Cond.selects RX5 yX5_clearRow yX5_clearRow ∈ TW := tw_in (List.mem_of_getElem? (i := 23) (by decide +kernel)) (by decide +kernel)
theorem tw_24 : Cond.selects RX5 yX5_addColumn yX5_addColumn ∈ TW := tw_in (List.mem_of_getElem? (i := 24) (by decide +kernel)) (by decide +kernel)
theorem tw_25 : Cond.selects RX5 yX5_addUndividedRow yX5_addUndividedRow ∈ TW := tw_in (List.mem_of_getElem? (i := 25) (by decide +kernel)) (by decide +kernel)
theorem tw_26 : Cond.selects RX4 yX4_countEdgesInside yX4_countEdgesInside ∈ TW := tw_in (List.mem_of_getElem? (i := 26) (by decide +kernel)) (by decide +kernel)
theorem tw_27 : Cond.selects RX4 yX4_sumConnected yX4_sumConnected ∈ TW := tw_in (List.mem_of_getElem? (i := 27) (by decide +kernel)) (by decide +kernel)
theorem tw_28 : Cond.selects RX4 yX4_divideByYMinusOne yX4_divideByYMinusOne ∈ TW := tw_in (List.mem_of_getElem? (i := 28) (by decide +kernel)) (by decide +kernel)
theorem tw_29 : Cond.selects RX9 yX9_lowestBorderEdge yX9_lowestBorderEdge ∈ TW := tw_in (List.mem_of_getElem? (i := 29) (by decide +kernel)) (by decide +kernel)
theorem tw_30 : Cond.selects RX9 yX9_unmarkedEnd yX9_unmarkedEnd ∈ TW := tw_in (List.mem_of_getElem? (i := 30) (by decide +kernel)) (by decide +kernel)
theorem tw_31 : Cond.selects RX11 yX11_begin yX11_begin ∈ TW := tw_in (List.mem_of_getElem? (i := 31) (by decide +kernel)) (by decide +kernel)
theorem tw_32 : Cond.selects RX11 yX11_changed yX11_changed ∈ TW := tw_in (List.mem_of_getElem? (i := 32) (by decide +kernel)) (by decide +kernel)
theorem tw_33 : Cond.selects RX11 yX11_join yX11_join ∈ TW := tw_in (List.mem_of_getElem? (i := 33) (by decide +kernel)) (by decide +kernel)
theorem tw_34 : Cond.selects RX11 yX11_isNode yX11_isNode ∈ TW := tw_in (List.mem_of_getElem? (i := 34) (by decide +kernel)) (by decide +kernel)
theorem tw_35 : Cond.selects RX11 yX11_isNamed yX11_isNamed ∈ TW := tw_in (List.mem_of_getElem? (i := 35) (by decide +kernel)) (by decide +kernel)
theorem tw_36 : Cond.selects RX11 yX11_begins yX11_begins ∈ TW := tw_in (List.mem_of_getElem? (i := 36) (by decide +kernel)) (by decide +kernel)
theorem tw_37 : Cond.selects RX11 yX11_isAt yX11_isAt ∈ TW := tw_in (List.mem_of_getElem? (i := 37) (by decide +kernel)) (by decide +kernel)
theorem tw_38 : Cond.selects RX11 yX11_isConnected yX11_isConnected ∈ TW := tw_in (List.mem_of_getElem? (i := 38) (by decide +kernel)) (by decide +kernel)
theorem tw_39 : Cond.selects RX11 yX11_sum yX11_sum ∈ TW := tw_in (List.mem_of_getElem? (i := 39) (by decide +kernel)) (by decide +kernel)
theorem tw_40 : Cond.selects RX11 yX11_inner yX11_inner ∈ TW := tw_in (List.mem_of_getElem? (i := 40) (by decide +kernel)) (by decide +kernel)
theorem tw_41 : Cond.selects RX11 yX11_hasChips yX11_hasChips ∈ TW := tw_in (List.mem_of_getElem? (i := 41) (by decide +kernel)) (by decide +kernel)
theorem tw_42 : Cond.selects RX11 yX11_keepState yX11_keepState ∈ TW := tw_in (List.mem_of_getElem? (i := 42) (by decide +kernel)) (by decide +kernel)
theorem tw_43 : Cond.selects RX11 yX11_canFire yX11_canFire ∈ TW := tw_in (List.mem_of_getElem? (i := 43) (by decide +kernel)) (by decide +kernel)
theorem tw_44 : Cond.selects RX11 yX11_fireTimes yX11_fireTimes ∈ TW := tw_in (List.mem_of_getElem? (i := 44) (by decide +kernel)) (by decide +kernel)
theorem tw_45 : Cond.selects RX11 yX11_settle yX11_settle ∈ TW := tw_in (List.mem_of_getElem? (i := 45) (by decide +kernel)) (by decide +kernel)
theorem tw_46 : Cond.selects RX11 yX11_copy yX11_copy ∈ TW := tw_in (List.mem_of_getElem? (i := 46) (by decide +kernel)) (by decide +kernel)
theorem tw_47 : Cond.selects RX11 yX11_lower yX11_lower ∈ TW := tw_in (List.mem_of_getElem? (i := 47) (by decide +kernel)) (by decide +kernel)
theorem tw_48 : Cond.selects RX11 yX11_burn yX11_burn ∈ TW := tw_in (List.mem_of_getElem? (i := 48) (by decide +kernel)) (by decide +kernel)
theorem tw_49 : Cond.selects RX11 yX11_allBurn yX11_allBurn ∈ TW := tw_in (List.mem_of_getElem? (i := 49) (by decide +kernel)) (by decide +kernel)
theorem tw_50 : Cond.selects RX11 yX11_fireSet yX11_fireSet ∈ TW := tw_in (List.mem_of_getElem? (i := 50) (by decide +kernel)) (by decide +kernel)
theorem tw_51 : Cond.selects RX11 yX11_raise yX11_raise ∈ TW := tw_in (List.mem_of_getElem? (i := 51) (by decide +kernel)) (by decide +kernel)
theorem tw_52 : Cond.selects RX11 yX11_isStable yX11_isStable ∈ TW := tw_in (List.mem_of_getElem? (i := 52) (by decide +kernel)) (by decide +kernel)
theorem tw_53 : Cond.selects RX11 yX11_isRecurrent yX11_isRecurrent ∈ TW := tw_in (List.mem_of_getElem? (i := 53) (by decide +kernel)) (by decide +kernel)
theorem tw_54 : Cond.selects RX11 yX11_isSuperstable yX11_isSuperstable ∈ TW := tw_in (List.mem_of_getElem? (i := 54) (by decide +kernel)) (by decide +kernel)
theorem tw_55 : Cond.selects RX11 yX11_smith yX11_smith ∈ TW := tw_in (List.mem_of_getElem? (i := 55) (by decide +kernel)) (by decide +kernel)
theorem tw_56 : Cond.selects RX11 yX11_layMatrix yX11_layMatrix ∈ TW := tw_in (List.mem_of_getElem? (i := 56) (by decide +kernel)) (by decide +kernel)
theorem tw_57 : Cond.selects RX11 yX11_bringLeast yX11_bringLeast ∈ TW := tw_in (List.mem_of_getElem? (i := 57) (by decide +kernel)) (by decide +kernel)
theorem tw_58 : Cond.selects RX11 yX11_swap yX11_swap ∈ TW := tw_in (List.mem_of_getElem? (i := 58) (by decide +kernel)) (by decide +kernel)
theorem tw_59 : Cond.selects RX11 yX11_isDone yX11_isDone ∈ TW := tw_in (List.mem_of_getElem? (i := 59) (by decide +kernel)) (by decide +kernel)
theorem tw_60 : Cond.selects RX11 yX11_lessen yX11_lessen ∈ TW := tw_in (List.mem_of_getElem? (i := 60) (by decide +kernel)) (by decide +kernel)
theorem tw_61 : Cond.selects RX11 yX11_countLevels yX11_countLevels ∈ TW := tw_in (List.mem_of_getElem? (i := 61) (by decide +kernel)) (by decide +kernel)
theorem tw_62 : Cond.selects RX11 yX11_follow yX11_follow ∈ TW := tw_in (List.mem_of_getElem? (i := 62) (by decide +kernel)) (by decide +kernel)
theorem tw_63 : Cond.selects RX11 yX11_isTree yX11_isTree ∈ TW := tw_in (List.mem_of_getElem? (i := 63) (by decide +kernel)) (by decide +kernel)
theorem tw_65 : Cond.initialized RX10 ∈ TW := tw_in (List.mem_of_getElem? (i := 65) (by decide +kernel)) (by decide +kernel)
theorem tw_66 : Cond.initialized RX2 ∈ TW := tw_in (List.mem_of_getElem? (i := 66) (by decide +kernel)) (by decide +kernel)
theorem tw_67 : Cond.initialized RX8 ∈ TW := tw_in (List.mem_of_getElem? (i := 67) (by decide +kernel)) (by decide +kernel)
theorem tw_68 : Cond.initialized RX3 ∈ TW := tw_in (List.mem_of_getElem? (i := 68) (by decide +kernel)) (by decide +kernel)
theorem tw_69 : Cond.initialized RX7 ∈ TW := tw_in (List.mem_of_getElem? (i := 69) (by decide +kernel)) (by decide +kernel)
theorem tw_70 : Cond.initialized RX0 ∈ TW := tw_in (List.mem_of_getElem? (i := 70) (by decide +kernel)) (by decide +kernel)
theorem tw_71 : Cond.initialized RX1 ∈ TW := tw_in (List.mem_of_getElem? (i := 71) (by decide +kernel)) (by decide +kernel)
theorem tw_72 : Cond.initialized RX5 ∈ TW := tw_in (List.mem_of_getElem? (i := 72) (by decide +kernel)) (by decide +kernel)
theorem tw_73 : Cond.initialized RX9 ∈ TW := tw_in (List.mem_of_getElem? (i := 73) (by decide +kernel)) (by decide +kernel)
theorem tw_74 : Cond.initialized RX4 ∈ TW := tw_in (List.mem_of_getElem? (i := 74) (by decide +kernel)) (by decide +kernel)
theorem tw_75 : Cond.initialized RX11 ∈ TW := tw_in (List.mem_of_getElem? (i := 75) (by decide +kernel)) (by decide +kernel)
theorem tw_76 : Cond.initialized RX6 ∈ TW := tw_in (List.mem_of_getElem? (i := 76) (by decide +kernel)) (by decide +kernel)
theorem tw_81 : Cond.initialized RJ9 ∈ TW := tw_in (List.mem_of_getElem? (i := 81) (by decide +kernel)) (by decide +kernel)
theorem tw_82 : Cond.initialized RJ6 ∈ TW := tw_in (List.mem_of_getElem? (i := 82) (by decide +kernel)) (by decide +kernel)
theorem tw_99 : Cond.fieldLink RX2 9 RX2 "nodes" "I" ∈ TW := tw_in (List.mem_of_getElem? (i := 99) (by decide +kernel)) (by decide +kernel)
theorem tw_100 : Cond.fieldLink RX5 31 RX2 "nodes" "I" ∈ TW := tw_in (List.mem_of_getElem? (i := 100) (by decide +kernel)) (by decide +kernel)
theorem tw_101 : Cond.fieldLink RX10 98 RX2 "nodes" "I" ∈ TW := tw_in (List.mem_of_getElem? (i := 101) (by decide +kernel)) (by decide +kernel)
theorem tw_102 : Cond.fieldLink RX4 31 RX2 "nodes" "I" ∈ TW := tw_in (List.mem_of_getElem? (i := 102) (by decide +kernel)) (by decide +kernel)
theorem tw_103 : Cond.fieldLink RX1 33 RX2 "nodes" "I" ∈ TW := tw_in (List.mem_of_getElem? (i := 103) (by decide +kernel)) (by decide +kernel)
theorem tw_104 : Cond.fieldLink RX0 28 RX2 "nodes" "I" ∈ TW := tw_in (List.mem_of_getElem? (i := 104) (by decide +kernel)) (by decide +kernel)
theorem tw_105 : Cond.fieldLink RX2 15 RX2 "edges" "I" ∈ TW := tw_in (List.mem_of_getElem? (i := 105) (by decide +kernel)) (by decide +kernel)
theorem tw_106 : Cond.fieldLink RX5 40 RX2 "edges" "I" ∈ TW := tw_in (List.mem_of_getElem? (i := 106) (by decide +kernel)) (by decide +kernel)
theorem tw_107 : Cond.fieldLink RX9 39 RX2 "edges" "I" ∈ TW := tw_in (List.mem_of_getElem? (i := 107) (by decide +kernel)) (by decide +kernel)
theorem tw_108 : Cond.fieldLink RX4 44 RX2 "edges" "I" ∈ TW := tw_in (List.mem_of_getElem? (i := 108) (by decide +kernel)) (by decide +kernel)
theorem tw_109 : Cond.fieldLink RX10 109 RX2 "edges" "I" ∈ TW := tw_in (List.mem_of_getElem? (i := 109) (by decide +kernel)) (by decide +kernel)
theorem tw_110 : Cond.fieldLink RX2 18 RX2 "sink" "I" ∈ TW := tw_in (List.mem_of_getElem? (i := 110) (by decide +kernel)) (by decide +kernel)
theorem tw_111 : Cond.fieldLink RX9 51 RX2 "sink" "I" ∈ TW := tw_in (List.mem_of_getElem? (i := 111) (by decide +kernel)) (by decide +kernel)
theorem tw_112 : Cond.fieldLink RX5 60 RX2 "sink" "I" ∈ TW := tw_in (List.mem_of_getElem? (i := 112) (by decide +kernel)) (by decide +kernel)
theorem tw_113 : Cond.fieldLink RX10 121 RX2 "sink" "I" ∈ TW := tw_in (List.mem_of_getElem? (i := 113) (by decide +kernel)) (by decide +kernel)
theorem tw_114 : Cond.fieldLink RX0 40 RX2 "sink" "I" ∈ TW := tw_in (List.mem_of_getElem? (i := 114) (by decide +kernel)) (by decide +kernel)
theorem tw_115 : Cond.fieldLink RX1 52 RX2 "sink" "I" ∈ TW := tw_in (List.mem_of_getElem? (i := 115) (by decide +kernel)) (by decide +kernel)
theorem tw_116 : Cond.fieldLink RX2 21 RX2 "first" "[I" ∈ TW := tw_in (List.mem_of_getElem? (i := 116) (by decide +kernel)) (by decide +kernel)
theorem tw_117 : Cond.fieldLink RX5 47 RX2 "first" "[I" ∈ TW := tw_in (List.mem_of_getElem? (i := 117) (by decide +kernel)) (by decide +kernel)
theorem tw_118 : Cond.fieldLink RX4 47 RX2 "first" "[I" ∈ TW := tw_in (List.mem_of_getElem? (i := 118) (by decide +kernel)) (by decide +kernel)
theorem tw_119 : Cond.fieldLink RX9 68 RX2 "first" "[I" ∈ TW := tw_in (List.mem_of_getElem? (i := 119) (by decide +kernel)) (by decide +kernel)
theorem tw_120 : Cond.fieldLink RX10 168 RX2 "first" "[I" ∈ TW := tw_in (List.mem_of_getElem? (i := 120) (by decide +kernel)) (by decide +kernel)
theorem tw_121 : Cond.fieldLink RX2 25 RX2 "second" "[I" ∈ TW := tw_in (List.mem_of_getElem? (i := 121) (by decide +kernel)) (by decide +kernel)
theorem tw_122 : Cond.fieldLink RX5 50 RX2 "second" "[I" ∈ TW := tw_in (List.mem_of_getElem? (i := 122) (by decide +kernel)) (by decide +kernel)
theorem tw_123 : Cond.fieldLink RX4 50 RX2 "second" "[I" ∈ TW := tw_in (List.mem_of_getElem? (i := 123) (by decide +kernel)) (by decide +kernel)
theorem tw_124 : Cond.fieldLink RX9 75 RX2 "second" "[I" ∈ TW := tw_in (List.mem_of_getElem? (i := 124) (by decide +kernel)) (by decide +kernel)
theorem tw_125 : Cond.fieldLink RX10 165 RX2 "second" "[I" ∈ TW := tw_in (List.mem_of_getElem? (i := 125) (by decide +kernel)) (by decide +kernel)
theorem tw_126 : Cond.fieldLink RX2 30 RX2 "joining" "[[I" ∈ TW := tw_in (List.mem_of_getElem? (i := 126) (by decide +kernel)) (by decide +kernel)
theorem tw_127 : Cond.fieldLink RX1 48 RX2 "joining" "[[I" ∈ TW := tw_in (List.mem_of_getElem? (i := 127) (by decide +kernel)) (by decide +kernel)
theorem tw_128 : Cond.fieldLink RX0 50 RX2 "joining" "[[I" ∈ TW := tw_in (List.mem_of_getElem? (i := 128) (by decide +kernel)) (by decide +kernel)
theorem tw_129 : Cond.fieldLink RX2 33 RX2 "degrees" "[I" ∈ TW := tw_in (List.mem_of_getElem? (i := 129) (by decide +kernel)) (by decide +kernel)
theorem tw_130 : Cond.fieldLink RX2 36 RX2 "labels" "[I" ∈ TW := tw_in (List.mem_of_getElem? (i := 130) (by decide +kernel)) (by decide +kernel)
theorem tw_131 : Cond.fieldLink RX5 43 RX2 "labels" "[I" ∈ TW := tw_in (List.mem_of_getElem? (i := 131) (by decide +kernel)) (by decide +kernel)
theorem tw_156 : Cond.fieldLink RX8 9 RX8 "length" "I" ∈ TW := tw_in (List.mem_of_getElem? (i := 156) (by decide +kernel)) (by decide +kernel)
theorem tw_157 : Cond.fieldLink RX10 124 RX8 "length" "I" ∈ TW := tw_in (List.mem_of_getElem? (i := 157) (by decide +kernel)) (by decide +kernel)
theorem tw_158 : Cond.fieldLink RX8 15 RX8 "signs" "[C" ∈ TW := tw_in (List.mem_of_getElem? (i := 158) (by decide +kernel)) (by decide +kernel)
theorem tw_172 : Cond.fieldLink RX3 9 RX3 "count" "I" ∈ TW := tw_in (List.mem_of_getElem? (i := 172) (by decide +kernel)) (by decide +kernel)
theorem tw_173 : Cond.fieldLink RX10 155 RX3 "count" "I" ∈ TW := tw_in (List.mem_of_getElem? (i := 173) (by decide +kernel)) (by decide +kernel)
theorem tw_174 : Cond.fieldLink RX3 15 RX3 "oldest" "I" ∈ TW := tw_in (List.mem_of_getElem? (i := 174) (by decide +kernel)) (by decide +kernel)
theorem tw_175 : Cond.fieldLink RX3 20 RX3 "states" "[[I" ∈ TW := tw_in (List.mem_of_getElem? (i := 175) (by decide +kernel)) (by decide +kernel)
theorem tw_190 : Cond.fieldLink RX7 9 RX7 "taken" "[Z" ∈ TW := tw_in (List.mem_of_getElem? (i := 190) (by decide +kernel)) (by decide +kernel)
theorem tw_191 : Cond.fieldLink RX7 17 RX7 "states" "[[I" ∈ TW := tw_in (List.mem_of_getElem? (i := 191) (by decide +kernel)) (by decide +kernel)
theorem tw_204 : Cond.fieldLink RX0 9 RX0 "round" "[I" ∈ TW := tw_in (List.mem_of_getElem? (i := 204) (by decide +kernel)) (by decide +kernel)
theorem tw_205 : Cond.fieldLink RX10 222 RX0 "round" "[I" ∈ TW := tw_in (List.mem_of_getElem? (i := 205) (by decide +kernel)) (by decide +kernel)
theorem tw_206 : Cond.fieldLink RX0 15 RX0 "needed" "[I" ∈ TW := tw_in (List.mem_of_getElem? (i := 206) (by decide +kernel)) (by decide +kernel)
theorem tw_207 : Cond.fieldLink RX0 18 RX0 "graph" "LChipGame$Graph;" ∈ TW := tw_in (List.mem_of_getElem? (i := 207) (by decide +kernel)) (by decide +kernel)
theorem tw_221 : Cond.fieldLink RX1 9 RX1 "times" "[I" ∈ TW := tw_in (List.mem_of_getElem? (i := 221) (by decide +kernel)) (by decide +kernel)
theorem tw_222 : Cond.fieldLink RX10 193 RX1 "times" "[I" ∈ TW := tw_in (List.mem_of_getElem? (i := 222) (by decide +kernel)) (by decide +kernel)
theorem tw_223 : Cond.fieldLink RX1 15 RX1 "graph" "LChipGame$Graph;" ∈ TW := tw_in (List.mem_of_getElem? (i := 223) (by decide +kernel)) (by decide +kernel)
theorem tw_224 : Cond.fieldLink RX1 19 RX1 "burning" "LChipGame$Burning;" ∈ TW := tw_in (List.mem_of_getElem? (i := 224) (by decide +kernel)) (by decide +kernel)
theorem tw_240 : Cond.fieldLink RX5 9 RX5 "factors" "[J" ∈ TW := tw_in (List.mem_of_getElem? (i := 240) (by decide +kernel)) (by decide +kernel)
theorem tw_241 : Cond.fieldLink RX10 259 RX5 "factors" "[J" ∈ TW := tw_in (List.mem_of_getElem? (i := 241) (by decide +kernel)) (by decide +kernel)
theorem tw_242 : Cond.fieldLink RX5 15 RX5 "factorCount" "I" ∈ TW := tw_in (List.mem_of_getElem? (i := 242) (by decide +kernel)) (by decide +kernel)
theorem tw_243 : Cond.fieldLink RX10 256 RX5 "factorCount" "I" ∈ TW := tw_in (List.mem_of_getElem? (i := 243) (by decide +kernel)) (by decide +kernel)
theorem tw_244 : Cond.fieldLink RX5 27 RX5 "graph" "LChipGame$Graph;" ∈ TW := tw_in (List.mem_of_getElem? (i := 244) (by decide +kernel)) (by decide +kernel)
theorem tw_245 : Cond.fieldLink RX5 21 RX5 "cells" "[[J" ∈ TW := tw_in (List.mem_of_getElem? (i := 245) (by decide +kernel)) (by decide +kernel)
theorem tw_246 : Cond.fieldLink RX5 24 RX5 "size" "I" ∈ TW := tw_in (List.mem_of_getElem? (i := 246) (by decide +kernel)) (by decide +kernel)
theorem tw_265 : Cond.fieldLink RX9 15 RX9 "graph" "LChipGame$Graph;" ∈ TW := tw_in (List.mem_of_getElem? (i := 265) (by decide +kernel)) (by decide +kernel)
theorem tw_266 : Cond.fieldLink RX9 19 RX9 "matrix" "LChipGame$Matrix;" ∈ TW := tw_in (List.mem_of_getElem? (i := 266) (by decide +kernel)) (by decide +kernel)
theorem tw_267 : Cond.fieldLink RX9 9 RX9 "used" "[I" ∈ TW := tw_in (List.mem_of_getElem? (i := 267) (by decide +kernel)) (by decide +kernel)
theorem tw_282 : Cond.fieldLink RX4 24 RX4 "graph" "LChipGame$Graph;" ∈ TW := tw_in (List.mem_of_getElem? (i := 282) (by decide +kernel)) (by decide +kernel)
theorem tw_283 : Cond.fieldLink RX4 11 RX4 "edgesInside" "[I" ∈ TW := tw_in (List.mem_of_getElem? (i := 283) (by decide +kernel)) (by decide +kernel)
theorem tw_284 : Cond.fieldLink RX4 17 RX4 "sums" "[[J" ∈ TW := tw_in (List.mem_of_getElem? (i := 284) (by decide +kernel)) (by decide +kernel)
theorem tw_285 : Cond.fieldLink RX4 20 RX4 "counts" "[J" ∈ TW := tw_in (List.mem_of_getElem? (i := 285) (by decide +kernel)) (by decide +kernel)
theorem tw_295 : Cond.methodLink RX10 90 yX2_clear ∈ TW := tw_in (List.mem_of_getElem? (i := 295) (by decide +kernel)) (by decide +kernel)
theorem tw_296 : Cond.instanceMethod yX2_clear ∈ TW := tw_in (List.mem_of_getElem? (i := 296) (by decide +kernel)) (by decide +kernel)
theorem tw_297 : Cond.selects RX2 yX2_clear yX2_clear ∈ TW := tw_in (List.mem_of_getElem? (i := 297) (by decide +kernel)) (by decide +kernel)
theorem tw_298 : Cond.code yX2_clear cX2_clear 4 none ∈ TW := tw_in (List.mem_of_getElem? (i := 298) (by decide +kernel)) (by decide +kernel)
theorem tw_299 : Cond.methodLink RX10 94 yX2_append ∈ TW := tw_in (List.mem_of_getElem? (i := 299) (by decide +kernel)) (by decide +kernel)
theorem tw_300 : Cond.instanceMethod yX2_append ∈ TW := tw_in (List.mem_of_getElem? (i := 300) (by decide +kernel)) (by decide +kernel)
theorem tw_301 : Cond.selects RX2 yX2_append yX2_append ∈ TW := tw_in (List.mem_of_getElem? (i := 301) (by decide +kernel)) (by decide +kernel)
theorem tw_302 : Cond.code yX2_append cX2_append 3 none ∈ TW := tw_in (List.mem_of_getElem? (i := 302) (by decide +kernel)) (by decide +kernel)
theorem tw_303 : Cond.methodLink RX2 39 yX2_hasNode ∈ TW := tw_in (List.mem_of_getElem? (i := 303) (by decide +kernel)) (by decide +kernel)
theorem tw_304 : Cond.instanceMethod yX2_hasNode ∈ TW := tw_in (List.mem_of_getElem? (i := 304) (by decide +kernel)) (by decide +kernel)
theorem tw_305 : Cond.selects RX2 yX2_hasNode yX2_hasNode ∈ TW := tw_in (List.mem_of_getElem? (i := 305) (by decide +kernel)) (by decide +kernel)
theorem tw_306 : Cond.code yX2_hasNode cX2_hasNode 2 (some .boolean) ∈ TW := tw_in (List.mem_of_getElem? (i := 306) (by decide +kernel)) (by decide +kernel)
theorem tw_307 : Cond.methodLink RX2 43 yX2_countJoining ∈ TW := tw_in (List.mem_of_getElem? (i := 307) (by decide +kernel)) (by decide +kernel)
theorem tw_309 : Cond.instanceMethod yX2_countJoining ∈ TW := tw_in (List.mem_of_getElem? (i := 309) (by decide +kernel)) (by decide +kernel)
theorem tw_310 : Cond.code yX2_countJoining cX2_countJoining 4 none ∈ TW := tw_in (List.mem_of_getElem? (i := 310) (by decide +kernel)) (by decide +kernel)
theorem tw_311 : Cond.fieldLink RX10 12 RX10 "graph" "LChipGame$Graph;" ∈ TW := tw_in (List.mem_of_getElem? (i := 311) (by decide +kernel)) (by decide +kernel)
theorem tw_312 : Cond.fieldLink RX10 21 RX10 "text" "LChipGame$Text;" ∈ TW := tw_in (List.mem_of_getElem? (i := 312) (by decide +kernel)) (by decide +kernel)
theorem tw_313 : Cond.fieldLink RX10 28 RX10 "history" "LChipGame$History;" ∈ TW := tw_in (List.mem_of_getElem? (i := 313) (by decide +kernel)) (by decide +kernel)
theorem tw_314 : Cond.fieldLink RX10 35 RX10 "slots" "LChipGame$Slots;" ∈ TW := tw_in (List.mem_of_getElem? (i := 314) (by decide +kernel)) (by decide +kernel)
theorem tw_315 : Cond.fieldLink RX10 44 RX10 "burning" "LChipGame$Burning;" ∈ TW := tw_in (List.mem_of_getElem? (i := 315) (by decide +kernel)) (by decide +kernel)
theorem tw_316 : Cond.fieldLink RX10 53 RX10 "firing" "LChipGame$Firing;" ∈ TW := tw_in (List.mem_of_getElem? (i := 316) (by decide +kernel)) (by decide +kernel)
theorem tw_317 : Cond.fieldLink RX10 60 RX10 "matrix" "LChipGame$Matrix;" ∈ TW := tw_in (List.mem_of_getElem? (i := 317) (by decide +kernel)) (by decide +kernel)
theorem tw_318 : Cond.fieldLink RX10 69 RX10 "trees" "LChipGame$Trees;" ∈ TW := tw_in (List.mem_of_getElem? (i := 318) (by decide +kernel)) (by decide +kernel)
theorem tw_319 : Cond.fieldLink RX10 76 RX10 "levels" "LChipGame$Levels;" ∈ TW := tw_in (List.mem_of_getElem? (i := 319) (by decide +kernel)) (by decide +kernel)
theorem tw_320 : Cond.fieldLink RX10 80 RX10 "state" "[I" ∈ TW := tw_in (List.mem_of_getElem? (i := 320) (by decide +kernel)) (by decide +kernel)
theorem tw_321 : Cond.fieldLink RX10 84 RX10 "copy" "[I" ∈ TW := tw_in (List.mem_of_getElem? (i := 321) (by decide +kernel)) (by decide +kernel)
theorem tw_322 : Cond.fieldLink RX10 87 RX10 "otherCopy" "[I" ∈ TW := tw_in (List.mem_of_getElem? (i := 322) (by decide +kernel)) (by decide +kernel)
theorem tw_352 : Cond.methodLink RX10 102 yX10_startAnew ∈ TW := tw_in (List.mem_of_getElem? (i := 352) (by decide +kernel)) (by decide +kernel)
theorem tw_354 : Cond.instanceMethod yX10_startAnew ∈ TW := tw_in (List.mem_of_getElem? (i := 354) (by decide +kernel)) (by decide +kernel)
theorem tw_355 : Cond.code yX10_startAnew cX10_startAnew 2 none ∈ TW := tw_in (List.mem_of_getElem? (i := 355) (by decide +kernel)) (by decide +kernel)
theorem tw_356 : Cond.methodLink RX10 244 yX10_clearChips ∈ TW := tw_in (List.mem_of_getElem? (i := 356) (by decide +kernel)) (by decide +kernel)
theorem tw_357 : Cond.static yX10_clearChips ∈ TW := tw_in (List.mem_of_getElem? (i := 357) (by decide +kernel)) (by decide +kernel)
theorem tw_358 : Cond.code yX10_clearChips cX10_clearChips 2 none ∈ TW := tw_in (List.mem_of_getElem? (i := 358) (by decide +kernel)) (by decide +kernel)
theorem tw_359 : Cond.methodLink RX10 112 yX10_forgetStates ∈ TW := tw_in (List.mem_of_getElem? (i := 359) (by decide +kernel)) (by decide +kernel)
theorem tw_361 : Cond.instanceMethod yX10_forgetStates ∈ TW := tw_in (List.mem_of_getElem? (i := 361) (by decide +kernel)) (by decide +kernel)
theorem tw_362 : Cond.code yX10_forgetStates cX10_forgetStates 1 none ∈ TW := tw_in (List.mem_of_getElem? (i := 362) (by decide +kernel)) (by decide +kernel)
theorem tw_363 : Cond.methodLink RX10 279 yX3_forgetAll ∈ TW := tw_in (List.mem_of_getElem? (i := 363) (by decide +kernel)) (by decide +kernel)
theorem tw_364 : Cond.instanceMethod yX3_forgetAll ∈ TW := tw_in (List.mem_of_getElem? (i := 364) (by decide +kernel)) (by decide +kernel)
theorem tw_365 : Cond.selects RX3 yX3_forgetAll yX3_forgetAll ∈ TW := tw_in (List.mem_of_getElem? (i := 365) (by decide +kernel)) (by decide +kernel)
theorem tw_366 : Cond.code yX3_forgetAll cX3_forgetAll 1 none ∈ TW := tw_in (List.mem_of_getElem? (i := 366) (by decide +kernel)) (by decide +kernel)
theorem tw_367 : Cond.methodLink RX10 282 yX7_forgetAll ∈ TW := tw_in (List.mem_of_getElem? (i := 367) (by decide +kernel)) (by decide +kernel)
theorem tw_368 : Cond.instanceMethod yX7_forgetAll ∈ TW := tw_in (List.mem_of_getElem? (i := 368) (by decide +kernel)) (by decide +kernel)
theorem tw_369 : Cond.selects RX7 yX7_forgetAll yX7_forgetAll ∈ TW := tw_in (List.mem_of_getElem? (i := 369) (by decide +kernel)) (by decide +kernel)
theorem tw_370 : Cond.code yX7_forgetAll cX7_forgetAll 2 none ∈ TW := tw_in (List.mem_of_getElem? (i := 370) (by decide +kernel)) (by decide +kernel)
theorem tw_375 : Cond.methodLink RX10 105 yX2_hasNode ∈ TW := tw_in (List.mem_of_getElem? (i := 375) (by decide +kernel)) (by decide +kernel)
theorem tw_380 : Cond.methodLink RX10 115 yX2_hasEdge ∈ TW := tw_in (List.mem_of_getElem? (i := 380) (by decide +kernel)) (by decide +kernel)
theorem tw_381 : Cond.instanceMethod yX2_hasEdge ∈ TW := tw_in (List.mem_of_getElem? (i := 381) (by decide +kernel)) (by decide +kernel)
theorem tw_382 : Cond.selects RX2 yX2_hasEdge yX2_hasEdge ∈ TW := tw_in (List.mem_of_getElem? (i := 382) (by decide +kernel)) (by decide +kernel)
theorem tw_383 : Cond.code yX2_hasEdge cX2_hasEdge 2 (some .boolean) ∈ TW := tw_in (List.mem_of_getElem? (i := 383) (by decide +kernel)) (by decide +kernel)
theorem tw_384 : Cond.methodLink RX10 118 yX2_drop ∈ TW := tw_in (List.mem_of_getElem? (i := 384) (by decide +kernel)) (by decide +kernel)
theorem tw_385 : Cond.instanceMethod yX2_drop ∈ TW := tw_in (List.mem_of_getElem? (i := 385) (by decide +kernel)) (by decide +kernel)
theorem tw_386 : Cond.selects RX2 yX2_drop yX2_drop ∈ TW := tw_in (List.mem_of_getElem? (i := 386) (by decide +kernel)) (by decide +kernel)
theorem tw_387 : Cond.code yX2_drop cX2_drop 3 none ∈ TW := tw_in (List.mem_of_getElem? (i := 387) (by decide +kernel)) (by decide +kernel)
theorem tw_388 : Cond.methodLink RX2 47 yX2_hasEdge ∈ TW := tw_in (List.mem_of_getElem? (i := 388) (by decide +kernel)) (by decide +kernel)
theorem tw_397 : Cond.methodLink RX10 127 yX8_append ∈ TW := tw_in (List.mem_of_getElem? (i := 397) (by decide +kernel)) (by decide +kernel)
theorem tw_398 : Cond.instanceMethod yX8_append ∈ TW := tw_in (List.mem_of_getElem? (i := 398) (by decide +kernel)) (by decide +kernel)
theorem tw_399 : Cond.selects RX8 yX8_append yX8_append ∈ TW := tw_in (List.mem_of_getElem? (i := 399) (by decide +kernel)) (by decide +kernel)
theorem tw_400 : Cond.code yX8_append cX8_append 2 none ∈ TW := tw_in (List.mem_of_getElem? (i := 400) (by decide +kernel)) (by decide +kernel)
theorem tw_409 : Cond.methodLink RX10 130 yX8_findShape ∈ TW := tw_in (List.mem_of_getElem? (i := 409) (by decide +kernel)) (by decide +kernel)
theorem tw_410 : Cond.instanceMethod yX8_findShape ∈ TW := tw_in (List.mem_of_getElem? (i := 410) (by decide +kernel)) (by decide +kernel)
theorem tw_411 : Cond.selects RX8 yX8_findShape yX8_findShape ∈ TW := tw_in (List.mem_of_getElem? (i := 411) (by decide +kernel)) (by decide +kernel)
theorem tw_412 : Cond.code yX8_findShape cX8_findShape 2 (some .int) ∈ TW := tw_in (List.mem_of_getElem? (i := 412) (by decide +kernel)) (by decide +kernel)
theorem tw_474 : Cond.methodLink RX10 134 yX8_lastDigit ∈ TW := tw_in (List.mem_of_getElem? (i := 474) (by decide +kernel)) (by decide +kernel)
theorem tw_475 : Cond.instanceMethod yX8_lastDigit ∈ TW := tw_in (List.mem_of_getElem? (i := 475) (by decide +kernel)) (by decide +kernel)
theorem tw_476 : Cond.selects RX8 yX8_lastDigit yX8_lastDigit ∈ TW := tw_in (List.mem_of_getElem? (i := 476) (by decide +kernel)) (by decide +kernel)
theorem tw_477 : Cond.code yX8_lastDigit cX8_lastDigit 2 (some .int) ∈ TW := tw_in (List.mem_of_getElem? (i := 477) (by decide +kernel)) (by decide +kernel)
theorem tw_478 : Cond.methodLink RX10 137 yX6_allows ∈ TW := tw_in (List.mem_of_getElem? (i := 478) (by decide +kernel)) (by decide +kernel)
theorem tw_479 : Cond.static yX6_allows ∈ TW := tw_in (List.mem_of_getElem? (i := 479) (by decide +kernel)) (by decide +kernel)
theorem tw_480 : Cond.code yX6_allows cX6_allows 2 (some .boolean) ∈ TW := tw_in (List.mem_of_getElem? (i := 480) (by decide +kernel)) (by decide +kernel)
theorem tw_485 : Cond.methodLink RX10 143 yX6_draw ∈ TW := tw_in (List.mem_of_getElem? (i := 485) (by decide +kernel)) (by decide +kernel)
theorem tw_486 : Cond.static yX6_draw ∈ TW := tw_in (List.mem_of_getElem? (i := 486) (by decide +kernel)) (by decide +kernel)
theorem tw_487 : Cond.code yX6_draw cX6_draw 4 none ∈ TW := tw_in (List.mem_of_getElem? (i := 487) (by decide +kernel)) (by decide +kernel)
theorem tw_488 : Cond.methodLink RX6 28 yX6_drawPath ∈ TW := tw_in (List.mem_of_getElem? (i := 488) (by decide +kernel)) (by decide +kernel)
theorem tw_489 : Cond.static yX6_drawPath ∈ TW := tw_in (List.mem_of_getElem? (i := 489) (by decide +kernel)) (by decide +kernel)
theorem tw_490 : Cond.code yX6_drawPath cX6_drawPath 4 none ∈ TW := tw_in (List.mem_of_getElem? (i := 490) (by decide +kernel)) (by decide +kernel)
theorem tw_491 : Cond.methodLink RX6 32 yX2_append ∈ TW := tw_in (List.mem_of_getElem? (i := 491) (by decide +kernel)) (by decide +kernel)
theorem tw_492 : Cond.methodLink RX6 38 yX6_drawRays ∈ TW := tw_in (List.mem_of_getElem? (i := 492) (by decide +kernel)) (by decide +kernel)
theorem tw_493 : Cond.static yX6_drawRays ∈ TW := tw_in (List.mem_of_getElem? (i := 493) (by decide +kernel)) (by decide +kernel)
theorem tw_494 : Cond.code yX6_drawRays cX6_drawRays 4 none ∈ TW := tw_in (List.mem_of_getElem? (i := 494) (by decide +kernel)) (by decide +kernel)
theorem tw_500 : Cond.methodLink RX10 147 yX2_isConnected ∈ TW := tw_in (List.mem_of_getElem? (i := 500) (by decide +kernel)) (by decide +kernel)
theorem tw_501 : Cond.instanceMethod yX2_isConnected ∈ TW := tw_in (List.mem_of_getElem? (i := 501) (by decide +kernel)) (by decide +kernel)
theorem tw_502 : Cond.selects RX2 yX2_isConnected yX2_isConnected ∈ TW := tw_in (List.mem_of_getElem? (i := 502) (by decide +kernel)) (by decide +kernel)
theorem tw_503 : Cond.code yX2_isConnected cX2_isConnected 1 (some .boolean) ∈ TW := tw_in (List.mem_of_getElem? (i := 503) (by decide +kernel)) (by decide +kernel)
theorem tw_504 : Cond.methodLink RX2 54 yX2_allEdges ∈ TW := tw_in (List.mem_of_getElem? (i := 504) (by decide +kernel)) (by decide +kernel)
theorem tw_505 : Cond.instanceMethod yX2_allEdges ∈ TW := tw_in (List.mem_of_getElem? (i := 505) (by decide +kernel)) (by decide +kernel)
theorem tw_506 : Cond.selects RX2 yX2_allEdges yX2_allEdges ∈ TW := tw_in (List.mem_of_getElem? (i := 506) (by decide +kernel)) (by decide +kernel)
theorem tw_507 : Cond.code yX2_allEdges cX2_allEdges 1 (some .int) ∈ TW := tw_in (List.mem_of_getElem? (i := 507) (by decide +kernel)) (by decide +kernel)
theorem tw_508 : Cond.methodLink RX2 58 yX2_findParts ∈ TW := tw_in (List.mem_of_getElem? (i := 508) (by decide +kernel)) (by decide +kernel)
theorem tw_509 : Cond.instanceMethod yX2_findParts ∈ TW := tw_in (List.mem_of_getElem? (i := 509) (by decide +kernel)) (by decide +kernel)
theorem tw_510 : Cond.selects RX2 yX2_findParts yX2_findParts ∈ TW := tw_in (List.mem_of_getElem? (i := 510) (by decide +kernel)) (by decide +kernel)
theorem tw_511 : Cond.code yX2_findParts cX2_findParts 6 (some .int) ∈ TW := tw_in (List.mem_of_getElem? (i := 511) (by decide +kernel)) (by decide +kernel)
theorem tw_512 : Cond.methodLink RX2 66 yX2_relabel ∈ TW := tw_in (List.mem_of_getElem? (i := 512) (by decide +kernel)) (by decide +kernel)
theorem tw_514 : Cond.instanceMethod yX2_relabel ∈ TW := tw_in (List.mem_of_getElem? (i := 514) (by decide +kernel)) (by decide +kernel)
theorem tw_515 : Cond.code yX2_relabel cX2_relabel 4 none ∈ TW := tw_in (List.mem_of_getElem? (i := 515) (by decide +kernel)) (by decide +kernel)
theorem tw_516 : Cond.methodLink RX10 151 yX10_sumOf ∈ TW := tw_in (List.mem_of_getElem? (i := 516) (by decide +kernel)) (by decide +kernel)
theorem tw_517 : Cond.static yX10_sumOf ∈ TW := tw_in (List.mem_of_getElem? (i := 517) (by decide +kernel)) (by decide +kernel)
theorem tw_518 : Cond.code yX10_sumOf cX10_sumOf 3 (some .int) ∈ TW := tw_in (List.mem_of_getElem? (i := 518) (by decide +kernel)) (by decide +kernel)
theorem tw_519 : Cond.methodLink RX10 158 yX2_edgesAwayFromSink ∈ TW := tw_in (List.mem_of_getElem? (i := 519) (by decide +kernel)) (by decide +kernel)
theorem tw_520 : Cond.instanceMethod yX2_edgesAwayFromSink ∈ TW := tw_in (List.mem_of_getElem? (i := 520) (by decide +kernel)) (by decide +kernel)
theorem tw_521 : Cond.selects RX2 yX2_edgesAwayFromSink yX2_edgesAwayFromSink ∈ TW := tw_in (List.mem_of_getElem? (i := 521) (by decide +kernel)) (by decide +kernel)
theorem tw_522 : Cond.code yX2_edgesAwayFromSink cX2_edgesAwayFromSink 1 (some .int) ∈ TW := tw_in (List.mem_of_getElem? (i := 522) (by decide +kernel)) (by decide +kernel)
theorem tw_523 : Cond.methodLink RX2 50 yX2_degreeOf ∈ TW := tw_in (List.mem_of_getElem? (i := 523) (by decide +kernel)) (by decide +kernel)
theorem tw_524 : Cond.instanceMethod yX2_degreeOf ∈ TW := tw_in (List.mem_of_getElem? (i := 524) (by decide +kernel)) (by decide +kernel)
theorem tw_525 : Cond.selects RX2 yX2_degreeOf yX2_degreeOf ∈ TW := tw_in (List.mem_of_getElem? (i := 525) (by decide +kernel)) (by decide +kernel)
theorem tw_526 : Cond.code yX2_degreeOf cX2_degreeOf 2 (some .int) ∈ TW := tw_in (List.mem_of_getElem? (i := 526) (by decide +kernel)) (by decide +kernel)
theorem tw_531 : Cond.methodLink RX10 161 yX2_degreeOf ∈ TW := tw_in (List.mem_of_getElem? (i := 531) (by decide +kernel)) (by decide +kernel)
theorem tw_540 : Cond.methodLink RX10 171 yX2_hasChipsAt ∈ TW := tw_in (List.mem_of_getElem? (i := 540) (by decide +kernel)) (by decide +kernel)
theorem tw_541 : Cond.instanceMethod yX2_hasChipsAt ∈ TW := tw_in (List.mem_of_getElem? (i := 541) (by decide +kernel)) (by decide +kernel)
theorem tw_542 : Cond.selects RX2 yX2_hasChipsAt yX2_hasChipsAt ∈ TW := tw_in (List.mem_of_getElem? (i := 542) (by decide +kernel)) (by decide +kernel)
theorem tw_543 : Cond.code yX2_hasChipsAt cX2_hasChipsAt 2 (some .boolean) ∈ TW := tw_in (List.mem_of_getElem? (i := 543) (by decide +kernel)) (by decide +kernel)
theorem tw_544 : Cond.methodLink RX10 174 yX3_record ∈ TW := tw_in (List.mem_of_getElem? (i := 544) (by decide +kernel)) (by decide +kernel)
theorem tw_545 : Cond.instanceMethod yX3_record ∈ TW := tw_in (List.mem_of_getElem? (i := 545) (by decide +kernel)) (by decide +kernel)
theorem tw_546 : Cond.selects RX3 yX3_record yX3_record ∈ TW := tw_in (List.mem_of_getElem? (i := 546) (by decide +kernel)) (by decide +kernel)
theorem tw_547 : Cond.code yX3_record cX3_record 2 none ∈ TW := tw_in (List.mem_of_getElem? (i := 547) (by decide +kernel)) (by decide +kernel)
theorem tw_549 : Cond.static yX10_copyChips ∈ TW := tw_in (List.mem_of_getElem? (i := 549) (by decide +kernel)) (by decide +kernel)
theorem tw_550 : Cond.code yX10_copyChips cX10_copyChips 3 none ∈ TW := tw_in (List.mem_of_getElem? (i := 550) (by decide +kernel)) (by decide +kernel)
theorem tw_559 : Cond.methodLink RX10 178 yX1_canFire ∈ TW := tw_in (List.mem_of_getElem? (i := 559) (by decide +kernel)) (by decide +kernel)
theorem tw_560 : Cond.instanceMethod yX1_canFire ∈ TW := tw_in (List.mem_of_getElem? (i := 560) (by decide +kernel)) (by decide +kernel)
theorem tw_561 : Cond.selects RX1 yX1_canFire yX1_canFire ∈ TW := tw_in (List.mem_of_getElem? (i := 561) (by decide +kernel)) (by decide +kernel)
theorem tw_562 : Cond.code yX1_canFire cX1_canFire 4 (some .boolean) ∈ TW := tw_in (List.mem_of_getElem? (i := 562) (by decide +kernel)) (by decide +kernel)
theorem tw_563 : Cond.methodLink RX1 23 yX2_degreeOf ∈ TW := tw_in (List.mem_of_getElem? (i := 563) (by decide +kernel)) (by decide +kernel)
theorem tw_564 : Cond.methodLink RX1 29 yX2_hasChipsAt ∈ TW := tw_in (List.mem_of_getElem? (i := 564) (by decide +kernel)) (by decide +kernel)
theorem tw_565 : Cond.methodLink RX10 182 yX1_give ∈ TW := tw_in (List.mem_of_getElem? (i := 565) (by decide +kernel)) (by decide +kernel)
theorem tw_566 : Cond.instanceMethod yX1_give ∈ TW := tw_in (List.mem_of_getElem? (i := 566) (by decide +kernel)) (by decide +kernel)
theorem tw_567 : Cond.selects RX1 yX1_give yX1_give ∈ TW := tw_in (List.mem_of_getElem? (i := 567) (by decide +kernel)) (by decide +kernel)
theorem tw_568 : Cond.code yX1_give cX1_give 5 none ∈ TW := tw_in (List.mem_of_getElem? (i := 568) (by decide +kernel)) (by decide +kernel)
theorem tw_569 : Cond.methodLink RX1 41 yX2_hasNode ∈ TW := tw_in (List.mem_of_getElem? (i := 569) (by decide +kernel)) (by decide +kernel)
theorem tw_570 : Cond.methodLink RX1 44 yX1_giveAlong ∈ TW := tw_in (List.mem_of_getElem? (i := 570) (by decide +kernel)) (by decide +kernel)
theorem tw_572 : Cond.instanceMethod yX1_giveAlong ∈ TW := tw_in (List.mem_of_getElem? (i := 572) (by decide +kernel)) (by decide +kernel)
theorem tw_573 : Cond.code yX1_giveAlong cX1_giveAlong 6 none ∈ TW := tw_in (List.mem_of_getElem? (i := 573) (by decide +kernel)) (by decide +kernel)
theorem tw_578 : Cond.methodLink RX10 186 yX1_settle ∈ TW := tw_in (List.mem_of_getElem? (i := 578) (by decide +kernel)) (by decide +kernel)
theorem tw_579 : Cond.instanceMethod yX1_settle ∈ TW := tw_in (List.mem_of_getElem? (i := 579) (by decide +kernel)) (by decide +kernel)
theorem tw_580 : Cond.selects RX1 yX1_settle yX1_settle ∈ TW := tw_in (List.mem_of_getElem? (i := 580) (by decide +kernel)) (by decide +kernel)
theorem tw_581 : Cond.code yX1_settle cX1_settle 6 (some .int) ∈ TW := tw_in (List.mem_of_getElem? (i := 581) (by decide +kernel)) (by decide +kernel)
theorem tw_583 : Cond.constant RX1 59 (Int32.ofInt (1000000)) ∈ TW := tw_in (List.mem_of_getElem? (i := 583) (by decide +kernel)) (by decide +kernel)
theorem tw_584 : Cond.methodLink RX1 60 yX1_fireWhilePossible ∈ TW := tw_in (List.mem_of_getElem? (i := 584) (by decide +kernel)) (by decide +kernel)
theorem tw_586 : Cond.instanceMethod yX1_fireWhilePossible ∈ TW := tw_in (List.mem_of_getElem? (i := 586) (by decide +kernel)) (by decide +kernel)
theorem tw_587 : Cond.code yX1_fireWhilePossible cX1_fireWhilePossible 5 (some .int) ∈ TW := tw_in (List.mem_of_getElem? (i := 587) (by decide +kernel)) (by decide +kernel)
theorem tw_588 : Cond.methodLink RX1 37 yX1_canFire ∈ TW := tw_in (List.mem_of_getElem? (i := 588) (by decide +kernel)) (by decide +kernel)
theorem tw_589 : Cond.methodLink RX1 64 yX1_give ∈ TW := tw_in (List.mem_of_getElem? (i := 589) (by decide +kernel)) (by decide +kernel)
theorem tw_594 : Cond.methodLink RX10 189 yX10_copyChips ∈ TW := tw_in (List.mem_of_getElem? (i := 594) (by decide +kernel)) (by decide +kernel)
theorem tw_599 : Cond.methodLink RX10 196 yX1_fireSets ∈ TW := tw_in (List.mem_of_getElem? (i := 599) (by decide +kernel)) (by decide +kernel)
theorem tw_600 : Cond.instanceMethod yX1_fireSets ∈ TW := tw_in (List.mem_of_getElem? (i := 600) (by decide +kernel)) (by decide +kernel)
theorem tw_601 : Cond.selects RX1 yX1_fireSets yX1_fireSets ∈ TW := tw_in (List.mem_of_getElem? (i := 601) (by decide +kernel)) (by decide +kernel)
theorem tw_602 : Cond.code yX1_fireSets cX1_fireSets 3 (some .int) ∈ TW := tw_in (List.mem_of_getElem? (i := 602) (by decide +kernel)) (by decide +kernel)
theorem tw_603 : Cond.methodLink RX1 68 yX0_allBurnBySecondRule ∈ TW := tw_in (List.mem_of_getElem? (i := 603) (by decide +kernel)) (by decide +kernel)
theorem tw_604 : Cond.instanceMethod yX0_allBurnBySecondRule ∈ TW := tw_in (List.mem_of_getElem? (i := 604) (by decide +kernel)) (by decide +kernel)
theorem tw_605 : Cond.selects RX0 yX0_allBurnBySecondRule yX0_allBurnBySecondRule ∈ TW := tw_in (List.mem_of_getElem? (i := 605) (by decide +kernel)) (by decide +kernel)
theorem tw_606 : Cond.code yX0_allBurnBySecondRule cX0_allBurnBySecondRule 3 (some .boolean) ∈ TW := tw_in (List.mem_of_getElem? (i := 606) (by decide +kernel)) (by decide +kernel)
theorem tw_607 : Cond.methodLink RX0 36 yX0_spreadFire ∈ TW := tw_in (List.mem_of_getElem? (i := 607) (by decide +kernel)) (by decide +kernel)
theorem tw_609 : Cond.instanceMethod yX0_spreadFire ∈ TW := tw_in (List.mem_of_getElem? (i := 609) (by decide +kernel)) (by decide +kernel)
theorem tw_610 : Cond.code yX0_spreadFire cX0_spreadFire 3 (some .boolean) ∈ TW := tw_in (List.mem_of_getElem? (i := 610) (by decide +kernel)) (by decide +kernel)
theorem tw_611 : Cond.methodLink RX0 43 yX0_burnRound ∈ TW := tw_in (List.mem_of_getElem? (i := 611) (by decide +kernel)) (by decide +kernel)
theorem tw_613 : Cond.instanceMethod yX0_burnRound ∈ TW := tw_in (List.mem_of_getElem? (i := 613) (by decide +kernel)) (by decide +kernel)
theorem tw_614 : Cond.code yX0_burnRound cX0_burnRound 4 (some .int) ∈ TW := tw_in (List.mem_of_getElem? (i := 614) (by decide +kernel)) (by decide +kernel)
theorem tw_615 : Cond.methodLink RX0 46 yX0_edgesToBurnt ∈ TW := tw_in (List.mem_of_getElem? (i := 615) (by decide +kernel)) (by decide +kernel)
theorem tw_617 : Cond.instanceMethod yX0_edgesToBurnt ∈ TW := tw_in (List.mem_of_getElem? (i := 617) (by decide +kernel)) (by decide +kernel)
theorem tw_618 : Cond.code yX0_edgesToBurnt cX0_edgesToBurnt 5 (some .int) ∈ TW := tw_in (List.mem_of_getElem? (i := 618) (by decide +kernel)) (by decide +kernel)
theorem tw_619 : Cond.methodLink RX1 74 yX1_fireUnburnt ∈ TW := tw_in (List.mem_of_getElem? (i := 619) (by decide +kernel)) (by decide +kernel)
theorem tw_621 : Cond.instanceMethod yX1_fireUnburnt ∈ TW := tw_in (List.mem_of_getElem? (i := 621) (by decide +kernel)) (by decide +kernel)
theorem tw_622 : Cond.code yX1_fireUnburnt cX1_fireUnburnt 4 none ∈ TW := tw_in (List.mem_of_getElem? (i := 622) (by decide +kernel)) (by decide +kernel)
theorem tw_623 : Cond.methodLink RX1 77 yX0_hasBurnt ∈ TW := tw_in (List.mem_of_getElem? (i := 623) (by decide +kernel)) (by decide +kernel)
theorem tw_624 : Cond.instanceMethod yX0_hasBurnt ∈ TW := tw_in (List.mem_of_getElem? (i := 624) (by decide +kernel)) (by decide +kernel)
theorem tw_625 : Cond.selects RX0 yX0_hasBurnt yX0_hasBurnt ∈ TW := tw_in (List.mem_of_getElem? (i := 625) (by decide +kernel)) (by decide +kernel)
theorem tw_626 : Cond.code yX0_hasBurnt cX0_hasBurnt 2 (some .boolean) ∈ TW := tw_in (List.mem_of_getElem? (i := 626) (by decide +kernel)) (by decide +kernel)
theorem tw_627 : Cond.methodLink RX0 22 yX2_hasNode ∈ TW := tw_in (List.mem_of_getElem? (i := 627) (by decide +kernel)) (by decide +kernel)
theorem tw_632 : Cond.methodLink RX10 199 yX1_toRecurrent ∈ TW := tw_in (List.mem_of_getElem? (i := 632) (by decide +kernel)) (by decide +kernel)
theorem tw_633 : Cond.instanceMethod yX1_toRecurrent ∈ TW := tw_in (List.mem_of_getElem? (i := 633) (by decide +kernel)) (by decide +kernel)
theorem tw_634 : Cond.selects RX1 yX1_toRecurrent yX1_toRecurrent ∈ TW := tw_in (List.mem_of_getElem? (i := 634) (by decide +kernel)) (by decide +kernel)
theorem tw_635 : Cond.code yX1_toRecurrent cX1_toRecurrent 2 none ∈ TW := tw_in (List.mem_of_getElem? (i := 635) (by decide +kernel)) (by decide +kernel)
theorem tw_636 : Cond.methodLink RX1 80 yX1_settle ∈ TW := tw_in (List.mem_of_getElem? (i := 636) (by decide +kernel)) (by decide +kernel)
theorem tw_637 : Cond.methodLink RX1 84 yX1_mirror ∈ TW := tw_in (List.mem_of_getElem? (i := 637) (by decide +kernel)) (by decide +kernel)
theorem tw_639 : Cond.instanceMethod yX1_mirror ∈ TW := tw_in (List.mem_of_getElem? (i := 639) (by decide +kernel)) (by decide +kernel)
theorem tw_640 : Cond.code yX1_mirror cX1_mirror 3 none ∈ TW := tw_in (List.mem_of_getElem? (i := 640) (by decide +kernel)) (by decide +kernel)
theorem tw_641 : Cond.methodLink RX1 87 yX1_fireSets ∈ TW := tw_in (List.mem_of_getElem? (i := 641) (by decide +kernel)) (by decide +kernel)
theorem tw_642 : Cond.methodLink RX10 202 yX10_isEqual ∈ TW := tw_in (List.mem_of_getElem? (i := 642) (by decide +kernel)) (by decide +kernel)
theorem tw_643 : Cond.static yX10_isEqual ∈ TW := tw_in (List.mem_of_getElem? (i := 643) (by decide +kernel)) (by decide +kernel)
theorem tw_644 : Cond.code yX10_isEqual cX10_isEqual 3 (some .boolean) ∈ TW := tw_in (List.mem_of_getElem? (i := 644) (by decide +kernel)) (by decide +kernel)
theorem tw_649 : Cond.methodLink RX10 206 yX1_isStable ∈ TW := tw_in (List.mem_of_getElem? (i := 649) (by decide +kernel)) (by decide +kernel)
theorem tw_650 : Cond.instanceMethod yX1_isStable ∈ TW := tw_in (List.mem_of_getElem? (i := 650) (by decide +kernel)) (by decide +kernel)
theorem tw_651 : Cond.selects RX1 yX1_isStable yX1_isStable ∈ TW := tw_in (List.mem_of_getElem? (i := 651) (by decide +kernel)) (by decide +kernel)
theorem tw_652 : Cond.code yX1_isStable cX1_isStable 3 (some .boolean) ∈ TW := tw_in (List.mem_of_getElem? (i := 652) (by decide +kernel)) (by decide +kernel)
theorem tw_653 : Cond.methodLink RX10 210 yX10_isRecurrent ∈ TW := tw_in (List.mem_of_getElem? (i := 653) (by decide +kernel)) (by decide +kernel)
theorem tw_655 : Cond.instanceMethod yX10_isRecurrent ∈ TW := tw_in (List.mem_of_getElem? (i := 655) (by decide +kernel)) (by decide +kernel)
theorem tw_656 : Cond.code yX10_isRecurrent cX10_isRecurrent 1 (some .boolean) ∈ TW := tw_in (List.mem_of_getElem? (i := 656) (by decide +kernel)) (by decide +kernel)
theorem tw_657 : Cond.methodLink RX10 216 yX0_allBurn ∈ TW := tw_in (List.mem_of_getElem? (i := 657) (by decide +kernel)) (by decide +kernel)
theorem tw_658 : Cond.instanceMethod yX0_allBurn ∈ TW := tw_in (List.mem_of_getElem? (i := 658) (by decide +kernel)) (by decide +kernel)
theorem tw_659 : Cond.selects RX0 yX0_allBurn yX0_allBurn ∈ TW := tw_in (List.mem_of_getElem? (i := 659) (by decide +kernel)) (by decide +kernel)
theorem tw_660 : Cond.code yX0_allBurn cX0_allBurn 3 (some .boolean) ∈ TW := tw_in (List.mem_of_getElem? (i := 660) (by decide +kernel)) (by decide +kernel)
theorem tw_661 : Cond.methodLink RX0 32 yX2_degreeOf ∈ TW := tw_in (List.mem_of_getElem? (i := 661) (by decide +kernel)) (by decide +kernel)
theorem tw_662 : Cond.methodLink RX10 213 yX0_allBurnBySecondRule ∈ TW := tw_in (List.mem_of_getElem? (i := 662) (by decide +kernel)) (by decide +kernel)
theorem tw_667 : Cond.methodLink RX10 219 yX0_hasBurnt ∈ TW := tw_in (List.mem_of_getElem? (i := 667) (by decide +kernel)) (by decide +kernel)
theorem tw_672 : Cond.methodLink RX10 225 yX3_takeBack ∈ TW := tw_in (List.mem_of_getElem? (i := 672) (by decide +kernel)) (by decide +kernel)
theorem tw_673 : Cond.instanceMethod yX3_takeBack ∈ TW := tw_in (List.mem_of_getElem? (i := 673) (by decide +kernel)) (by decide +kernel)
theorem tw_674 : Cond.selects RX3 yX3_takeBack yX3_takeBack ∈ TW := tw_in (List.mem_of_getElem? (i := 674) (by decide +kernel)) (by decide +kernel)
theorem tw_675 : Cond.code yX3_takeBack cX3_takeBack 2 none ∈ TW := tw_in (List.mem_of_getElem? (i := 675) (by decide +kernel)) (by decide +kernel)
theorem tw_680 : Cond.methodLink RX10 228 yX7_has ∈ TW := tw_in (List.mem_of_getElem? (i := 680) (by decide +kernel)) (by decide +kernel)
theorem tw_681 : Cond.instanceMethod yX7_has ∈ TW := tw_in (List.mem_of_getElem? (i := 681) (by decide +kernel)) (by decide +kernel)
theorem tw_682 : Cond.selects RX7 yX7_has yX7_has ∈ TW := tw_in (List.mem_of_getElem? (i := 682) (by decide +kernel)) (by decide +kernel)
theorem tw_683 : Cond.code yX7_has cX7_has 2 (some .boolean) ∈ TW := tw_in (List.mem_of_getElem? (i := 683) (by decide +kernel)) (by decide +kernel)
theorem tw_684 : Cond.methodLink RX10 231 yX7_isEmpty ∈ TW := tw_in (List.mem_of_getElem? (i := 684) (by decide +kernel)) (by decide +kernel)
theorem tw_685 : Cond.instanceMethod yX7_isEmpty ∈ TW := tw_in (List.mem_of_getElem? (i := 685) (by decide +kernel)) (by decide +kernel)
theorem tw_686 : Cond.selects RX7 yX7_isEmpty yX7_isEmpty ∈ TW := tw_in (List.mem_of_getElem? (i := 686) (by decide +kernel)) (by decide +kernel)
theorem tw_687 : Cond.code yX7_isEmpty cX7_isEmpty 2 (some .boolean) ∈ TW := tw_in (List.mem_of_getElem? (i := 687) (by decide +kernel)) (by decide +kernel)
theorem tw_688 : Cond.methodLink RX7 20 yX7_has ∈ TW := tw_in (List.mem_of_getElem? (i := 688) (by decide +kernel)) (by decide +kernel)
theorem tw_689 : Cond.methodLink RX10 234 yX7_put ∈ TW := tw_in (List.mem_of_getElem? (i := 689) (by decide +kernel)) (by decide +kernel)
theorem tw_690 : Cond.instanceMethod yX7_put ∈ TW := tw_in (List.mem_of_getElem? (i := 690) (by decide +kernel)) (by decide +kernel)
theorem tw_691 : Cond.selects RX7 yX7_put yX7_put ∈ TW := tw_in (List.mem_of_getElem? (i := 691) (by decide +kernel)) (by decide +kernel)
theorem tw_692 : Cond.code yX7_put cX7_put 3 none ∈ TW := tw_in (List.mem_of_getElem? (i := 692) (by decide +kernel)) (by decide +kernel)
theorem tw_698 : Cond.methodLink RX10 238 yX7_copyTo ∈ TW := tw_in (List.mem_of_getElem? (i := 698) (by decide +kernel)) (by decide +kernel)
theorem tw_699 : Cond.instanceMethod yX7_copyTo ∈ TW := tw_in (List.mem_of_getElem? (i := 699) (by decide +kernel)) (by decide +kernel)
theorem tw_700 : Cond.selects RX7 yX7_copyTo yX7_copyTo ∈ TW := tw_in (List.mem_of_getElem? (i := 700) (by decide +kernel)) (by decide +kernel)
theorem tw_701 : Cond.code yX7_copyTo cX7_copyTo 3 none ∈ TW := tw_in (List.mem_of_getElem? (i := 701) (by decide +kernel)) (by decide +kernel)
theorem tw_714 : Cond.methodLink RX10 241 yX9_count ∈ TW := tw_in (List.mem_of_getElem? (i := 714) (by decide +kernel)) (by decide +kernel)
theorem tw_715 : Cond.instanceMethod yX9_count ∈ TW := tw_in (List.mem_of_getElem? (i := 715) (by decide +kernel)) (by decide +kernel)
theorem tw_716 : Cond.selects RX9 yX9_count yX9_count ∈ TW := tw_in (List.mem_of_getElem? (i := 716) (by decide +kernel)) (by decide +kernel)
theorem tw_717 : Cond.code yX9_count cX9_count 3 (some .long) ∈ TW := tw_in (List.mem_of_getElem? (i := 717) (by decide +kernel)) (by decide +kernel)
theorem tw_718 : Cond.methodLink RX9 23 yX2_findParts ∈ TW := tw_in (List.mem_of_getElem? (i := 718) (by decide +kernel)) (by decide +kernel)
theorem tw_719 : Cond.methodLink RX9 29 yX5_fill ∈ TW := tw_in (List.mem_of_getElem? (i := 719) (by decide +kernel)) (by decide +kernel)
theorem tw_720 : Cond.instanceMethod yX5_fill ∈ TW := tw_in (List.mem_of_getElem? (i := 720) (by decide +kernel)) (by decide +kernel)
theorem tw_721 : Cond.selects RX5 yX5_fill yX5_fill ∈ TW := tw_in (List.mem_of_getElem? (i := 721) (by decide +kernel)) (by decide +kernel)
theorem tw_722 : Cond.code yX5_fill cX5_fill 5 none ∈ TW := tw_in (List.mem_of_getElem? (i := 722) (by decide +kernel)) (by decide +kernel)
theorem tw_723 : Cond.methodLink RX5 36 yX5_isFree ∈ TW := tw_in (List.mem_of_getElem? (i := 723) (by decide +kernel)) (by decide +kernel)
theorem tw_725 : Cond.instanceMethod yX5_isFree ∈ TW := tw_in (List.mem_of_getElem? (i := 725) (by decide +kernel)) (by decide +kernel)
theorem tw_726 : Cond.code yX5_isFree cX5_isFree 2 (some .boolean) ∈ TW := tw_in (List.mem_of_getElem? (i := 726) (by decide +kernel)) (by decide +kernel)
theorem tw_727 : Cond.methodLink RX5 57 yX2_hasNode ∈ TW := tw_in (List.mem_of_getElem? (i := 727) (by decide +kernel)) (by decide +kernel)
theorem tw_728 : Cond.methodLink RX5 53 yX5_fillEdge ∈ TW := tw_in (List.mem_of_getElem? (i := 728) (by decide +kernel)) (by decide +kernel)
theorem tw_730 : Cond.instanceMethod yX5_fillEdge ∈ TW := tw_in (List.mem_of_getElem? (i := 730) (by decide +kernel)) (by decide +kernel)
theorem tw_731 : Cond.code yX5_fillEdge cX5_fillEdge 3 none ∈ TW := tw_in (List.mem_of_getElem? (i := 731) (by decide +kernel)) (by decide +kernel)
theorem tw_732 : Cond.methodLink RX9 35 yX5_eliminate ∈ TW := tw_in (List.mem_of_getElem? (i := 732) (by decide +kernel)) (by decide +kernel)
theorem tw_733 : Cond.instanceMethod yX5_eliminate ∈ TW := tw_in (List.mem_of_getElem? (i := 733) (by decide +kernel)) (by decide +kernel)
theorem tw_734 : Cond.selects RX5 yX5_eliminate yX5_eliminate ∈ TW := tw_in (List.mem_of_getElem? (i := 734) (by decide +kernel)) (by decide +kernel)
theorem tw_735 : Cond.code yX5_eliminate cX5_eliminate 7 (some .long) ∈ TW := tw_in (List.mem_of_getElem? (i := 735) (by decide +kernel)) (by decide +kernel)
theorem tw_736 : Cond.methodLink RX5 71 yX5_combineRows ∈ TW := tw_in (List.mem_of_getElem? (i := 736) (by decide +kernel)) (by decide +kernel)
theorem tw_738 : Cond.instanceMethod yX5_combineRows ∈ TW := tw_in (List.mem_of_getElem? (i := 738) (by decide +kernel)) (by decide +kernel)
theorem tw_739 : Cond.code yX5_combineRows cX5_combineRows 10 none ∈ TW := tw_in (List.mem_of_getElem? (i := 739) (by decide +kernel)) (by decide +kernel)
theorem tw_748 : Cond.methodLink RX10 247 yX5_orderOf ∈ TW := tw_in (List.mem_of_getElem? (i := 748) (by decide +kernel)) (by decide +kernel)
theorem tw_749 : Cond.instanceMethod yX5_orderOf ∈ TW := tw_in (List.mem_of_getElem? (i := 749) (by decide +kernel)) (by decide +kernel)
theorem tw_750 : Cond.selects RX5 yX5_orderOf yX5_orderOf ∈ TW := tw_in (List.mem_of_getElem? (i := 750) (by decide +kernel)) (by decide +kernel)
theorem tw_751 : Cond.code yX5_orderOf cX5_orderOf 7 (some .long) ∈ TW := tw_in (List.mem_of_getElem? (i := 751) (by decide +kernel)) (by decide +kernel)
theorem tw_752 : Cond.methodLink RX5 75 yX5_fillWhole ∈ TW := tw_in (List.mem_of_getElem? (i := 752) (by decide +kernel)) (by decide +kernel)
theorem tw_754 : Cond.instanceMethod yX5_fillWhole ∈ TW := tw_in (List.mem_of_getElem? (i := 754) (by decide +kernel)) (by decide +kernel)
theorem tw_755 : Cond.code yX5_fillWhole cX5_fillWhole 1 none ∈ TW := tw_in (List.mem_of_getElem? (i := 755) (by decide +kernel)) (by decide +kernel)
theorem tw_756 : Cond.methodLink RX5 63 yX2_findParts ∈ TW := tw_in (List.mem_of_getElem? (i := 756) (by decide +kernel)) (by decide +kernel)
theorem tw_757 : Cond.methodLink RX5 67 yX5_fill ∈ TW := tw_in (List.mem_of_getElem? (i := 757) (by decide +kernel)) (by decide +kernel)
theorem tw_758 : Cond.methodLink RX5 78 yX5_eliminate ∈ TW := tw_in (List.mem_of_getElem? (i := 758) (by decide +kernel)) (by decide +kernel)
theorem tw_759 : Cond.methodLink RX5 82 yX5_commonDivisor ∈ TW := tw_in (List.mem_of_getElem? (i := 759) (by decide +kernel)) (by decide +kernel)
theorem tw_760 : Cond.static yX5_commonDivisor ∈ TW := tw_in (List.mem_of_getElem? (i := 760) (by decide +kernel)) (by decide +kernel)
theorem tw_761 : Cond.code yX5_commonDivisor cX5_commonDivisor 11 (some .long) ∈ TW := tw_in (List.mem_of_getElem? (i := 761) (by decide +kernel)) (by decide +kernel)
theorem tw_762 : Cond.methodLink RX5 122 yJ9_abs_067f4 ∈ TW := tw_in (List.mem_of_getElem? (i := 762) (by decide +kernel)) (by decide +kernel)
theorem tw_763 : Cond.static yJ9_abs_067f4 ∈ TW := tw_in (List.mem_of_getElem? (i := 763) (by decide +kernel)) (by decide +kernel)
theorem tw_764 : Cond.code yJ9_abs_067f4 cJ9_abs_067f4 2 (some .long) ∈ TW := tw_in (List.mem_of_getElem? (i := 764) (by decide +kernel)) (by decide +kernel)
theorem tw_765 : Cond.constant RX5 95 (Int32.ofInt (1000000)) ∈ TW := tw_in (List.mem_of_getElem? (i := 765) (by decide +kernel)) (by decide +kernel)
theorem tw_770 : Cond.constantLong RX10 251 (Int64.ofInt (-9223372036854775808)) ∈ TW := tw_in (List.mem_of_getElem? (i := 770) (by decide +kernel)) (by decide +kernel)
theorem tw_771 : Cond.methodLink RX10 253 yX5_findFactors ∈ TW := tw_in (List.mem_of_getElem? (i := 771) (by decide +kernel)) (by decide +kernel)
theorem tw_772 : Cond.instanceMethod yX5_findFactors ∈ TW := tw_in (List.mem_of_getElem? (i := 772) (by decide +kernel)) (by decide +kernel)
theorem tw_773 : Cond.selects RX5 yX5_findFactors yX5_findFactors ∈ TW := tw_in (List.mem_of_getElem? (i := 773) (by decide +kernel)) (by decide +kernel)
theorem tw_774 : Cond.code yX5_findFactors cX5_findFactors 6 none ∈ TW := tw_in (List.mem_of_getElem? (i := 774) (by decide +kernel)) (by decide +kernel)
theorem tw_775 : Cond.methodLink RX5 86 yJ9_floorMod_f86c9 ∈ TW := tw_in (List.mem_of_getElem? (i := 775) (by decide +kernel)) (by decide +kernel)
theorem tw_776 : Cond.static yJ9_floorMod_f86c9 ∈ TW := tw_in (List.mem_of_getElem? (i := 776) (by decide +kernel)) (by decide +kernel)
theorem tw_777 : Cond.code yJ9_floorMod_f86c9 cJ9_floorMod_f86c9 6 (some .long) ∈ TW := tw_in (List.mem_of_getElem? (i := 777) (by decide +kernel)) (by decide +kernel)
theorem tw_778 : Cond.methodLink RX5 91 yX5_clearAround ∈ TW := tw_in (List.mem_of_getElem? (i := 778) (by decide +kernel)) (by decide +kernel)
theorem tw_780 : Cond.instanceMethod yX5_clearAround ∈ TW := tw_in (List.mem_of_getElem? (i := 780) (by decide +kernel)) (by decide +kernel)
theorem tw_781 : Cond.code yX5_clearAround cX5_clearAround 7 none ∈ TW := tw_in (List.mem_of_getElem? (i := 781) (by decide +kernel)) (by decide +kernel)
theorem tw_782 : Cond.methodLink RX5 96 yX5_bringLeastToCorner ∈ TW := tw_in (List.mem_of_getElem? (i := 782) (by decide +kernel)) (by decide +kernel)
theorem tw_784 : Cond.instanceMethod yX5_bringLeastToCorner ∈ TW := tw_in (List.mem_of_getElem? (i := 784) (by decide +kernel)) (by decide +kernel)
theorem tw_785 : Cond.code yX5_bringLeastToCorner cX5_bringLeastToCorner 7 (some .boolean) ∈ TW := tw_in (List.mem_of_getElem? (i := 785) (by decide +kernel)) (by decide +kernel)
theorem tw_786 : Cond.methodLink RX5 109 yX5_swapRows ∈ TW := tw_in (List.mem_of_getElem? (i := 786) (by decide +kernel)) (by decide +kernel)
theorem tw_788 : Cond.instanceMethod yX5_swapRows ∈ TW := tw_in (List.mem_of_getElem? (i := 788) (by decide +kernel)) (by decide +kernel)
theorem tw_789 : Cond.code yX5_swapRows cX5_swapRows 6 none ∈ TW := tw_in (List.mem_of_getElem? (i := 789) (by decide +kernel)) (by decide +kernel)
theorem tw_790 : Cond.methodLink RX5 112 yX5_swapColumns ∈ TW := tw_in (List.mem_of_getElem? (i := 790) (by decide +kernel)) (by decide +kernel)
theorem tw_792 : Cond.instanceMethod yX5_swapColumns ∈ TW := tw_in (List.mem_of_getElem? (i := 792) (by decide +kernel)) (by decide +kernel)
theorem tw_793 : Cond.code yX5_swapColumns cX5_swapColumns 6 none ∈ TW := tw_in (List.mem_of_getElem? (i := 793) (by decide +kernel)) (by decide +kernel)
theorem tw_794 : Cond.methodLink RX5 99 yX5_clearColumn ∈ TW := tw_in (List.mem_of_getElem? (i := 794) (by decide +kernel)) (by decide +kernel)
theorem tw_796 : Cond.instanceMethod yX5_clearColumn ∈ TW := tw_in (List.mem_of_getElem? (i := 796) (by decide +kernel)) (by decide +kernel)
theorem tw_797 : Cond.code yX5_clearColumn cX5_clearColumn 8 (some .boolean) ∈ TW := tw_in (List.mem_of_getElem? (i := 797) (by decide +kernel)) (by decide +kernel)
theorem tw_798 : Cond.methodLink RX5 115 yX5_addRow ∈ TW := tw_in (List.mem_of_getElem? (i := 798) (by decide +kernel)) (by decide +kernel)
theorem tw_800 : Cond.instanceMethod yX5_addRow ∈ TW := tw_in (List.mem_of_getElem? (i := 800) (by decide +kernel)) (by decide +kernel)
theorem tw_801 : Cond.code yX5_addRow cX5_addRow 8 none ∈ TW := tw_in (List.mem_of_getElem? (i := 801) (by decide +kernel)) (by decide +kernel)
theorem tw_802 : Cond.methodLink RX5 103 yX5_clearRow ∈ TW := tw_in (List.mem_of_getElem? (i := 802) (by decide +kernel)) (by decide +kernel)
theorem tw_804 : Cond.instanceMethod yX5_clearRow ∈ TW := tw_in (List.mem_of_getElem? (i := 804) (by decide +kernel)) (by decide +kernel)
theorem tw_805 : Cond.code yX5_clearRow cX5_clearRow 8 (some .boolean) ∈ TW := tw_in (List.mem_of_getElem? (i := 805) (by decide +kernel)) (by decide +kernel)
theorem tw_806 : Cond.methodLink RX5 119 yX5_addColumn ∈ TW := tw_in (List.mem_of_getElem? (i := 806) (by decide +kernel)) (by decide +kernel)
theorem tw_808 : Cond.instanceMethod yX5_addColumn ∈ TW := tw_in (List.mem_of_getElem? (i := 808) (by decide +kernel)) (by decide +kernel)
theorem tw_809 : Cond.code yX5_addColumn cX5_addColumn 8 none ∈ TW := tw_in (List.mem_of_getElem? (i := 809) (by decide +kernel)) (by decide +kernel)
theorem tw_810 : Cond.methodLink RX5 106 yX5_addUndividedRow ∈ TW := tw_in (List.mem_of_getElem? (i := 810) (by decide +kernel)) (by decide +kernel)
theorem tw_812 : Cond.instanceMethod yX5_addUndividedRow ∈ TW := tw_in (List.mem_of_getElem? (i := 812) (by decide +kernel)) (by decide +kernel)
theorem tw_813 : Cond.code yX5_addUndividedRow cX5_addUndividedRow 8 (some .boolean) ∈ TW := tw_in (List.mem_of_getElem? (i := 813) (by decide +kernel)) (by decide +kernel)
theorem tw_822 : Cond.methodLink RX10 263 yX4_countAt ∈ TW := tw_in (List.mem_of_getElem? (i := 822) (by decide +kernel)) (by decide +kernel)
theorem tw_823 : Cond.instanceMethod yX4_countAt ∈ TW := tw_in (List.mem_of_getElem? (i := 823) (by decide +kernel)) (by decide +kernel)
theorem tw_824 : Cond.selects RX4 yX4_countAt yX4_countAt ∈ TW := tw_in (List.mem_of_getElem? (i := 824) (by decide +kernel)) (by decide +kernel)
theorem tw_825 : Cond.code yX4_countAt cX4_countAt 5 (some .long) ∈ TW := tw_in (List.mem_of_getElem? (i := 825) (by decide +kernel)) (by decide +kernel)
theorem tw_826 : Cond.methodLink RX4 28 yX4_countEdgesInside ∈ TW := tw_in (List.mem_of_getElem? (i := 826) (by decide +kernel)) (by decide +kernel)
theorem tw_828 : Cond.instanceMethod yX4_countEdgesInside ∈ TW := tw_in (List.mem_of_getElem? (i := 828) (by decide +kernel)) (by decide +kernel)
theorem tw_829 : Cond.code yX4_countEdgesInside cX4_countEdgesInside 4 none ∈ TW := tw_in (List.mem_of_getElem? (i := 829) (by decide +kernel)) (by decide +kernel)
theorem tw_830 : Cond.methodLink RX4 37 yX4_sumConnected ∈ TW := tw_in (List.mem_of_getElem? (i := 830) (by decide +kernel)) (by decide +kernel)
theorem tw_832 : Cond.instanceMethod yX4_sumConnected ∈ TW := tw_in (List.mem_of_getElem? (i := 832) (by decide +kernel)) (by decide +kernel)
theorem tw_833 : Cond.code yX4_sumConnected cX4_sumConnected 4 none ∈ TW := tw_in (List.mem_of_getElem? (i := 833) (by decide +kernel)) (by decide +kernel)
theorem tw_834 : Cond.methodLink RX4 53 yX4_subtractShifted ∈ TW := tw_in (List.mem_of_getElem? (i := 834) (by decide +kernel)) (by decide +kernel)
theorem tw_835 : Cond.static yX4_subtractShifted ∈ TW := tw_in (List.mem_of_getElem? (i := 835) (by decide +kernel)) (by decide +kernel)
theorem tw_836 : Cond.code yX4_subtractShifted cX4_subtractShifted 4 none ∈ TW := tw_in (List.mem_of_getElem? (i := 836) (by decide +kernel)) (by decide +kernel)
theorem tw_837 : Cond.methodLink RX4 41 yX4_divideByYMinusOne ∈ TW := tw_in (List.mem_of_getElem? (i := 837) (by decide +kernel)) (by decide +kernel)
theorem tw_839 : Cond.instanceMethod yX4_divideByYMinusOne ∈ TW := tw_in (List.mem_of_getElem? (i := 839) (by decide +kernel)) (by decide +kernel)
theorem tw_840 : Cond.code yX4_divideByYMinusOne cX4_divideByYMinusOne 6 none ∈ TW := tw_in (List.mem_of_getElem? (i := 840) (by decide +kernel)) (by decide +kernel)
theorem tw_845 : Cond.methodLink RX10 267 yX9_treeOf ∈ TW := tw_in (List.mem_of_getElem? (i := 845) (by decide +kernel)) (by decide +kernel)
theorem tw_846 : Cond.instanceMethod yX9_treeOf ∈ TW := tw_in (List.mem_of_getElem? (i := 846) (by decide +kernel)) (by decide +kernel)
theorem tw_847 : Cond.selects RX9 yX9_treeOf yX9_treeOf ∈ TW := tw_in (List.mem_of_getElem? (i := 847) (by decide +kernel)) (by decide +kernel)
theorem tw_848 : Cond.code yX9_treeOf cX9_treeOf 8 (some .int) ∈ TW := tw_in (List.mem_of_getElem? (i := 848) (by decide +kernel)) (by decide +kernel)
theorem tw_850 : Cond.methodLink RX9 54 yX9_lowestBorderEdge ∈ TW := tw_in (List.mem_of_getElem? (i := 850) (by decide +kernel)) (by decide +kernel)
theorem tw_852 : Cond.instanceMethod yX9_lowestBorderEdge ∈ TW := tw_in (List.mem_of_getElem? (i := 852) (by decide +kernel)) (by decide +kernel)
theorem tw_853 : Cond.code yX9_lowestBorderEdge cX9_lowestBorderEdge 5 (some .int) ∈ TW := tw_in (List.mem_of_getElem? (i := 853) (by decide +kernel)) (by decide +kernel)
theorem tw_854 : Cond.methodLink RX9 71 yX9_isIn ∈ TW := tw_in (List.mem_of_getElem? (i := 854) (by decide +kernel)) (by decide +kernel)
theorem tw_855 : Cond.static yX9_isIn ∈ TW := tw_in (List.mem_of_getElem? (i := 855) (by decide +kernel)) (by decide +kernel)
theorem tw_856 : Cond.code yX9_isIn cX9_isIn 2 (some .boolean) ∈ TW := tw_in (List.mem_of_getElem? (i := 856) (by decide +kernel)) (by decide +kernel)
theorem tw_857 : Cond.methodLink RX9 58 yX2_hasEdge ∈ TW := tw_in (List.mem_of_getElem? (i := 857) (by decide +kernel)) (by decide +kernel)
theorem tw_858 : Cond.methodLink RX9 62 yX9_unmarkedEnd ∈ TW := tw_in (List.mem_of_getElem? (i := 858) (by decide +kernel)) (by decide +kernel)
theorem tw_860 : Cond.instanceMethod yX9_unmarkedEnd ∈ TW := tw_in (List.mem_of_getElem? (i := 860) (by decide +kernel)) (by decide +kernel)
theorem tw_861 : Cond.code yX9_unmarkedEnd cX9_unmarkedEnd 3 (some .int) ∈ TW := tw_in (List.mem_of_getElem? (i := 861) (by decide +kernel)) (by decide +kernel)
theorem tw_862 : Cond.methodLink RX9 65 yX2_degreeOf ∈ TW := tw_in (List.mem_of_getElem? (i := 862) (by decide +kernel)) (by decide +kernel)
theorem tw_867 : Cond.methodLink RX10 270 yX2_isSpanningTree ∈ TW := tw_in (List.mem_of_getElem? (i := 867) (by decide +kernel)) (by decide +kernel)
theorem tw_868 : Cond.instanceMethod yX2_isSpanningTree ∈ TW := tw_in (List.mem_of_getElem? (i := 868) (by decide +kernel)) (by decide +kernel)
theorem tw_869 : Cond.selects RX2 yX2_isSpanningTree yX2_isSpanningTree ∈ TW := tw_in (List.mem_of_getElem? (i := 869) (by decide +kernel)) (by decide +kernel)
theorem tw_870 : Cond.code yX2_isSpanningTree cX2_isSpanningTree 2 (some .boolean) ∈ TW := tw_in (List.mem_of_getElem? (i := 870) (by decide +kernel)) (by decide +kernel)
theorem tw_871 : Cond.methodLink RX2 61 yJ6_bitCount_0f7a4 ∈ TW := tw_in (List.mem_of_getElem? (i := 871) (by decide +kernel)) (by decide +kernel)
theorem tw_872 : Cond.static yJ6_bitCount_0f7a4 ∈ TW := tw_in (List.mem_of_getElem? (i := 872) (by decide +kernel)) (by decide +kernel)
theorem tw_873 : Cond.code yJ6_bitCount_0f7a4 cJ6_bitCount_0f7a4 1 (some .int) ∈ TW := tw_in (List.mem_of_getElem? (i := 873) (by decide +kernel)) (by decide +kernel)
theorem tw_874 : Cond.constant RJ6 265 (Int32.ofInt (1431655765)) ∈ TW := tw_in (List.mem_of_getElem? (i := 874) (by decide +kernel)) (by decide +kernel)
theorem tw_875 : Cond.constant RJ6 266 (Int32.ofInt (858993459)) ∈ TW := tw_in (List.mem_of_getElem? (i := 875) (by decide +kernel)) (by decide +kernel)
theorem tw_876 : Cond.constant RJ6 267 (Int32.ofInt (252645135)) ∈ TW := tw_in (List.mem_of_getElem? (i := 876) (by decide +kernel)) (by decide +kernel)
theorem tw_877 : Cond.methodLink RX10 273 yX9_toStateOf ∈ TW := tw_in (List.mem_of_getElem? (i := 877) (by decide +kernel)) (by decide +kernel)
theorem tw_878 : Cond.instanceMethod yX9_toStateOf ∈ TW := tw_in (List.mem_of_getElem? (i := 878) (by decide +kernel)) (by decide +kernel)
theorem tw_879 : Cond.selects RX9 yX9_toStateOf yX9_toStateOf ∈ TW := tw_in (List.mem_of_getElem? (i := 879) (by decide +kernel)) (by decide +kernel)
theorem tw_880 : Cond.code yX9_toStateOf cX9_toStateOf 8 none ∈ TW := tw_in (List.mem_of_getElem? (i := 880) (by decide +kernel)) (by decide +kernel)
theorem tw_885 : Cond.methodLink RX10 276 yX9_treeNumbered ∈ TW := tw_in (List.mem_of_getElem? (i := 885) (by decide +kernel)) (by decide +kernel)
theorem tw_886 : Cond.instanceMethod yX9_treeNumbered ∈ TW := tw_in (List.mem_of_getElem? (i := 886) (by decide +kernel)) (by decide +kernel)
theorem tw_887 : Cond.selects RX9 yX9_treeNumbered yX9_treeNumbered ∈ TW := tw_in (List.mem_of_getElem? (i := 887) (by decide +kernel)) (by decide +kernel)
theorem tw_888 : Cond.code yX9_treeNumbered cX9_treeNumbered 10 (some .int) ∈ TW := tw_in (List.mem_of_getElem? (i := 888) (by decide +kernel)) (by decide +kernel)
theorem tw_889 : Cond.methodLink RX9 43 yX9_count ∈ TW := tw_in (List.mem_of_getElem? (i := 889) (by decide +kernel)) (by decide +kernel)
theorem tw_896 : Cond.methodLink RX11 67 yX11_begin ∈ TW := tw_in (List.mem_of_getElem? (i := 896) (by decide +kernel)) (by decide +kernel)
theorem tw_898 : Cond.instanceMethod yX11_begin ∈ TW := tw_in (List.mem_of_getElem? (i := 898) (by decide +kernel)) (by decide +kernel)
theorem tw_899 : Cond.code yX11_begin cX11_begin 3 none ∈ TW := tw_in (List.mem_of_getElem? (i := 899) (by decide +kernel)) (by decide +kernel)
theorem tw_900 : Cond.methodLink RX11 87 yX11_changed ∈ TW := tw_in (List.mem_of_getElem? (i := 900) (by decide +kernel)) (by decide +kernel)
theorem tw_902 : Cond.instanceMethod yX11_changed ∈ TW := tw_in (List.mem_of_getElem? (i := 902) (by decide +kernel)) (by decide +kernel)
theorem tw_903 : Cond.code yX11_changed cX11_changed 2 none ∈ TW := tw_in (List.mem_of_getElem? (i := 903) (by decide +kernel)) (by decide +kernel)
theorem tw_904 : Cond.methodLink RX11 71 yX11_join ∈ TW := tw_in (List.mem_of_getElem? (i := 904) (by decide +kernel)) (by decide +kernel)
theorem tw_906 : Cond.instanceMethod yX11_join ∈ TW := tw_in (List.mem_of_getElem? (i := 906) (by decide +kernel)) (by decide +kernel)
theorem tw_907 : Cond.code yX11_join cX11_join 3 none ∈ TW := tw_in (List.mem_of_getElem? (i := 907) (by decide +kernel)) (by decide +kernel)
theorem tw_908 : Cond.fieldLink RX11 77 RX11 "n" "I" ∈ TW := tw_in (List.mem_of_getElem? (i := 908) (by decide +kernel)) (by decide +kernel)
theorem tw_909 : Cond.fieldLink RX11 81 RX11 "m" "I" ∈ TW := tw_in (List.mem_of_getElem? (i := 909) (by decide +kernel)) (by decide +kernel)
theorem tw_910 : Cond.fieldLink RX11 84 RX11 "sink" "I" ∈ TW := tw_in (List.mem_of_getElem? (i := 910) (by decide +kernel)) (by decide +kernel)
theorem tw_911 : Cond.fieldLink RX11 7 RX11 "one" "[I" ∈ TW := tw_in (List.mem_of_getElem? (i := 911) (by decide +kernel)) (by decide +kernel)
theorem tw_912 : Cond.fieldLink RX11 13 RX11 "other" "[I" ∈ TW := tw_in (List.mem_of_getElem? (i := 912) (by decide +kernel)) (by decide +kernel)
theorem tw_913 : Cond.fieldLink RX11 16 RX11 "joins" "[I" ∈ TW := tw_in (List.mem_of_getElem? (i := 913) (by decide +kernel)) (by decide +kernel)
theorem tw_914 : Cond.fieldLink RX11 19 RX11 "degreeOf" "[I" ∈ TW := tw_in (List.mem_of_getElem? (i := 914) (by decide +kernel)) (by decide +kernel)
theorem tw_915 : Cond.fieldLink RX11 22 RX11 "chip" "[I" ∈ TW := tw_in (List.mem_of_getElem? (i := 915) (by decide +kernel)) (by decide +kernel)
theorem tw_916 : Cond.fieldLink RX11 105 RX11 "typed" "I" ∈ TW := tw_in (List.mem_of_getElem? (i := 916) (by decide +kernel)) (by decide +kernel)
theorem tw_917 : Cond.fieldLink RX11 25 RX11 "text" "[C" ∈ TW := tw_in (List.mem_of_getElem? (i := 917) (by decide +kernel)) (by decide +kernel)
theorem tw_918 : Cond.fieldLink RX11 29 RX11 "round" "[I" ∈ TW := tw_in (List.mem_of_getElem? (i := 918) (by decide +kernel)) (by decide +kernel)
theorem tw_919 : Cond.fieldLink RX11 90 RX11 "kept" "I" ∈ TW := tw_in (List.mem_of_getElem? (i := 919) (by decide +kernel)) (by decide +kernel)
theorem tw_920 : Cond.fieldLink RX11 32 RX11 "keptChips" "[I" ∈ TW := tw_in (List.mem_of_getElem? (i := 920) (by decide +kernel)) (by decide +kernel)
theorem tw_921 : Cond.fieldLink RX11 35 RX11 "isKept" "[Z" ∈ TW := tw_in (List.mem_of_getElem? (i := 921) (by decide +kernel)) (by decide +kernel)
theorem tw_922 : Cond.fieldLink RX11 39 RX11 "slotChips" "[I" ∈ TW := tw_in (List.mem_of_getElem? (i := 922) (by decide +kernel)) (by decide +kernel)
theorem tw_923 : Cond.fieldLink RX11 42 RX11 "fired" "[I" ∈ TW := tw_in (List.mem_of_getElem? (i := 923) (by decide +kernel)) (by decide +kernel)
theorem tw_924 : Cond.fieldLink RX11 45 RX11 "work" "[I" ∈ TW := tw_in (List.mem_of_getElem? (i := 924) (by decide +kernel)) (by decide +kernel)
theorem tw_925 : Cond.fieldLink RX11 48 RX11 "zero" "[I" ∈ TW := tw_in (List.mem_of_getElem? (i := 925) (by decide +kernel)) (by decide +kernel)
theorem tw_926 : Cond.fieldLink RX11 51 RX11 "first" "[I" ∈ TW := tw_in (List.mem_of_getElem? (i := 926) (by decide +kernel)) (by decide +kernel)
theorem tw_927 : Cond.fieldLink RX11 54 RX11 "added" "[I" ∈ TW := tw_in (List.mem_of_getElem? (i := 927) (by decide +kernel)) (by decide +kernel)
theorem tw_928 : Cond.fieldLink RX11 57 RX11 "matrix" "[J" ∈ TW := tw_in (List.mem_of_getElem? (i := 928) (by decide +kernel)) (by decide +kernel)
theorem tw_929 : Cond.fieldLink RX11 93 RX11 "isCounted" "Z" ∈ TW := tw_in (List.mem_of_getElem? (i := 929) (by decide +kernel)) (by decide +kernel)
theorem tw_930 : Cond.fieldLink RX11 61 RX11 "levels" "[I" ∈ TW := tw_in (List.mem_of_getElem? (i := 930) (by decide +kernel)) (by decide +kernel)
theorem tw_931 : Cond.fieldLink RX11 64 RX11 "usedAt" "[I" ∈ TW := tw_in (List.mem_of_getElem? (i := 931) (by decide +kernel)) (by decide +kernel)
theorem tw_985 : Cond.methodLink RX11 97 yX11_in ∈ TW := tw_in (List.mem_of_getElem? (i := 985) (by decide +kernel)) (by decide +kernel)
theorem tw_986 : Cond.static yX11_in ∈ TW := tw_in (List.mem_of_getElem? (i := 986) (by decide +kernel)) (by decide +kernel)
theorem tw_987 : Cond.code yX11_in cX11_in 3 (some .boolean) ∈ TW := tw_in (List.mem_of_getElem? (i := 987) (by decide +kernel)) (by decide +kernel)
theorem tw_992 : Cond.methodLink RX11 101 yX11_isNode ∈ TW := tw_in (List.mem_of_getElem? (i := 992) (by decide +kernel)) (by decide +kernel)
theorem tw_994 : Cond.instanceMethod yX11_isNode ∈ TW := tw_in (List.mem_of_getElem? (i := 994) (by decide +kernel)) (by decide +kernel)
theorem tw_995 : Cond.code yX11_isNode cX11_isNode 2 (some .boolean) ∈ TW := tw_in (List.mem_of_getElem? (i := 995) (by decide +kernel)) (by decide +kernel)
theorem tw_1016 : Cond.methodLink RX11 116 yX11_isNamed ∈ TW := tw_in (List.mem_of_getElem? (i := 1016) (by decide +kernel)) (by decide +kernel)
theorem tw_1018 : Cond.instanceMethod yX11_isNamed ∈ TW := tw_in (List.mem_of_getElem? (i := 1018) (by decide +kernel)) (by decide +kernel)
theorem tw_1019 : Cond.code yX11_isNamed cX11_isNamed 5 (some .boolean) ∈ TW := tw_in (List.mem_of_getElem? (i := 1019) (by decide +kernel)) (by decide +kernel)
theorem tw_1020 : Cond.methodLink RX11 112 yX11_begins ∈ TW := tw_in (List.mem_of_getElem? (i := 1020) (by decide +kernel)) (by decide +kernel)
theorem tw_1022 : Cond.instanceMethod yX11_begins ∈ TW := tw_in (List.mem_of_getElem? (i := 1022) (by decide +kernel)) (by decide +kernel)
theorem tw_1023 : Cond.code yX11_begins cX11_begins 5 (some .boolean) ∈ TW := tw_in (List.mem_of_getElem? (i := 1023) (by decide +kernel)) (by decide +kernel)
theorem tw_1024 : Cond.methodLink RX11 108 yX11_isAt ∈ TW := tw_in (List.mem_of_getElem? (i := 1024) (by decide +kernel)) (by decide +kernel)
theorem tw_1026 : Cond.instanceMethod yX11_isAt ∈ TW := tw_in (List.mem_of_getElem? (i := 1026) (by decide +kernel)) (by decide +kernel)
theorem tw_1027 : Cond.code yX11_isAt cX11_isAt 3 (some .boolean) ∈ TW := tw_in (List.mem_of_getElem? (i := 1027) (by decide +kernel)) (by decide +kernel)
theorem tw_1032 : Cond.methodLink RX11 119 yX11_isConnected ∈ TW := tw_in (List.mem_of_getElem? (i := 1032) (by decide +kernel)) (by decide +kernel)
theorem tw_1034 : Cond.instanceMethod yX11_isConnected ∈ TW := tw_in (List.mem_of_getElem? (i := 1034) (by decide +kernel)) (by decide +kernel)
theorem tw_1035 : Cond.code yX11_isConnected cX11_isConnected 6 (some .boolean) ∈ TW := tw_in (List.mem_of_getElem? (i := 1035) (by decide +kernel)) (by decide +kernel)
theorem tw_1036 : Cond.methodLink RX11 123 yX11_sum ∈ TW := tw_in (List.mem_of_getElem? (i := 1036) (by decide +kernel)) (by decide +kernel)
theorem tw_1038 : Cond.instanceMethod yX11_sum ∈ TW := tw_in (List.mem_of_getElem? (i := 1038) (by decide +kernel)) (by decide +kernel)
theorem tw_1039 : Cond.code yX11_sum cX11_sum 3 (some .int) ∈ TW := tw_in (List.mem_of_getElem? (i := 1039) (by decide +kernel)) (by decide +kernel)
theorem tw_1040 : Cond.methodLink RX11 127 yX11_inner ∈ TW := tw_in (List.mem_of_getElem? (i := 1040) (by decide +kernel)) (by decide +kernel)
theorem tw_1042 : Cond.instanceMethod yX11_inner ∈ TW := tw_in (List.mem_of_getElem? (i := 1042) (by decide +kernel)) (by decide +kernel)
theorem tw_1043 : Cond.code yX11_inner cX11_inner 1 (some .int) ∈ TW := tw_in (List.mem_of_getElem? (i := 1043) (by decide +kernel)) (by decide +kernel)
theorem tw_1060 : Cond.methodLink RX11 130 yX11_hasChips ∈ TW := tw_in (List.mem_of_getElem? (i := 1060) (by decide +kernel)) (by decide +kernel)
theorem tw_1062 : Cond.instanceMethod yX11_hasChips ∈ TW := tw_in (List.mem_of_getElem? (i := 1062) (by decide +kernel)) (by decide +kernel)
theorem tw_1063 : Cond.code yX11_hasChips cX11_hasChips 2 (some .boolean) ∈ TW := tw_in (List.mem_of_getElem? (i := 1063) (by decide +kernel)) (by decide +kernel)
theorem tw_1064 : Cond.methodLink RX11 133 yX11_keepState ∈ TW := tw_in (List.mem_of_getElem? (i := 1064) (by decide +kernel)) (by decide +kernel)
theorem tw_1066 : Cond.instanceMethod yX11_keepState ∈ TW := tw_in (List.mem_of_getElem? (i := 1066) (by decide +kernel)) (by decide +kernel)
theorem tw_1067 : Cond.code yX11_keepState cX11_keepState 2 none ∈ TW := tw_in (List.mem_of_getElem? (i := 1067) (by decide +kernel)) (by decide +kernel)
theorem tw_1076 : Cond.methodLink RX11 136 yX11_canFire ∈ TW := tw_in (List.mem_of_getElem? (i := 1076) (by decide +kernel)) (by decide +kernel)
theorem tw_1078 : Cond.instanceMethod yX11_canFire ∈ TW := tw_in (List.mem_of_getElem? (i := 1078) (by decide +kernel)) (by decide +kernel)
theorem tw_1079 : Cond.code yX11_canFire cX11_canFire 3 (some .boolean) ∈ TW := tw_in (List.mem_of_getElem? (i := 1079) (by decide +kernel)) (by decide +kernel)
theorem tw_1080 : Cond.methodLink RX11 140 yX11_fireTimes ∈ TW := tw_in (List.mem_of_getElem? (i := 1080) (by decide +kernel)) (by decide +kernel)
theorem tw_1082 : Cond.instanceMethod yX11_fireTimes ∈ TW := tw_in (List.mem_of_getElem? (i := 1082) (by decide +kernel)) (by decide +kernel)
theorem tw_1083 : Cond.code yX11_fireTimes cX11_fireTimes 5 none ∈ TW := tw_in (List.mem_of_getElem? (i := 1083) (by decide +kernel)) (by decide +kernel)
theorem tw_1088 : Cond.methodLink RX11 144 yX11_settle ∈ TW := tw_in (List.mem_of_getElem? (i := 1088) (by decide +kernel)) (by decide +kernel)
theorem tw_1090 : Cond.instanceMethod yX11_settle ∈ TW := tw_in (List.mem_of_getElem? (i := 1090) (by decide +kernel)) (by decide +kernel)
theorem tw_1091 : Cond.code yX11_settle cX11_settle 6 (some .int) ∈ TW := tw_in (List.mem_of_getElem? (i := 1091) (by decide +kernel)) (by decide +kernel)
theorem tw_1096 : Cond.methodLink RX11 148 yX11_copy ∈ TW := tw_in (List.mem_of_getElem? (i := 1096) (by decide +kernel)) (by decide +kernel)
theorem tw_1098 : Cond.instanceMethod yX11_copy ∈ TW := tw_in (List.mem_of_getElem? (i := 1098) (by decide +kernel)) (by decide +kernel)
theorem tw_1099 : Cond.code yX11_copy cX11_copy 4 none ∈ TW := tw_in (List.mem_of_getElem? (i := 1099) (by decide +kernel)) (by decide +kernel)
theorem tw_1104 : Cond.methodLink RX11 167 yX11_lower ∈ TW := tw_in (List.mem_of_getElem? (i := 1104) (by decide +kernel)) (by decide +kernel)
theorem tw_1106 : Cond.instanceMethod yX11_lower ∈ TW := tw_in (List.mem_of_getElem? (i := 1106) (by decide +kernel)) (by decide +kernel)
theorem tw_1107 : Cond.code yX11_lower cX11_lower 3 (some .int) ∈ TW := tw_in (List.mem_of_getElem? (i := 1107) (by decide +kernel)) (by decide +kernel)
theorem tw_1108 : Cond.methodLink RX11 152 yX11_burn ∈ TW := tw_in (List.mem_of_getElem? (i := 1108) (by decide +kernel)) (by decide +kernel)
theorem tw_1110 : Cond.instanceMethod yX11_burn ∈ TW := tw_in (List.mem_of_getElem? (i := 1110) (by decide +kernel)) (by decide +kernel)
theorem tw_1111 : Cond.code yX11_burn cX11_burn 8 none ∈ TW := tw_in (List.mem_of_getElem? (i := 1111) (by decide +kernel)) (by decide +kernel)
theorem tw_1112 : Cond.methodLink RX11 156 yX11_allBurn ∈ TW := tw_in (List.mem_of_getElem? (i := 1112) (by decide +kernel)) (by decide +kernel)
theorem tw_1114 : Cond.instanceMethod yX11_allBurn ∈ TW := tw_in (List.mem_of_getElem? (i := 1114) (by decide +kernel)) (by decide +kernel)
theorem tw_1115 : Cond.code yX11_allBurn cX11_allBurn 3 (some .boolean) ∈ TW := tw_in (List.mem_of_getElem? (i := 1115) (by decide +kernel)) (by decide +kernel)
theorem tw_1116 : Cond.methodLink RX11 163 yX11_fireSet ∈ TW := tw_in (List.mem_of_getElem? (i := 1116) (by decide +kernel)) (by decide +kernel)
theorem tw_1118 : Cond.instanceMethod yX11_fireSet ∈ TW := tw_in (List.mem_of_getElem? (i := 1118) (by decide +kernel)) (by decide +kernel)
theorem tw_1119 : Cond.code yX11_fireSet cX11_fireSet 4 none ∈ TW := tw_in (List.mem_of_getElem? (i := 1119) (by decide +kernel)) (by decide +kernel)
theorem tw_1124 : Cond.methodLink RX11 170 yX11_raise ∈ TW := tw_in (List.mem_of_getElem? (i := 1124) (by decide +kernel)) (by decide +kernel)
theorem tw_1126 : Cond.instanceMethod yX11_raise ∈ TW := tw_in (List.mem_of_getElem? (i := 1126) (by decide +kernel)) (by decide +kernel)
theorem tw_1127 : Cond.code yX11_raise cX11_raise 3 none ∈ TW := tw_in (List.mem_of_getElem? (i := 1127) (by decide +kernel)) (by decide +kernel)
theorem tw_1128 : Cond.methodLink RX11 173 yX11_areSame ∈ TW := tw_in (List.mem_of_getElem? (i := 1128) (by decide +kernel)) (by decide +kernel)
theorem tw_1129 : Cond.static yX11_areSame ∈ TW := tw_in (List.mem_of_getElem? (i := 1129) (by decide +kernel)) (by decide +kernel)
theorem tw_1130 : Cond.code yX11_areSame cX11_areSame 4 (some .boolean) ∈ TW := tw_in (List.mem_of_getElem? (i := 1130) (by decide +kernel)) (by decide +kernel)
theorem tw_1135 : Cond.methodLink RX11 159 yX11_isStable ∈ TW := tw_in (List.mem_of_getElem? (i := 1135) (by decide +kernel)) (by decide +kernel)
theorem tw_1137 : Cond.instanceMethod yX11_isStable ∈ TW := tw_in (List.mem_of_getElem? (i := 1137) (by decide +kernel)) (by decide +kernel)
theorem tw_1138 : Cond.code yX11_isStable cX11_isStable 4 (some .boolean) ∈ TW := tw_in (List.mem_of_getElem? (i := 1138) (by decide +kernel)) (by decide +kernel)
theorem tw_1139 : Cond.methodLink RX11 177 yX11_isRecurrent ∈ TW := tw_in (List.mem_of_getElem? (i := 1139) (by decide +kernel)) (by decide +kernel)
theorem tw_1141 : Cond.instanceMethod yX11_isRecurrent ∈ TW := tw_in (List.mem_of_getElem? (i := 1141) (by decide +kernel)) (by decide +kernel)
theorem tw_1142 : Cond.code yX11_isRecurrent cX11_isRecurrent 2 (some .boolean) ∈ TW := tw_in (List.mem_of_getElem? (i := 1142) (by decide +kernel)) (by decide +kernel)
theorem tw_1143 : Cond.methodLink RX11 180 yX11_isSuperstable ∈ TW := tw_in (List.mem_of_getElem? (i := 1143) (by decide +kernel)) (by decide +kernel)
theorem tw_1145 : Cond.instanceMethod yX11_isSuperstable ∈ TW := tw_in (List.mem_of_getElem? (i := 1145) (by decide +kernel)) (by decide +kernel)
theorem tw_1146 : Cond.code yX11_isSuperstable cX11_isSuperstable 2 (some .boolean) ∈ TW := tw_in (List.mem_of_getElem? (i := 1146) (by decide +kernel)) (by decide +kernel)
theorem tw_1155 : Cond.methodLink RX11 183 yX11_noSlot ∈ TW := tw_in (List.mem_of_getElem? (i := 1155) (by decide +kernel)) (by decide +kernel)
theorem tw_1156 : Cond.static yX11_noSlot ∈ TW := tw_in (List.mem_of_getElem? (i := 1156) (by decide +kernel)) (by decide +kernel)
theorem tw_1157 : Cond.code yX11_noSlot cX11_noSlot 1 (some .boolean) ∈ TW := tw_in (List.mem_of_getElem? (i := 1157) (by decide +kernel)) (by decide +kernel)
theorem tw_1174 : Cond.methodLink RX11 210 yX11_smith ∈ TW := tw_in (List.mem_of_getElem? (i := 1174) (by decide +kernel)) (by decide +kernel)
theorem tw_1176 : Cond.instanceMethod yX11_smith ∈ TW := tw_in (List.mem_of_getElem? (i := 1176) (by decide +kernel)) (by decide +kernel)
theorem tw_1177 : Cond.code yX11_smith cX11_smith 4 none ∈ TW := tw_in (List.mem_of_getElem? (i := 1177) (by decide +kernel)) (by decide +kernel)
theorem tw_1178 : Cond.methodLink RX11 200 yX11_layMatrix ∈ TW := tw_in (List.mem_of_getElem? (i := 1178) (by decide +kernel)) (by decide +kernel)
theorem tw_1180 : Cond.instanceMethod yX11_layMatrix ∈ TW := tw_in (List.mem_of_getElem? (i := 1180) (by decide +kernel)) (by decide +kernel)
theorem tw_1181 : Cond.code yX11_layMatrix cX11_layMatrix 5 none ∈ TW := tw_in (List.mem_of_getElem? (i := 1181) (by decide +kernel)) (by decide +kernel)
theorem tw_1182 : Cond.methodLink RX11 203 yX11_bringLeast ∈ TW := tw_in (List.mem_of_getElem? (i := 1182) (by decide +kernel)) (by decide +kernel)
theorem tw_1184 : Cond.instanceMethod yX11_bringLeast ∈ TW := tw_in (List.mem_of_getElem? (i := 1184) (by decide +kernel)) (by decide +kernel)
theorem tw_1185 : Cond.code yX11_bringLeast cX11_bringLeast 6 (some .boolean) ∈ TW := tw_in (List.mem_of_getElem? (i := 1185) (by decide +kernel)) (by decide +kernel)
theorem tw_1186 : Cond.methodLink RX11 186 yX11_size ∈ TW := tw_in (List.mem_of_getElem? (i := 1186) (by decide +kernel)) (by decide +kernel)
theorem tw_1187 : Cond.static yX11_size ∈ TW := tw_in (List.mem_of_getElem? (i := 1187) (by decide +kernel)) (by decide +kernel)
theorem tw_1188 : Cond.code yX11_size cX11_size 2 (some .long) ∈ TW := tw_in (List.mem_of_getElem? (i := 1188) (by decide +kernel)) (by decide +kernel)
theorem tw_1189 : Cond.methodLink RX11 190 yX11_swap ∈ TW := tw_in (List.mem_of_getElem? (i := 1189) (by decide +kernel)) (by decide +kernel)
theorem tw_1191 : Cond.instanceMethod yX11_swap ∈ TW := tw_in (List.mem_of_getElem? (i := 1191) (by decide +kernel)) (by decide +kernel)
theorem tw_1192 : Cond.code yX11_swap cX11_swap 9 none ∈ TW := tw_in (List.mem_of_getElem? (i := 1192) (by decide +kernel)) (by decide +kernel)
theorem tw_1193 : Cond.methodLink RX11 207 yX11_isDone ∈ TW := tw_in (List.mem_of_getElem? (i := 1193) (by decide +kernel)) (by decide +kernel)
theorem tw_1195 : Cond.instanceMethod yX11_isDone ∈ TW := tw_in (List.mem_of_getElem? (i := 1195) (by decide +kernel)) (by decide +kernel)
theorem tw_1196 : Cond.code yX11_isDone cX11_isDone 6 (some .boolean) ∈ TW := tw_in (List.mem_of_getElem? (i := 1196) (by decide +kernel)) (by decide +kernel)
theorem tw_1197 : Cond.methodLink RX11 194 yX11_lessen ∈ TW := tw_in (List.mem_of_getElem? (i := 1197) (by decide +kernel)) (by decide +kernel)
theorem tw_1199 : Cond.instanceMethod yX11_lessen ∈ TW := tw_in (List.mem_of_getElem? (i := 1199) (by decide +kernel)) (by decide +kernel)
theorem tw_1200 : Cond.code yX11_lessen cX11_lessen 9 none ∈ TW := tw_in (List.mem_of_getElem? (i := 1200) (by decide +kernel)) (by decide +kernel)
theorem tw_1201 : Cond.constantLong RX11 198 (Int64.ofInt (-1)) ∈ TW := tw_in (List.mem_of_getElem? (i := 1201) (by decide +kernel)) (by decide +kernel)
theorem tw_1206 : Cond.methodLink RX11 213 yX11_lost ∈ TW := tw_in (List.mem_of_getElem? (i := 1206) (by decide +kernel)) (by decide +kernel)
theorem tw_1207 : Cond.static yX11_lost ∈ TW := tw_in (List.mem_of_getElem? (i := 1207) (by decide +kernel)) (by decide +kernel)
theorem tw_1208 : Cond.code yX11_lost cX11_lost 0 (some .long) ∈ TW := tw_in (List.mem_of_getElem? (i := 1208) (by decide +kernel)) (by decide +kernel)
theorem tw_1209 : Cond.constantLong RX11 75 (Int64.ofInt (-9223372036854775808)) ∈ TW := tw_in (List.mem_of_getElem? (i := 1209) (by decide +kernel)) (by decide +kernel)
theorem tw_1218 : Cond.methodLink RX11 217 yX11_isEmpty ∈ TW := tw_in (List.mem_of_getElem? (i := 1218) (by decide +kernel)) (by decide +kernel)
theorem tw_1219 : Cond.static yX11_isEmpty ∈ TW := tw_in (List.mem_of_getElem? (i := 1219) (by decide +kernel)) (by decide +kernel)
theorem tw_1220 : Cond.code yX11_isEmpty cX11_isEmpty 3 (some .boolean) ∈ TW := tw_in (List.mem_of_getElem? (i := 1220) (by decide +kernel)) (by decide +kernel)
theorem tw_1229 : Cond.methodLink RX11 220 yX11_countLevels ∈ TW := tw_in (List.mem_of_getElem? (i := 1229) (by decide +kernel)) (by decide +kernel)
theorem tw_1231 : Cond.instanceMethod yX11_countLevels ∈ TW := tw_in (List.mem_of_getElem? (i := 1231) (by decide +kernel)) (by decide +kernel)
theorem tw_1232 : Cond.code yX11_countLevels cX11_countLevels 7 none ∈ TW := tw_in (List.mem_of_getElem? (i := 1232) (by decide +kernel)) (by decide +kernel)
theorem tw_1237 : Cond.methodLink RX11 223 yX11_follow ∈ TW := tw_in (List.mem_of_getElem? (i := 1237) (by decide +kernel)) (by decide +kernel)
theorem tw_1239 : Cond.instanceMethod yX11_follow ∈ TW := tw_in (List.mem_of_getElem? (i := 1239) (by decide +kernel)) (by decide +kernel)
theorem tw_1240 : Cond.code yX11_follow cX11_follow 9 (some .int) ∈ TW := tw_in (List.mem_of_getElem? (i := 1240) (by decide +kernel)) (by decide +kernel)
theorem tw_1245 : Cond.methodLink RX11 230 yX11_isTree ∈ TW := tw_in (List.mem_of_getElem? (i := 1245) (by decide +kernel)) (by decide +kernel)
theorem tw_1247 : Cond.instanceMethod yX11_isTree ∈ TW := tw_in (List.mem_of_getElem? (i := 1247) (by decide +kernel)) (by decide +kernel)
theorem tw_1248 : Cond.code yX11_isTree cX11_isTree 7 (some .boolean) ∈ TW := tw_in (List.mem_of_getElem? (i := 1248) (by decide +kernel)) (by decide +kernel)
theorem tw_1249 : Cond.methodLink RX11 227 yX11_bits ∈ TW := tw_in (List.mem_of_getElem? (i := 1249) (by decide +kernel)) (by decide +kernel)
theorem tw_1250 : Cond.static yX11_bits ∈ TW := tw_in (List.mem_of_getElem? (i := 1250) (by decide +kernel)) (by decide +kernel)
theorem tw_1251 : Cond.code yX11_bits cX11_bits 3 (some .int) ∈ TW := tw_in (List.mem_of_getElem? (i := 1251) (by decide +kernel)) (by decide +kernel)
theorem inw_X10 : ∀ w ∈ u_ws RX10 TX10 12, w ∈ TW := fun w h => tw_in ((show ∀ w ∈ u_ws RX10 TX10 12, w ∈ lw_tbl from by decide +kernel) w h) ((show ∀ w ∈ u_ws RX10 TX10 12, goodWord w = true from by decide +kernel) w h)
theorem inw_X2 : ∀ w ∈ u_ws RX2 TX2 8, w ∈ TW := fun w h => tw_in ((show ∀ w ∈ u_ws RX2 TX2 8, w ∈ lw_tbl from by decide +kernel) w h) ((show ∀ w ∈ u_ws RX2 TX2 8, goodWord w = true from by decide +kernel) w h)
theorem inw_X8 : ∀ w ∈ u_ws RX8 TX8 2, w ∈ TW := fun w h => tw_in ((show ∀ w ∈ u_ws RX8 TX8 2, w ∈ lw_tbl from by decide +kernel) w h) ((show ∀ w ∈ u_ws RX8 TX8 2, goodWord w = true from by decide +kernel) w h)
theorem inw_X3 : ∀ w ∈ u_ws RX3 TX3 3, w ∈ TW := fun w h => tw_in ((show ∀ w ∈ u_ws RX3 TX3 3, w ∈ lw_tbl from by decide +kernel) w h) ((show ∀ w ∈ u_ws RX3 TX3 3, goodWord w = true from by decide +kernel) w h)
theorem inw_X7 : ∀ w ∈ u_ws RX7 TX7 2, w ∈ TW := fun w h => tw_in ((show ∀ w ∈ u_ws RX7 TX7 2, w ∈ lw_tbl from by decide +kernel) w h) ((show ∀ w ∈ u_ws RX7 TX7 2, goodWord w = true from by decide +kernel) w h)
theorem inw_X0 : ∀ w ∈ u_ws RX0 TX0 3, w ∈ TW := fun w h => tw_in ((show ∀ w ∈ u_ws RX0 TX0 3, w ∈ lw_tbl from by decide +kernel) w h) ((show ∀ w ∈ u_ws RX0 TX0 3, goodWord w = true from by decide +kernel) w h)
theorem inw_X1 : ∀ w ∈ u_ws RX1 TX1 3, w ∈ TW := fun w h => tw_in ((show ∀ w ∈ u_ws RX1 TX1 3, w ∈ lw_tbl from by decide +kernel) w h) ((show ∀ w ∈ u_ws RX1 TX1 3, goodWord w = true from by decide +kernel) w h)
theorem inw_X5 : ∀ w ∈ u_ws RX5 TX5 5, w ∈ TW := fun w h => tw_in ((show ∀ w ∈ u_ws RX5 TX5 5, w ∈ lw_tbl from by decide +kernel) w h) ((show ∀ w ∈ u_ws RX5 TX5 5, goodWord w = true from by decide +kernel) w h)
theorem inw_X9 : ∀ w ∈ u_ws RX9 TX9 3, w ∈ TW := fun w h => tw_in ((show ∀ w ∈ u_ws RX9 TX9 3, w ∈ lw_tbl from by decide +kernel) w h) ((show ∀ w ∈ u_ws RX9 TX9 3, goodWord w = true from by decide +kernel) w h)
theorem inw_X4 : ∀ w ∈ u_ws RX4 TX4 4, w ∈ TW := fun w h => tw_in ((show ∀ w ∈ u_ws RX4 TX4 4, w ∈ lw_tbl from by decide +kernel) w h) ((show ∀ w ∈ u_ws RX4 TX4 4, goodWord w = true from by decide +kernel) w h)
theorem inw_X11 : ∀ w ∈ u_ws RX11 TX11 24, w ∈ TW := fun w h => tw_in ((show ∀ w ∈ u_ws RX11 TX11 24, w ∈ lw_tbl from by decide +kernel) w h) ((show ∀ w ∈ u_ws RX11 TX11 24, goodWord w = true from by decide +kernel) w h)
end
section
/-! the contracts and rooms of all methods -/
abbrev K_Gr_clear (x1 : Int) (s : Sto) (Q : Sto → Prop) : Prop := SpV SC yX2_clear (Cond.code yX2_clear cX2_clear 4 none) { frames := 0, cells := 0, slots := 0, locals := 0 } [.ref 1, iV x1] s Q
abbrev M_Gr_clear : Mth := (cX2_clear, RX2, 4, none, { frames := 0, cells := 0, slots := 0, locals := 0 })
abbrev K_Gr_append (x1 : Int) (x2 : Int) (s : Sto) (Q : Sto → Prop) : Prop := SpV SC yX2_append (Cond.code yX2_append cX2_append 3 none) { frames := 2, cells := 0, slots := 0, locals := 44 } [.ref 1, iV x1, iV x2] s Q
abbrev M_Gr_append : Mth := (cX2_append, RX2, 3, none, { frames := 2, cells := 0, slots := 0, locals := 44 })
abbrev K_Gr_hasNode (x1 : Int) (s : Sto) (Q : Int → Sto → Prop) : Prop := SpI SC yX2_hasNode (Cond.code yX2_hasNode cX2_hasNode 2 (some .boolean)) { frames := 0, cells := 0, slots := 0, locals := 0 } [.ref 1, iV x1] s Q
abbrev M_Gr_hasNode : Mth := (cX2_hasNode, RX2, 2, (some .boolean), { frames := 0, cells := 0, slots := 0, locals := 0 })
abbrev K_Gr_countJoining (x1 : Int) (x2 : Int) (x3 : Int) (s : Sto) (Q : Sto → Prop) : Prop := SpV SC yX2_countJoining (Cond.code yX2_countJoining cX2_countJoining 4 none) { frames := 1, cells := 0, slots := 0, locals := 21 } [.ref 1, iV x1, iV x2, iV x3] s Q
abbrev M_Gr_countJoining : Mth := (cX2_countJoining, RX2, 4, none, { frames := 1, cells := 0, slots := 0, locals := 21 })
abbrev K_Cg_reset (x1 : Int) (s : Sto) (Q : Int → Sto → Prop) : Prop := SpI SC yX10_reset (Cond.code yX10_reset cX10_reset 3 (some .int)) { frames := 3, cells := 0, slots := 0, locals := 62 } [.ref 0, iV x1] s Q
abbrev M_Cg_reset : Mth := (cX10_reset, RX10, 3, (some .int), { frames := 3, cells := 0, slots := 0, locals := 62 })
abbrev K_Cg_startAnew (x1 : Int) (s : Sto) (Q : Sto → Prop) : Prop := SpV SC yX10_startAnew (Cond.code yX10_startAnew cX10_startAnew 2 none) { frames := 2, cells := 0, slots := 0, locals := 41 } [.ref 0, iV x1] s Q
abbrev M_Cg_startAnew : Mth := (cX10_startAnew, RX10, 2, none, { frames := 2, cells := 0, slots := 0, locals := 41 })
abbrev K_Cg_clearChips (k0 : Nat) (s : Sto) (Q : Sto → Prop) : Prop := SpV SC yX10_clearChips (Cond.code yX10_clearChips cX10_clearChips 2 none) { frames := 0, cells := 0, slots := 0, locals := 0 } [.ref k0] s Q
abbrev M_Cg_clearChips : Mth := (cX10_clearChips, RX10, 2, none, { frames := 0, cells := 0, slots := 0, locals := 0 })
abbrev K_Cg_forgetStates (s : Sto) (Q : Sto → Prop) : Prop := SpV SC yX10_forgetStates (Cond.code yX10_forgetStates cX10_forgetStates 1 none) { frames := 1, cells := 0, slots := 0, locals := 21 } [.ref 0] s Q
abbrev M_Cg_forgetStates : Mth := (cX10_forgetStates, RX10, 1, none, { frames := 1, cells := 0, slots := 0, locals := 21 })
abbrev K_Hi_forgetAll (s : Sto) (Q : Sto → Prop) : Prop := SpV SC yX3_forgetAll (Cond.code yX3_forgetAll cX3_forgetAll 1 none) { frames := 0, cells := 0, slots := 0, locals := 0 } [.ref 3] s Q
abbrev M_Hi_forgetAll : Mth := (cX3_forgetAll, RX3, 1, none, { frames := 0, cells := 0, slots := 0, locals := 0 })
abbrev K_Sl_forgetAll (s : Sto) (Q : Sto → Prop) : Prop := SpV SC yX7_forgetAll (Cond.code yX7_forgetAll cX7_forgetAll 2 none) { frames := 0, cells := 0, slots := 0, locals := 0 } [.ref 4] s Q
abbrev M_Sl_forgetAll : Mth := (cX7_forgetAll, RX7, 2, none, { frames := 0, cells := 0, slots := 0, locals := 0 })
abbrev K_Cg_addEdge (x1 : Int) (x2 : Int) (s : Sto) (Q : Int → Sto → Prop) : Prop := SpI SC yX10_addEdge (Cond.code yX10_addEdge cX10_addEdge 3 (some .int)) { frames := 3, cells := 0, slots := 0, locals := 66 } [.ref 0, iV x1, iV x2] s Q
abbrev M_Cg_addEdge : Mth := (cX10_addEdge, RX10, 3, (some .int), { frames := 3, cells := 0, slots := 0, locals := 66 })
abbrev K_Cg_removeEdge (x1 : Int) (s : Sto) (Q : Int → Sto → Prop) : Prop := SpI SC yX10_removeEdge (Cond.code yX10_removeEdge cX10_removeEdge 2 (some .int)) { frames := 3, cells := 0, slots := 0, locals := 66 } [.ref 0, iV x1] s Q
abbrev M_Cg_removeEdge : Mth := (cX10_removeEdge, RX10, 2, (some .int), { frames := 3, cells := 0, slots := 0, locals := 66 })
abbrev K_Gr_hasEdge (x1 : Int) (s : Sto) (Q : Int → Sto → Prop) : Prop := SpI SC yX2_hasEdge (Cond.code yX2_hasEdge cX2_hasEdge 2 (some .boolean)) { frames := 0, cells := 0, slots := 0, locals := 0 } [.ref 1, iV x1] s Q
abbrev M_Gr_hasEdge : Mth := (cX2_hasEdge, RX2, 2, (some .boolean), { frames := 0, cells := 0, slots := 0, locals := 0 })
abbrev K_Gr_drop (x1 : Int) (s : Sto) (Q : Sto → Prop) : Prop := SpV SC yX2_drop (Cond.code yX2_drop cX2_drop 3 none) { frames := 2, cells := 0, slots := 0, locals := 44 } [.ref 1, iV x1] s Q
abbrev M_Gr_drop : Mth := (cX2_drop, RX2, 3, none, { frames := 2, cells := 0, slots := 0, locals := 44 })
abbrev K_Cg_setSink (x1 : Int) (s : Sto) (Q : Int → Sto → Prop) : Prop := SpI SC yX10_setSink (Cond.code yX10_setSink cX10_setSink 3 (some .int)) { frames := 2, cells := 0, slots := 0, locals := 41 } [.ref 0, iV x1] s Q
abbrev M_Cg_setSink : Mth := (cX10_setSink, RX10, 3, (some .int), { frames := 2, cells := 0, slots := 0, locals := 41 })
abbrev K_Cg_type (x1 : Int) (s : Sto) (Q : Int → Sto → Prop) : Prop := SpI SC yX10_type (Cond.code yX10_type cX10_type 2 (some .int)) { frames := 1, cells := 0, slots := 0, locals := 21 } [.ref 0, iV x1] s Q
abbrev M_Cg_type : Mth := (cX10_type, RX10, 2, (some .int), { frames := 1, cells := 0, slots := 0, locals := 21 })
abbrev K_Tx_append (x1 : Int) (s : Sto) (Q : Sto → Prop) : Prop := SpV SC yX8_append (Cond.code yX8_append cX8_append 2 none) { frames := 0, cells := 0, slots := 0, locals := 0 } [.ref 2, iV x1] s Q
abbrev M_Tx_append : Mth := (cX8_append, RX8, 2, none, { frames := 0, cells := 0, slots := 0, locals := 0 })
abbrev K_Cg_clearText (s : Sto) (Q : Int → Sto → Prop) : Prop := SpI SC yX10_clearText (Cond.code yX10_clearText cX10_clearText 2 (some .int)) { frames := 0, cells := 0, slots := 0, locals := 0 } [.ref 0] s Q
abbrev M_Cg_clearText : Mth := (cX10_clearText, RX10, 2, (some .int), { frames := 0, cells := 0, slots := 0, locals := 0 })
abbrev K_Cg_readGraph (s : Sto) (Q : Int → Sto → Prop) : Prop := SpI SC yX10_readGraph (Cond.code yX10_readGraph cX10_readGraph 3 (some .int)) { frames := 7, cells := 0, slots := 0, locals := 149 } [.ref 0] s Q
abbrev M_Cg_readGraph : Mth := (cX10_readGraph, RX10, 3, (some .int), { frames := 7, cells := 0, slots := 0, locals := 149 })
abbrev K_Tx_findShape (s : Sto) (Q : Int → Sto → Prop) : Prop := SpI SC yX8_findShape (Cond.code yX8_findShape cX8_findShape 2 (some .int)) { frames := 6, cells := 0, slots := 0, locals := 128 } [.ref 2] s Q
abbrev M_Tx_findShape : Mth := (cX8_findShape, RX8, 2, (some .int), { frames := 6, cells := 0, slots := 0, locals := 128 })
abbrev K_Sh_nameOf (x0 : Int) (s : Sto) (Q : Nat → Sto → Prop) : Prop := SpR SC yX6_nameOf (Cond.code yX6_nameOf cX6_nameOf 1 (some (.object "java/lang/String"))) { frames := 0, cells := 0, slots := 0, locals := 0 } [iV x0] s Q
abbrev M_Sh_nameOf : Mth := (cX6_nameOf, RX6, 1, (some (.object "java/lang/String")), { frames := 0, cells := 0, slots := 0, locals := 0 })
abbrev K_Tx_isNameAndSign (k1 : Nat) (s : Sto) (Q : Int → Sto → Prop) : Prop := SpI SC yX8_isNameAndSign (Cond.code yX8_isNameAndSign cX8_isNameAndSign 3 (some .boolean)) { frames := 5, cells := 0, slots := 0, locals := 106 } [.ref 2, .ref k1] s Q
abbrev M_Tx_isNameAndSign : Mth := (cX8_isNameAndSign, RX8, 3, (some .boolean), { frames := 5, cells := 0, slots := 0, locals := 106 })
abbrev K_Tx_lastDigit (s : Sto) (Q : Int → Sto → Prop) : Prop := SpI SC yX8_lastDigit (Cond.code yX8_lastDigit cX8_lastDigit 2 (some .int)) { frames := 0, cells := 0, slots := 0, locals := 0 } [.ref 2] s Q
abbrev M_Tx_lastDigit : Mth := (cX8_lastDigit, RX8, 2, (some .int), { frames := 0, cells := 0, slots := 0, locals := 0 })
abbrev K_Sh_allows (x0 : Int) (x1 : Int) (s : Sto) (Q : Int → Sto → Prop) : Prop := SpI SC yX6_allows (Cond.code yX6_allows cX6_allows 2 (some .boolean)) { frames := 0, cells := 0, slots := 0, locals := 0 } [iV x0, iV x1] s Q
abbrev M_Sh_allows : Mth := (cX6_allows, RX6, 2, (some .boolean), { frames := 0, cells := 0, slots := 0, locals := 0 })
abbrev K_Sh_draw (x1 : Int) (x2 : Int) (s : Sto) (Q : Sto → Prop) : Prop := SpV SC yX6_draw (Cond.code yX6_draw cX6_draw 4 none) { frames := 4, cells := 0, slots := 0, locals := 89 } [.ref 1, iV x1, iV x2] s Q
abbrev M_Sh_draw : Mth := (cX6_draw, RX6, 4, none, { frames := 4, cells := 0, slots := 0, locals := 89 })
abbrev K_Sh_drawPath (x1 : Int) (x2 : Int) (s : Sto) (Q : Sto → Prop) : Prop := SpV SC yX6_drawPath (Cond.code yX6_drawPath cX6_drawPath 4 none) { frames := 3, cells := 0, slots := 0, locals := 66 } [.ref 1, iV x1, iV x2] s Q
abbrev M_Sh_drawPath : Mth := (cX6_drawPath, RX6, 4, none, { frames := 3, cells := 0, slots := 0, locals := 66 })
abbrev K_Sh_drawRays (x1 : Int) (x2 : Int) (s : Sto) (Q : Sto → Prop) : Prop := SpV SC yX6_drawRays (Cond.code yX6_drawRays cX6_drawRays 4 none) { frames := 3, cells := 0, slots := 0, locals := 66 } [.ref 1, iV x1, iV x2] s Q
abbrev M_Sh_drawRays : Mth := (cX6_drawRays, RX6, 4, none, { frames := 3, cells := 0, slots := 0, locals := 66 })
abbrev K_Cg_value (x1 : Int) (s : Sto) (Q : Int → Sto → Prop) : Prop := SpI SC yX10_value (Cond.code yX10_value cX10_value 2 (some .int)) { frames := 3, cells := 0, slots := 0, locals := 68 } [.ref 0, iV x1] s Q
abbrev M_Cg_value : Mth := (cX10_value, RX10, 2, (some .int), { frames := 3, cells := 0, slots := 0, locals := 68 })
abbrev K_Gr_isConnected (s : Sto) (Q : Int → Sto → Prop) : Prop := SpI SC yX2_isConnected (Cond.code yX2_isConnected cX2_isConnected 1 (some .boolean)) { frames := 2, cells := 0, slots := 0, locals := 48 } [.ref 1] s Q
abbrev M_Gr_isConnected : Mth := (cX2_isConnected, RX2, 1, (some .boolean), { frames := 2, cells := 0, slots := 0, locals := 48 })
abbrev K_Gr_allEdges (s : Sto) (Q : Int → Sto → Prop) : Prop := SpI SC yX2_allEdges (Cond.code yX2_allEdges cX2_allEdges 1 (some .int)) { frames := 0, cells := 0, slots := 0, locals := 0 } [.ref 1] s Q
abbrev M_Gr_allEdges : Mth := (cX2_allEdges, RX2, 1, (some .int), { frames := 0, cells := 0, slots := 0, locals := 0 })
abbrev K_Gr_findParts (x1 : Int) (s : Sto) (Q : Int → Sto → Prop) : Prop := SpI SC yX2_findParts (Cond.code yX2_findParts cX2_findParts 6 (some .int)) { frames := 1, cells := 0, slots := 0, locals := 23 } [.ref 1, iV x1] s Q
abbrev M_Gr_findParts : Mth := (cX2_findParts, RX2, 6, (some .int), { frames := 1, cells := 0, slots := 0, locals := 23 })
abbrev K_Gr_relabel (x1 : Int) (x2 : Int) (s : Sto) (Q : Sto → Prop) : Prop := SpV SC yX2_relabel (Cond.code yX2_relabel cX2_relabel 4 none) { frames := 0, cells := 0, slots := 0, locals := 0 } [.ref 1, iV x1, iV x2] s Q
abbrev M_Gr_relabel : Mth := (cX2_relabel, RX2, 4, none, { frames := 0, cells := 0, slots := 0, locals := 0 })
abbrev K_Cg_sumOf (k0 : Nat) (s : Sto) (Q : Int → Sto → Prop) : Prop := SpI SC yX10_sumOf (Cond.code yX10_sumOf cX10_sumOf 3 (some .int)) { frames := 0, cells := 0, slots := 0, locals := 0 } [.ref k0] s Q
abbrev M_Cg_sumOf : Mth := (cX10_sumOf, RX10, 3, (some .int), { frames := 0, cells := 0, slots := 0, locals := 0 })
abbrev K_Gr_edgesAwayFromSink (s : Sto) (Q : Int → Sto → Prop) : Prop := SpI SC yX2_edgesAwayFromSink (Cond.code yX2_edgesAwayFromSink cX2_edgesAwayFromSink 1 (some .int)) { frames := 2, cells := 0, slots := 0, locals := 42 } [.ref 1] s Q
abbrev M_Gr_edgesAwayFromSink : Mth := (cX2_edgesAwayFromSink, RX2, 1, (some .int), { frames := 2, cells := 0, slots := 0, locals := 42 })
abbrev K_Gr_degreeOf (x1 : Int) (s : Sto) (Q : Int → Sto → Prop) : Prop := SpI SC yX2_degreeOf (Cond.code yX2_degreeOf cX2_degreeOf 2 (some .int)) { frames := 1, cells := 0, slots := 0, locals := 21 } [.ref 1, iV x1] s Q
abbrev M_Gr_degreeOf : Mth := (cX2_degreeOf, RX2, 2, (some .int), { frames := 1, cells := 0, slots := 0, locals := 21 })
abbrev K_Cg_degree (x1 : Int) (s : Sto) (Q : Int → Sto → Prop) : Prop := SpI SC yX10_degree (Cond.code yX10_degree cX10_degree 2 (some .int)) { frames := 2, cells := 0, slots := 0, locals := 42 } [.ref 0, iV x1] s Q
abbrev M_Cg_degree : Mth := (cX10_degree, RX10, 2, (some .int), { frames := 2, cells := 0, slots := 0, locals := 42 })
abbrev K_Cg_edge (x1 : Int) (x2 : Int) (s : Sto) (Q : Int → Sto → Prop) : Prop := SpI SC yX10_edge (Cond.code yX10_edge cX10_edge 3 (some .int)) { frames := 1, cells := 0, slots := 0, locals := 21 } [.ref 0, iV x1, iV x2] s Q
abbrev M_Cg_edge : Mth := (cX10_edge, RX10, 3, (some .int), { frames := 1, cells := 0, slots := 0, locals := 21 })
abbrev K_Cg_setChips (x1 : Int) (x2 : Int) (s : Sto) (Q : Int → Sto → Prop) : Prop := SpI SC yX10_setChips (Cond.code yX10_setChips cX10_setChips 4 (some .int)) { frames := 2, cells := 0, slots := 0, locals := 43 } [.ref 0, iV x1, iV x2] s Q
abbrev M_Cg_setChips : Mth := (cX10_setChips, RX10, 4, (some .int), { frames := 2, cells := 0, slots := 0, locals := 43 })
abbrev K_Gr_hasChipsAt (x1 : Int) (s : Sto) (Q : Int → Sto → Prop) : Prop := SpI SC yX2_hasChipsAt (Cond.code yX2_hasChipsAt cX2_hasChipsAt 2 (some .boolean)) { frames := 1, cells := 0, slots := 0, locals := 21 } [.ref 1, iV x1] s Q
abbrev M_Gr_hasChipsAt : Mth := (cX2_hasChipsAt, RX2, 2, (some .boolean), { frames := 1, cells := 0, slots := 0, locals := 21 })
abbrev K_Hi_record (k1 : Nat) (s : Sto) (Q : Sto → Prop) : Prop := SpV SC yX3_record (Cond.code yX3_record cX3_record 2 none) { frames := 1, cells := 0, slots := 0, locals := 22 } [.ref 3, .ref k1] s Q
abbrev M_Hi_record : Mth := (cX3_record, RX3, 2, none, { frames := 1, cells := 0, slots := 0, locals := 22 })
abbrev K_Cg_copyChips (k0 : Nat) (k1 : Nat) (s : Sto) (Q : Sto → Prop) : Prop := SpV SC yX10_copyChips (Cond.code yX10_copyChips cX10_copyChips 3 none) { frames := 0, cells := 0, slots := 0, locals := 0 } [.ref k0, .ref k1] s Q
abbrev M_Cg_copyChips : Mth := (cX10_copyChips, RX10, 3, none, { frames := 0, cells := 0, slots := 0, locals := 0 })
abbrev K_Cg_chips (x1 : Int) (s : Sto) (Q : Int → Sto → Prop) : Prop := SpI SC yX10_chips (Cond.code yX10_chips cX10_chips 2 (some .int)) { frames := 2, cells := 0, slots := 0, locals := 42 } [.ref 0, iV x1] s Q
abbrev M_Cg_chips : Mth := (cX10_chips, RX10, 2, (some .int), { frames := 2, cells := 0, slots := 0, locals := 42 })
abbrev K_Cg_fire (x1 : Int) (s : Sto) (Q : Int → Sto → Prop) : Prop := SpI SC yX10_fire (Cond.code yX10_fire cX10_fire 2 (some .int)) { frames := 3, cells := 0, slots := 0, locals := 65 } [.ref 0, iV x1] s Q
abbrev M_Cg_fire : Mth := (cX10_fire, RX10, 2, (some .int), { frames := 3, cells := 0, slots := 0, locals := 65 })
abbrev K_Fi_canFire (k1 : Nat) (x2 : Int) (s : Sto) (Q : Int → Sto → Prop) : Prop := SpI SC yX1_canFire (Cond.code yX1_canFire cX1_canFire 4 (some .boolean)) { frames := 2, cells := 0, slots := 0, locals := 42 } [.ref 6, .ref k1, iV x2] s Q
abbrev M_Fi_canFire : Mth := (cX1_canFire, RX1, 4, (some .boolean), { frames := 2, cells := 0, slots := 0, locals := 42 })
abbrev K_Fi_give (k1 : Nat) (x2 : Int) (x3 : Int) (s : Sto) (Q : Sto → Prop) : Prop := SpV SC yX1_give (Cond.code yX1_give cX1_give 5 none) { frames := 1, cells := 0, slots := 0, locals := 25 } [.ref 6, .ref k1, iV x2, iV x3] s Q
abbrev M_Fi_give : Mth := (cX1_give, RX1, 5, none, { frames := 1, cells := 0, slots := 0, locals := 25 })
abbrev K_Fi_giveAlong (k1 : Nat) (x2 : Int) (x3 : Int) (x4 : Int) (s : Sto) (Q : Sto → Prop) : Prop := SpV SC yX1_giveAlong (Cond.code yX1_giveAlong cX1_giveAlong 6 none) { frames := 0, cells := 0, slots := 0, locals := 0 } [.ref 6, .ref k1, iV x2, iV x3, iV x4] s Q
abbrev M_Fi_giveAlong : Mth := (cX1_giveAlong, RX1, 6, none, { frames := 0, cells := 0, slots := 0, locals := 0 })
abbrev K_Cg_stabilize (s : Sto) (Q : Int → Sto → Prop) : Prop := SpI SC yX10_stabilize (Cond.code yX10_stabilize cX10_stabilize 1 (some .int)) { frames := 5, cells := 0, slots := 0, locals := 114 } [.ref 0] s Q
abbrev M_Cg_stabilize : Mth := (cX10_stabilize, RX10, 1, (some .int), { frames := 5, cells := 0, slots := 0, locals := 114 })
abbrev K_Fi_settle (k1 : Nat) (s : Sto) (Q : Int → Sto → Prop) : Prop := SpI SC yX1_settle (Cond.code yX1_settle cX1_settle 6 (some .int)) { frames := 4, cells := 0, slots := 0, locals := 89 } [.ref 6, .ref k1] s Q
abbrev M_Fi_settle : Mth := (cX1_settle, RX1, 6, (some .int), { frames := 4, cells := 0, slots := 0, locals := 89 })
abbrev K_Fi_fireWhilePossible (k1 : Nat) (x2 : Int) (s : Sto) (Q : Int → Sto → Prop) : Prop := SpI SC yX1_fireWhilePossible (Cond.code yX1_fireWhilePossible cX1_fireWhilePossible 5 (some .int)) { frames := 3, cells := 0, slots := 0, locals := 65 } [.ref 6, .ref k1, iV x2] s Q
abbrev M_Fi_fireWhilePossible : Mth := (cX1_fireWhilePossible, RX1, 5, (some .int), { frames := 3, cells := 0, slots := 0, locals := 65 })
abbrev K_Cg_firings (x1 : Int) (s : Sto) (Q : Int → Sto → Prop) : Prop := SpI SC yX10_firings (Cond.code yX10_firings cX10_firings 2 (some .int)) { frames := 5, cells := 0, slots := 0, locals := 114 } [.ref 0, iV x1] s Q
abbrev M_Cg_firings : Mth := (cX10_firings, RX10, 2, (some .int), { frames := 5, cells := 0, slots := 0, locals := 114 })
abbrev K_Cg_reduce (s : Sto) (Q : Int → Sto → Prop) : Prop := SpI SC yX10_reduce (Cond.code yX10_reduce cX10_reduce 1 (some .int)) { frames := 5, cells := 0, slots := 0, locals := 114 } [.ref 0] s Q
abbrev M_Cg_reduce : Mth := (cX10_reduce, RX10, 1, (some .int), { frames := 5, cells := 0, slots := 0, locals := 114 })
abbrev K_Fi_fireSets (k1 : Nat) (s : Sto) (Q : Int → Sto → Prop) : Prop := SpI SC yX1_fireSets (Cond.code yX1_fireSets cX1_fireSets 3 (some .int)) { frames := 4, cells := 0, slots := 0, locals := 91 } [.ref 6, .ref k1] s Q
abbrev M_Fi_fireSets : Mth := (cX1_fireSets, RX1, 3, (some .int), { frames := 4, cells := 0, slots := 0, locals := 91 })
abbrev K_Bu_allBurnBySecondRule (k1 : Nat) (s : Sto) (Q : Int → Sto → Prop) : Prop := SpI SC yX0_allBurnBySecondRule (Cond.code yX0_allBurnBySecondRule cX0_allBurnBySecondRule 3 (some .boolean)) { frames := 3, cells := 0, slots := 0, locals := 69 } [.ref 5, .ref k1] s Q
abbrev M_Bu_allBurnBySecondRule : Mth := (cX0_allBurnBySecondRule, RX0, 3, (some .boolean), { frames := 3, cells := 0, slots := 0, locals := 69 })
abbrev K_Bu_spreadFire (s : Sto) (Q : Int → Sto → Prop) : Prop := SpI SC yX0_spreadFire (Cond.code yX0_spreadFire cX0_spreadFire 3 (some .boolean)) { frames := 2, cells := 0, slots := 0, locals := 47 } [.ref 5] s Q
abbrev M_Bu_spreadFire : Mth := (cX0_spreadFire, RX0, 3, (some .boolean), { frames := 2, cells := 0, slots := 0, locals := 47 })
abbrev K_Bu_burnRound (x1 : Int) (s : Sto) (Q : Int → Sto → Prop) : Prop := SpI SC yX0_burnRound (Cond.code yX0_burnRound cX0_burnRound 4 (some .int)) { frames := 1, cells := 0, slots := 0, locals := 24 } [.ref 5, iV x1] s Q
abbrev M_Bu_burnRound : Mth := (cX0_burnRound, RX0, 4, (some .int), { frames := 1, cells := 0, slots := 0, locals := 24 })
abbrev K_Bu_edgesToBurnt (x1 : Int) (x2 : Int) (s : Sto) (Q : Int → Sto → Prop) : Prop := SpI SC yX0_edgesToBurnt (Cond.code yX0_edgesToBurnt cX0_edgesToBurnt 5 (some .int)) { frames := 0, cells := 0, slots := 0, locals := 0 } [.ref 5, iV x1, iV x2] s Q
abbrev M_Bu_edgesToBurnt : Mth := (cX0_edgesToBurnt, RX0, 5, (some .int), { frames := 0, cells := 0, slots := 0, locals := 0 })
abbrev K_Fi_fireUnburnt (k1 : Nat) (s : Sto) (Q : Sto → Prop) : Prop := SpV SC yX1_fireUnburnt (Cond.code yX1_fireUnburnt cX1_fireUnburnt 4 none) { frames := 2, cells := 0, slots := 0, locals := 42 } [.ref 6, .ref k1] s Q
abbrev M_Fi_fireUnburnt : Mth := (cX1_fireUnburnt, RX1, 4, none, { frames := 2, cells := 0, slots := 0, locals := 42 })
abbrev K_Bu_hasBurnt (x1 : Int) (s : Sto) (Q : Int → Sto → Prop) : Prop := SpI SC yX0_hasBurnt (Cond.code yX0_hasBurnt cX0_hasBurnt 2 (some .boolean)) { frames := 1, cells := 0, slots := 0, locals := 21 } [.ref 5, iV x1] s Q
abbrev M_Bu_hasBurnt : Mth := (cX0_hasBurnt, RX0, 2, (some .boolean), { frames := 1, cells := 0, slots := 0, locals := 21 })
abbrev K_Cg_makeRecurrent (s : Sto) (Q : Int → Sto → Prop) : Prop := SpI SC yX10_makeRecurrent (Cond.code yX10_makeRecurrent cX10_makeRecurrent 1 (some .int)) { frames := 6, cells := 0, slots := 0, locals := 135 } [.ref 0] s Q
abbrev M_Cg_makeRecurrent : Mth := (cX10_makeRecurrent, RX10, 1, (some .int), { frames := 6, cells := 0, slots := 0, locals := 135 })
abbrev K_Fi_toRecurrent (k1 : Nat) (s : Sto) (Q : Sto → Prop) : Prop := SpV SC yX1_toRecurrent (Cond.code yX1_toRecurrent cX1_toRecurrent 2 none) { frames := 5, cells := 0, slots := 0, locals := 114 } [.ref 6, .ref k1] s Q
abbrev M_Fi_toRecurrent : Mth := (cX1_toRecurrent, RX1, 2, none, { frames := 5, cells := 0, slots := 0, locals := 114 })
abbrev K_Fi_mirror (k1 : Nat) (s : Sto) (Q : Sto → Prop) : Prop := SpV SC yX1_mirror (Cond.code yX1_mirror cX1_mirror 3 none) { frames := 2, cells := 0, slots := 0, locals := 42 } [.ref 6, .ref k1] s Q
abbrev M_Fi_mirror : Mth := (cX1_mirror, RX1, 3, none, { frames := 2, cells := 0, slots := 0, locals := 42 })
abbrev K_Cg_isEqual (k0 : Nat) (k1 : Nat) (s : Sto) (Q : Int → Sto → Prop) : Prop := SpI SC yX10_isEqual (Cond.code yX10_isEqual cX10_isEqual 3 (some .boolean)) { frames := 0, cells := 0, slots := 0, locals := 0 } [.ref k0, .ref k1] s Q
abbrev M_Cg_isEqual : Mth := (cX10_isEqual, RX10, 3, (some .boolean), { frames := 0, cells := 0, slots := 0, locals := 0 })
abbrev K_Cg_kind (s : Sto) (Q : Int → Sto → Prop) : Prop := SpI SC yX10_kind (Cond.code yX10_kind cX10_kind 2 (some .int)) { frames := 5, cells := 0, slots := 0, locals := 111 } [.ref 0] s Q
abbrev M_Cg_kind : Mth := (cX10_kind, RX10, 2, (some .int), { frames := 5, cells := 0, slots := 0, locals := 111 })
abbrev K_Fi_isStable (k1 : Nat) (s : Sto) (Q : Int → Sto → Prop) : Prop := SpI SC yX1_isStable (Cond.code yX1_isStable cX1_isStable 3 (some .boolean)) { frames := 3, cells := 0, slots := 0, locals := 65 } [.ref 6, .ref k1] s Q
abbrev M_Fi_isStable : Mth := (cX1_isStable, RX1, 3, (some .boolean), { frames := 3, cells := 0, slots := 0, locals := 65 })
abbrev K_Cg_isRecurrent (s : Sto) (Q : Int → Sto → Prop) : Prop := SpI SC yX10_isRecurrent (Cond.code yX10_isRecurrent cX10_isRecurrent 1 (some .boolean)) { frames := 4, cells := 0, slots := 0, locals := 91 } [.ref 0] s Q
abbrev M_Cg_isRecurrent : Mth := (cX10_isRecurrent, RX10, 1, (some .boolean), { frames := 4, cells := 0, slots := 0, locals := 91 })
abbrev K_Bu_allBurn (k1 : Nat) (s : Sto) (Q : Int → Sto → Prop) : Prop := SpI SC yX0_allBurn (Cond.code yX0_allBurn cX0_allBurn 3 (some .boolean)) { frames := 3, cells := 0, slots := 0, locals := 69 } [.ref 5, .ref k1] s Q
abbrev M_Bu_allBurn : Mth := (cX0_allBurn, RX0, 3, (some .boolean), { frames := 3, cells := 0, slots := 0, locals := 69 })
abbrev K_Cg_burnt (x1 : Int) (s : Sto) (Q : Int → Sto → Prop) : Prop := SpI SC yX10_burnt (Cond.code yX10_burnt cX10_burnt 2 (some .int)) { frames := 4, cells := 0, slots := 0, locals := 91 } [.ref 0, iV x1] s Q
abbrev M_Cg_burnt : Mth := (cX10_burnt, RX10, 2, (some .int), { frames := 4, cells := 0, slots := 0, locals := 91 })
abbrev K_Cg_undo (s : Sto) (Q : Int → Sto → Prop) : Prop := SpI SC yX10_undo (Cond.code yX10_undo cX10_undo 1 (some .int)) { frames := 2, cells := 0, slots := 0, locals := 43 } [.ref 0] s Q
abbrev M_Cg_undo : Mth := (cX10_undo, RX10, 1, (some .int), { frames := 2, cells := 0, slots := 0, locals := 43 })
abbrev K_Hi_takeBack (k1 : Nat) (s : Sto) (Q : Sto → Prop) : Prop := SpV SC yX3_takeBack (Cond.code yX3_takeBack cX3_takeBack 2 none) { frames := 1, cells := 0, slots := 0, locals := 22 } [.ref 3, .ref k1] s Q
abbrev M_Hi_takeBack : Mth := (cX3_takeBack, RX3, 2, none, { frames := 1, cells := 0, slots := 0, locals := 22 })
abbrev K_Cg_keep (x1 : Int) (s : Sto) (Q : Int → Sto → Prop) : Prop := SpI SC yX10_keep (Cond.code yX10_keep cX10_keep 3 (some .int)) { frames := 2, cells := 0, slots := 0, locals := 44 } [.ref 0, iV x1] s Q
abbrev M_Cg_keep : Mth := (cX10_keep, RX10, 3, (some .int), { frames := 2, cells := 0, slots := 0, locals := 44 })
abbrev K_Sl_has (x1 : Int) (s : Sto) (Q : Int → Sto → Prop) : Prop := SpI SC yX7_has (Cond.code yX7_has cX7_has 2 (some .boolean)) { frames := 0, cells := 0, slots := 0, locals := 0 } [.ref 4, iV x1] s Q
abbrev M_Sl_has : Mth := (cX7_has, RX7, 2, (some .boolean), { frames := 0, cells := 0, slots := 0, locals := 0 })
abbrev K_Sl_isEmpty (x1 : Int) (s : Sto) (Q : Int → Sto → Prop) : Prop := SpI SC yX7_isEmpty (Cond.code yX7_isEmpty cX7_isEmpty 2 (some .boolean)) { frames := 1, cells := 0, slots := 0, locals := 21 } [.ref 4, iV x1] s Q
abbrev M_Sl_isEmpty : Mth := (cX7_isEmpty, RX7, 2, (some .boolean), { frames := 1, cells := 0, slots := 0, locals := 21 })
abbrev K_Sl_put (x1 : Int) (k2 : Nat) (s : Sto) (Q : Sto → Prop) : Prop := SpV SC yX7_put (Cond.code yX7_put cX7_put 3 none) { frames := 1, cells := 0, slots := 0, locals := 22 } [.ref 4, iV x1, .ref k2] s Q
abbrev M_Sl_put : Mth := (cX7_put, RX7, 3, none, { frames := 1, cells := 0, slots := 0, locals := 22 })
abbrev K_Cg_load (x1 : Int) (s : Sto) (Q : Int → Sto → Prop) : Prop := SpI SC yX10_load (Cond.code yX10_load cX10_load 2 (some .int)) { frames := 2, cells := 0, slots := 0, locals := 44 } [.ref 0, iV x1] s Q
abbrev M_Cg_load : Mth := (cX10_load, RX10, 2, (some .int), { frames := 2, cells := 0, slots := 0, locals := 44 })
abbrev K_Sl_copyTo (x1 : Int) (k2 : Nat) (s : Sto) (Q : Sto → Prop) : Prop := SpV SC yX7_copyTo (Cond.code yX7_copyTo cX7_copyTo 3 none) { frames := 1, cells := 0, slots := 0, locals := 22 } [.ref 4, iV x1, .ref k2] s Q
abbrev M_Sl_copyTo : Mth := (cX7_copyTo, RX7, 3, none, { frames := 1, cells := 0, slots := 0, locals := 22 })
abbrev K_Cg_add (x1 : Int) (s : Sto) (Q : Int → Sto → Prop) : Prop := SpI SC yX10_add (Cond.code yX10_add cX10_add 3 (some .int)) { frames := 2, cells := 0, slots := 0, locals := 44 } [.ref 0, iV x1] s Q
abbrev M_Cg_add : Mth := (cX10_add, RX10, 3, (some .int), { frames := 2, cells := 0, slots := 0, locals := 44 })
abbrev K_Cg_isSameClass (x1 : Int) (s : Sto) (Q : Int → Sto → Prop) : Prop := SpI SC yX10_isSameClass (Cond.code yX10_isSameClass cX10_isSameClass 2 (some .int)) { frames := 6, cells := 0, slots := 0, locals := 135 } [.ref 0, iV x1] s Q
abbrev M_Cg_isSameClass : Mth := (cX10_isSameClass, RX10, 2, (some .int), { frames := 6, cells := 0, slots := 0, locals := 135 })
abbrev K_Cg_treeCount (s : Sto) (Q : Int → Sto → Prop) : Prop := SpJ SC yX10_treeCount (Cond.code yX10_treeCount cX10_treeCount 1 (some .long)) { frames := 5, cells := 0, slots := 0, locals := 110 } [.ref 0] s Q
abbrev M_Cg_treeCount : Mth := (cX10_treeCount, RX10, 1, (some .long), { frames := 5, cells := 0, slots := 0, locals := 110 })
abbrev K_Tr_count (x1 : Int) (x2 : Int) (s : Sto) (Q : Int → Sto → Prop) : Prop := SpJ SC yX9_count (Cond.code yX9_count cX9_count 3 (some .long)) { frames := 4, cells := 0, slots := 0, locals := 88 } [.ref 8, iV x1, iV x2] s Q
abbrev M_Tr_count : Mth := (cX9_count, RX9, 3, (some .long), { frames := 4, cells := 0, slots := 0, locals := 88 })
abbrev K_Ma_fill (x1 : Int) (s : Sto) (Q : Sto → Prop) : Prop := SpV SC yX5_fill (Cond.code yX5_fill cX5_fill 5 none) { frames := 3, cells := 0, slots := 0, locals := 64 } [.ref 7, iV x1] s Q
abbrev M_Ma_fill : Mth := (cX5_fill, RX5, 5, none, { frames := 3, cells := 0, slots := 0, locals := 64 })
abbrev K_Ma_isFree (x1 : Int) (s : Sto) (Q : Int → Sto → Prop) : Prop := SpI SC yX5_isFree (Cond.code yX5_isFree cX5_isFree 2 (some .boolean)) { frames := 1, cells := 0, slots := 0, locals := 21 } [.ref 7, iV x1] s Q
abbrev M_Ma_isFree : Mth := (cX5_isFree, RX5, 2, (some .boolean), { frames := 1, cells := 0, slots := 0, locals := 21 })
abbrev K_Ma_fillEdge (x1 : Int) (x2 : Int) (s : Sto) (Q : Sto → Prop) : Prop := SpV SC yX5_fillEdge (Cond.code yX5_fillEdge cX5_fillEdge 3 none) { frames := 2, cells := 0, slots := 0, locals := 42 } [.ref 7, iV x1, iV x2] s Q
abbrev M_Ma_fillEdge : Mth := (cX5_fillEdge, RX5, 3, none, { frames := 2, cells := 0, slots := 0, locals := 42 })
abbrev K_Ma_eliminate (s : Sto) (Q : Int → Sto → Prop) : Prop := SpJ SC yX5_eliminate (Cond.code yX5_eliminate cX5_eliminate 7 (some .long)) { frames := 1, cells := 0, slots := 0, locals := 29 } [.ref 7] s Q
abbrev M_Ma_eliminate : Mth := (cX5_eliminate, RX5, 7, (some .long), { frames := 1, cells := 0, slots := 0, locals := 29 })
abbrev K_Ma_combineRows (x1 : Int) (x2 : Int) (x3 : Int) (s : Sto) (Q : Sto → Prop) : Prop := SpV SC yX5_combineRows (Cond.code yX5_combineRows cX5_combineRows 10 none) { frames := 0, cells := 0, slots := 0, locals := 0 } [.ref 7, iV x1, iV x2, jV x3] s Q
abbrev M_Ma_combineRows : Mth := (cX5_combineRows, RX5, 10, none, { frames := 0, cells := 0, slots := 0, locals := 0 })
abbrev K_Cg_identity (x1 : Int) (s : Sto) (Q : Int → Sto → Prop) : Prop := SpI SC yX10_identity (Cond.code yX10_identity cX10_identity 2 (some .int)) { frames := 6, cells := 0, slots := 0, locals := 135 } [.ref 0, iV x1] s Q
abbrev M_Cg_identity : Mth := (cX10_identity, RX10, 2, (some .int), { frames := 6, cells := 0, slots := 0, locals := 135 })
abbrev K_Cg_order (s : Sto) (Q : Int → Sto → Prop) : Prop := SpI SC yX10_order (Cond.code yX10_order cX10_order 1 (some .int)) { frames := 6, cells := 0, slots := 0, locals := 134 } [.ref 0] s Q
abbrev M_Cg_order : Mth := (cX10_order, RX10, 1, (some .int), { frames := 6, cells := 0, slots := 0, locals := 134 })
abbrev K_Ma_orderOf (k1 : Nat) (s : Sto) (Q : Int → Sto → Prop) : Prop := SpJ SC yX5_orderOf (Cond.code yX5_orderOf cX5_orderOf 7 (some .long)) { frames := 5, cells := 0, slots := 0, locals := 108 } [.ref 7, .ref k1] s Q
abbrev M_Ma_orderOf : Mth := (cX5_orderOf, RX5, 7, (some .long), { frames := 5, cells := 0, slots := 0, locals := 108 })
abbrev K_Ma_fillWhole (s : Sto) (Q : Sto → Prop) : Prop := SpV SC yX5_fillWhole (Cond.code yX5_fillWhole cX5_fillWhole 1 none) { frames := 4, cells := 0, slots := 0, locals := 88 } [.ref 7] s Q
abbrev M_Ma_fillWhole : Mth := (cX5_fillWhole, RX5, 1, none, { frames := 4, cells := 0, slots := 0, locals := 88 })
abbrev K_Ma_commonDivisor (x0 : Int) (x2 : Int) (s : Sto) (Q : Int → Sto → Prop) : Prop := SpJ SC yX5_commonDivisor (Cond.code yX5_commonDivisor cX5_commonDivisor 11 (some .long)) { frames := 1, cells := 0, slots := 0, locals := 21 } [jV x0, jV x2] s Q
abbrev M_Ma_commonDivisor : Mth := (cX5_commonDivisor, RX5, 11, (some .long), { frames := 1, cells := 0, slots := 0, locals := 21 })
abbrev K_JM_abs (x0 : Int) (s : Sto) (Q : Int → Sto → Prop) : Prop := SpJ SC yJ9_abs_067f4 (Cond.code yJ9_abs_067f4 cJ9_abs_067f4 2 (some .long)) { frames := 0, cells := 0, slots := 0, locals := 0 } [jV x0] s Q
abbrev M_JM_abs : Mth := (cJ9_abs_067f4, RJ9, 2, (some .long), { frames := 0, cells := 0, slots := 0, locals := 0 })
abbrev K_Cg_factor (x1 : Int) (s : Sto) (Q : Int → Sto → Prop) : Prop := SpJ SC yX10_factor (Cond.code yX10_factor cX10_factor 2 (some .long)) { frames := 6, cells := 0, slots := 0, locals := 133 } [.ref 0, iV x1] s Q
abbrev M_Cg_factor : Mth := (cX10_factor, RX10, 2, (some .long), { frames := 6, cells := 0, slots := 0, locals := 133 })
abbrev K_Ma_findFactors (s : Sto) (Q : Sto → Prop) : Prop := SpV SC yX5_findFactors (Cond.code yX5_findFactors cX5_findFactors 6 none) { frames := 5, cells := 0, slots := 0, locals := 108 } [.ref 7] s Q
abbrev M_Ma_findFactors : Mth := (cX5_findFactors, RX5, 6, none, { frames := 5, cells := 0, slots := 0, locals := 108 })
abbrev K_JM_floorMod (x0 : Int) (x2 : Int) (s : Sto) (Q : Int → Sto → Prop) : Prop := SpJ SC yJ9_floorMod_f86c9 (Cond.code yJ9_floorMod_f86c9 cJ9_floorMod_f86c9 6 (some .long)) { frames := 0, cells := 0, slots := 0, locals := 0 } [jV x0, jV x2] s Q
abbrev M_JM_floorMod : Mth := (cJ9_floorMod_f86c9, RJ9, 6, (some .long), { frames := 0, cells := 0, slots := 0, locals := 0 })
abbrev K_Ma_clearAround (x1 : Int) (x2 : Int) (s : Sto) (Q : Sto → Prop) : Prop := SpV SC yX5_clearAround (Cond.code yX5_clearAround cX5_clearAround 7 none) { frames := 3, cells := 0, slots := 0, locals := 79 } [.ref 7, iV x1, jV x2] s Q
abbrev M_Ma_clearAround : Mth := (cX5_clearAround, RX5, 7, none, { frames := 3, cells := 0, slots := 0, locals := 79 })
abbrev K_Ma_bringLeastToCorner (x1 : Int) (s : Sto) (Q : Int → Sto → Prop) : Prop := SpI SC yX5_bringLeastToCorner (Cond.code yX5_bringLeastToCorner cX5_bringLeastToCorner 7 (some .boolean)) { frames := 1, cells := 0, slots := 0, locals := 25 } [.ref 7, iV x1] s Q
abbrev M_Ma_bringLeastToCorner : Mth := (cX5_bringLeastToCorner, RX5, 7, (some .boolean), { frames := 1, cells := 0, slots := 0, locals := 25 })
abbrev K_Ma_swapRows (x1 : Int) (x2 : Int) (s : Sto) (Q : Sto → Prop) : Prop := SpV SC yX5_swapRows (Cond.code yX5_swapRows cX5_swapRows 6 none) { frames := 0, cells := 0, slots := 0, locals := 0 } [.ref 7, iV x1, iV x2] s Q
abbrev M_Ma_swapRows : Mth := (cX5_swapRows, RX5, 6, none, { frames := 0, cells := 0, slots := 0, locals := 0 })
abbrev K_Ma_swapColumns (x1 : Int) (x2 : Int) (s : Sto) (Q : Sto → Prop) : Prop := SpV SC yX5_swapColumns (Cond.code yX5_swapColumns cX5_swapColumns 6 none) { frames := 0, cells := 0, slots := 0, locals := 0 } [.ref 7, iV x1, iV x2] s Q
abbrev M_Ma_swapColumns : Mth := (cX5_swapColumns, RX5, 6, none, { frames := 0, cells := 0, slots := 0, locals := 0 })
abbrev K_Ma_clearColumn (x1 : Int) (x2 : Int) (s : Sto) (Q : Int → Sto → Prop) : Prop := SpI SC yX5_clearColumn (Cond.code yX5_clearColumn cX5_clearColumn 8 (some .boolean)) { frames := 2, cells := 0, slots := 0, locals := 52 } [.ref 7, iV x1, jV x2] s Q
abbrev M_Ma_clearColumn : Mth := (cX5_clearColumn, RX5, 8, (some .boolean), { frames := 2, cells := 0, slots := 0, locals := 52 })
abbrev K_Ma_addRow (x1 : Int) (x2 : Int) (x3 : Int) (x5 : Int) (s : Sto) (Q : Sto → Prop) : Prop := SpV SC yX5_addRow (Cond.code yX5_addRow cX5_addRow 8 none) { frames := 1, cells := 0, slots := 0, locals := 25 } [.ref 7, iV x1, iV x2, jV x3, jV x5] s Q
abbrev M_Ma_addRow : Mth := (cX5_addRow, RX5, 8, none, { frames := 1, cells := 0, slots := 0, locals := 25 })
abbrev K_Ma_clearRow (x1 : Int) (x2 : Int) (s : Sto) (Q : Int → Sto → Prop) : Prop := SpI SC yX5_clearRow (Cond.code yX5_clearRow cX5_clearRow 8 (some .boolean)) { frames := 2, cells := 0, slots := 0, locals := 52 } [.ref 7, iV x1, jV x2] s Q
abbrev M_Ma_clearRow : Mth := (cX5_clearRow, RX5, 8, (some .boolean), { frames := 2, cells := 0, slots := 0, locals := 52 })
abbrev K_Ma_addColumn (x1 : Int) (x2 : Int) (x3 : Int) (x5 : Int) (s : Sto) (Q : Sto → Prop) : Prop := SpV SC yX5_addColumn (Cond.code yX5_addColumn cX5_addColumn 8 none) { frames := 1, cells := 0, slots := 0, locals := 25 } [.ref 7, iV x1, iV x2, jV x3, jV x5] s Q
abbrev M_Ma_addColumn : Mth := (cX5_addColumn, RX5, 8, none, { frames := 1, cells := 0, slots := 0, locals := 25 })
abbrev K_Ma_addUndividedRow (x1 : Int) (x2 : Int) (s : Sto) (Q : Int → Sto → Prop) : Prop := SpI SC yX5_addUndividedRow (Cond.code yX5_addUndividedRow cX5_addUndividedRow 8 (some .boolean)) { frames := 2, cells := 0, slots := 0, locals := 52 } [.ref 7, iV x1, jV x2] s Q
abbrev M_Ma_addUndividedRow : Mth := (cX5_addUndividedRow, RX5, 8, (some .boolean), { frames := 2, cells := 0, slots := 0, locals := 52 })
abbrev K_Cg_level (s : Sto) (Q : Int → Sto → Prop) : Prop := SpI SC yX10_level (Cond.code yX10_level cX10_level 1 (some .int)) { frames := 5, cells := 0, slots := 0, locals := 111 } [.ref 0] s Q
abbrev M_Cg_level : Mth := (cX10_level, RX10, 1, (some .int), { frames := 5, cells := 0, slots := 0, locals := 111 })
abbrev K_Cg_levelCount (x1 : Int) (s : Sto) (Q : Int → Sto → Prop) : Prop := SpI SC yX10_levelCount (Cond.code yX10_levelCount cX10_levelCount 2 (some .int)) { frames := 3, cells := 0, slots := 0, locals := 70 } [.ref 0, iV x1] s Q
abbrev M_Cg_levelCount : Mth := (cX10_levelCount, RX10, 2, (some .int), { frames := 3, cells := 0, slots := 0, locals := 70 })
abbrev K_Le_countAt (x1 : Int) (s : Sto) (Q : Int → Sto → Prop) : Prop := SpJ SC yX4_countAt (Cond.code yX4_countAt cX4_countAt 5 (some .long)) { frames := 2, cells := 0, slots := 0, locals := 46 } [.ref 9, iV x1] s Q
abbrev M_Le_countAt : Mth := (cX4_countAt, RX4, 5, (some .long), { frames := 2, cells := 0, slots := 0, locals := 46 })
abbrev K_Le_countEdgesInside (s : Sto) (Q : Sto → Prop) : Prop := SpV SC yX4_countEdgesInside (Cond.code yX4_countEdgesInside cX4_countEdgesInside 4 none) { frames := 0, cells := 0, slots := 0, locals := 0 } [.ref 9] s Q
abbrev M_Le_countEdgesInside : Mth := (cX4_countEdgesInside, RX4, 4, none, { frames := 0, cells := 0, slots := 0, locals := 0 })
abbrev K_Le_sumConnected (x1 : Int) (s : Sto) (Q : Sto → Prop) : Prop := SpV SC yX4_sumConnected (Cond.code yX4_sumConnected cX4_sumConnected 4 none) { frames := 1, cells := 0, slots := 0, locals := 23 } [.ref 9, iV x1] s Q
abbrev M_Le_sumConnected : Mth := (cX4_sumConnected, RX4, 4, none, { frames := 1, cells := 0, slots := 0, locals := 23 })
abbrev K_Le_subtractShifted (k0 : Nat) (k1 : Nat) (x2 : Int) (s : Sto) (Q : Sto → Prop) : Prop := SpV SC yX4_subtractShifted (Cond.code yX4_subtractShifted cX4_subtractShifted 4 none) { frames := 0, cells := 0, slots := 0, locals := 0 } [.ref k0, .ref k1, iV x2] s Q
abbrev M_Le_subtractShifted : Mth := (cX4_subtractShifted, RX4, 4, none, { frames := 0, cells := 0, slots := 0, locals := 0 })
abbrev K_Le_divideByYMinusOne (s : Sto) (Q : Sto → Prop) : Prop := SpV SC yX4_divideByYMinusOne (Cond.code yX4_divideByYMinusOne cX4_divideByYMinusOne 6 none) { frames := 0, cells := 0, slots := 0, locals := 0 } [.ref 9] s Q
abbrev M_Le_divideByYMinusOne : Mth := (cX4_divideByYMinusOne, RX4, 6, none, { frames := 0, cells := 0, slots := 0, locals := 0 })
abbrev K_Cg_tree (s : Sto) (Q : Int → Sto → Prop) : Prop := SpI SC yX10_tree (Cond.code yX10_tree cX10_tree 1 (some .int)) { frames := 5, cells := 0, slots := 0, locals := 111 } [.ref 0] s Q
abbrev M_Cg_tree : Mth := (cX10_tree, RX10, 1, (some .int), { frames := 5, cells := 0, slots := 0, locals := 111 })
abbrev K_Tr_treeOf (k1 : Nat) (s : Sto) (Q : Int → Sto → Prop) : Prop := SpI SC yX9_treeOf (Cond.code yX9_treeOf cX9_treeOf 8 (some .int)) { frames := 2, cells := 0, slots := 0, locals := 45 } [.ref 8, .ref k1] s Q
abbrev M_Tr_treeOf : Mth := (cX9_treeOf, RX9, 8, (some .int), { frames := 2, cells := 0, slots := 0, locals := 45 })
abbrev K_Tr_lowestBorderEdge (x1 : Int) (x2 : Int) (s : Sto) (Q : Int → Sto → Prop) : Prop := SpI SC yX9_lowestBorderEdge (Cond.code yX9_lowestBorderEdge cX9_lowestBorderEdge 5 (some .int)) { frames := 1, cells := 0, slots := 0, locals := 21 } [.ref 8, iV x1, iV x2] s Q
abbrev M_Tr_lowestBorderEdge : Mth := (cX9_lowestBorderEdge, RX9, 5, (some .int), { frames := 1, cells := 0, slots := 0, locals := 21 })
abbrev K_Tr_isIn (x0 : Int) (x1 : Int) (s : Sto) (Q : Int → Sto → Prop) : Prop := SpI SC yX9_isIn (Cond.code yX9_isIn cX9_isIn 2 (some .boolean)) { frames := 0, cells := 0, slots := 0, locals := 0 } [iV x0, iV x1] s Q
abbrev M_Tr_isIn : Mth := (cX9_isIn, RX9, 2, (some .boolean), { frames := 0, cells := 0, slots := 0, locals := 0 })
abbrev K_Tr_unmarkedEnd (x1 : Int) (x2 : Int) (s : Sto) (Q : Int → Sto → Prop) : Prop := SpI SC yX9_unmarkedEnd (Cond.code yX9_unmarkedEnd cX9_unmarkedEnd 3 (some .int)) { frames := 1, cells := 0, slots := 0, locals := 21 } [.ref 8, iV x1, iV x2] s Q
abbrev M_Tr_unmarkedEnd : Mth := (cX9_unmarkedEnd, RX9, 3, (some .int), { frames := 1, cells := 0, slots := 0, locals := 21 })
abbrev K_Cg_takeTree (x1 : Int) (s : Sto) (Q : Int → Sto → Prop) : Prop := SpI SC yX10_takeTree (Cond.code yX10_takeTree cX10_takeTree 2 (some .int)) { frames := 3, cells := 0, slots := 0, locals := 72 } [.ref 0, iV x1] s Q
abbrev M_Cg_takeTree : Mth := (cX10_takeTree, RX10, 2, (some .int), { frames := 3, cells := 0, slots := 0, locals := 72 })
abbrev K_Gr_isSpanningTree (x1 : Int) (s : Sto) (Q : Int → Sto → Prop) : Prop := SpI SC yX2_isSpanningTree (Cond.code yX2_isSpanningTree cX2_isSpanningTree 2 (some .boolean)) { frames := 2, cells := 0, slots := 0, locals := 48 } [.ref 1, iV x1] s Q
abbrev M_Gr_isSpanningTree : Mth := (cX2_isSpanningTree, RX2, 2, (some .boolean), { frames := 2, cells := 0, slots := 0, locals := 48 })
abbrev K_JI_bitCount (x0 : Int) (s : Sto) (Q : Int → Sto → Prop) : Prop := SpI SC yJ6_bitCount_0f7a4 (Cond.code yJ6_bitCount_0f7a4 cJ6_bitCount_0f7a4 1 (some .int)) { frames := 0, cells := 0, slots := 0, locals := 0 } [iV x0] s Q
abbrev M_JI_bitCount : Mth := (cJ6_bitCount_0f7a4, RJ6, 1, (some .int), { frames := 0, cells := 0, slots := 0, locals := 0 })
abbrev K_Tr_toStateOf (x1 : Int) (k2 : Nat) (s : Sto) (Q : Sto → Prop) : Prop := SpV SC yX9_toStateOf (Cond.code yX9_toStateOf cX9_toStateOf 8 none) { frames := 2, cells := 0, slots := 0, locals := 45 } [.ref 8, iV x1, .ref k2] s Q
abbrev M_Tr_toStateOf : Mth := (cX9_toStateOf, RX9, 8, none, { frames := 2, cells := 0, slots := 0, locals := 45 })
abbrev K_Cg_treeAt (x1 : Int) (s : Sto) (Q : Int → Sto → Prop) : Prop := SpI SC yX10_treeAt (Cond.code yX10_treeAt cX10_treeAt 2 (some .int)) { frames := 6, cells := 0, slots := 0, locals := 139 } [.ref 0, iV x1] s Q
abbrev M_Cg_treeAt : Mth := (cX10_treeAt, RX10, 2, (some .int), { frames := 6, cells := 0, slots := 0, locals := 139 })
abbrev K_Tr_treeNumbered (x1 : Int) (s : Sto) (Q : Int → Sto → Prop) : Prop := SpI SC yX9_treeNumbered (Cond.code yX9_treeNumbered cX9_treeNumbered 10 (some .int)) { frames := 5, cells := 0, slots := 0, locals := 110 } [.ref 8, iV x1] s Q
abbrev M_Tr_treeNumbered : Mth := (cX9_treeNumbered, RX9, 10, (some .int), { frames := 5, cells := 0, slots := 0, locals := 110 })
abbrev K_Mo_begin (x1 : Int) (s : Sto) (Q : Sto → Prop) : Prop := SpV SM yX11_begin (Cond.code yX11_begin cX11_begin 3 none) { frames := 1, cells := 0, slots := 0, locals := 21 } [.ref 0, iV x1] s Q
abbrev M_Mo_begin : Mth := (cX11_begin, RX11, 3, none, { frames := 1, cells := 0, slots := 0, locals := 21 })
abbrev K_Mo_changed (s : Sto) (Q : Sto → Prop) : Prop := SpV SM yX11_changed (Cond.code yX11_changed cX11_changed 2 none) { frames := 0, cells := 0, slots := 0, locals := 0 } [.ref 0] s Q
abbrev M_Mo_changed : Mth := (cX11_changed, RX11, 2, none, { frames := 0, cells := 0, slots := 0, locals := 0 })
abbrev K_Mo_join (x1 : Int) (x2 : Int) (s : Sto) (Q : Sto → Prop) : Prop := SpV SM yX11_join (Cond.code yX11_join cX11_join 3 none) { frames := 1, cells := 0, slots := 0, locals := 21 } [.ref 0, iV x1, iV x2] s Q
abbrev M_Mo_join : Mth := (cX11_join, RX11, 3, none, { frames := 1, cells := 0, slots := 0, locals := 21 })
abbrev K_Mo_reset (x1 : Int) (s : Sto) (Q : Int → Sto → Prop) : Prop := SpI SM yX11_reset (Cond.code yX11_reset cX11_reset 3 (some .int)) { frames := 2, cells := 0, slots := 0, locals := 43 } [.ref 0, iV x1] s Q
abbrev M_Mo_reset : Mth := (cX11_reset, RX11, 3, (some .int), { frames := 2, cells := 0, slots := 0, locals := 43 })
abbrev K_Mo_in (x0 : Int) (x1 : Int) (x2 : Int) (s : Sto) (Q : Int → Sto → Prop) : Prop := SpI SM yX11_in (Cond.code yX11_in cX11_in 3 (some .boolean)) { frames := 0, cells := 0, slots := 0, locals := 0 } [iV x0, iV x1, iV x2] s Q
abbrev M_Mo_in : Mth := (cX11_in, RX11, 3, (some .boolean), { frames := 0, cells := 0, slots := 0, locals := 0 })
abbrev K_Mo_addEdge (x1 : Int) (x2 : Int) (s : Sto) (Q : Int → Sto → Prop) : Prop := SpI SM yX11_addEdge (Cond.code yX11_addEdge cX11_addEdge 3 (some .int)) { frames := 2, cells := 0, slots := 0, locals := 43 } [.ref 0, iV x1, iV x2] s Q
abbrev M_Mo_addEdge : Mth := (cX11_addEdge, RX11, 3, (some .int), { frames := 2, cells := 0, slots := 0, locals := 43 })
abbrev K_Mo_isNode (x1 : Int) (s : Sto) (Q : Int → Sto → Prop) : Prop := SpI SM yX11_isNode (Cond.code yX11_isNode cX11_isNode 2 (some .boolean)) { frames := 1, cells := 0, slots := 0, locals := 22 } [.ref 0, iV x1] s Q
abbrev M_Mo_isNode : Mth := (cX11_isNode, RX11, 2, (some .boolean), { frames := 1, cells := 0, slots := 0, locals := 22 })
abbrev K_Mo_removeEdge (x1 : Int) (s : Sto) (Q : Int → Sto → Prop) : Prop := SpI SM yX11_removeEdge (Cond.code yX11_removeEdge cX11_removeEdge 3 (some .int)) { frames := 1, cells := 0, slots := 0, locals := 22 } [.ref 0, iV x1] s Q
abbrev M_Mo_removeEdge : Mth := (cX11_removeEdge, RX11, 3, (some .int), { frames := 1, cells := 0, slots := 0, locals := 22 })
abbrev K_Mo_setSink (x1 : Int) (s : Sto) (Q : Int → Sto → Prop) : Prop := SpI SM yX11_setSink (Cond.code yX11_setSink cX11_setSink 3 (some .int)) { frames := 2, cells := 0, slots := 0, locals := 43 } [.ref 0, iV x1] s Q
abbrev M_Mo_setSink : Mth := (cX11_setSink, RX11, 3, (some .int), { frames := 2, cells := 0, slots := 0, locals := 43 })
abbrev K_Mo_type (x1 : Int) (s : Sto) (Q : Int → Sto → Prop) : Prop := SpI SM yX11_type (Cond.code yX11_type cX11_type 2 (some .int)) { frames := 0, cells := 0, slots := 0, locals := 0 } [.ref 0, iV x1] s Q
abbrev M_Mo_type : Mth := (cX11_type, RX11, 2, (some .int), { frames := 0, cells := 0, slots := 0, locals := 0 })
abbrev K_Mo_clearText (s : Sto) (Q : Int → Sto → Prop) : Prop := SpI SM yX11_clearText (Cond.code yX11_clearText cX11_clearText 2 (some .int)) { frames := 0, cells := 0, slots := 0, locals := 0 } [.ref 0] s Q
abbrev M_Mo_clearText : Mth := (cX11_clearText, RX11, 2, (some .int), { frames := 0, cells := 0, slots := 0, locals := 0 })
abbrev K_Mo_readGraph (s : Sto) (Q : Int → Sto → Prop) : Prop := SpI SM yX11_readGraph (Cond.code yX11_readGraph cX11_readGraph 5 (some .int)) { frames := 3, cells := 0, slots := 0, locals := 70 } [.ref 0] s Q
abbrev M_Mo_readGraph : Mth := (cX11_readGraph, RX11, 5, (some .int), { frames := 3, cells := 0, slots := 0, locals := 70 })
abbrev K_Mo_isNamed (x1 : Int) (s : Sto) (Q : Int → Sto → Prop) : Prop := SpI SM yX11_isNamed (Cond.code yX11_isNamed cX11_isNamed 5 (some .boolean)) { frames := 2, cells := 0, slots := 0, locals := 46 } [.ref 0, iV x1] s Q
abbrev M_Mo_isNamed : Mth := (cX11_isNamed, RX11, 5, (some .boolean), { frames := 2, cells := 0, slots := 0, locals := 46 })
abbrev K_Mo_begins (x1 : Int) (x2 : Int) (x3 : Int) (x4 : Int) (s : Sto) (Q : Int → Sto → Prop) : Prop := SpI SM yX11_begins (Cond.code yX11_begins cX11_begins 5 (some .boolean)) { frames := 1, cells := 0, slots := 0, locals := 22 } [.ref 0, iV x1, iV x2, iV x3, iV x4] s Q
abbrev M_Mo_begins : Mth := (cX11_begins, RX11, 5, (some .boolean), { frames := 1, cells := 0, slots := 0, locals := 22 })
abbrev K_Mo_isAt (x1 : Int) (x2 : Int) (s : Sto) (Q : Int → Sto → Prop) : Prop := SpI SM yX11_isAt (Cond.code yX11_isAt cX11_isAt 3 (some .boolean)) { frames := 0, cells := 0, slots := 0, locals := 0 } [.ref 0, iV x1, iV x2] s Q
abbrev M_Mo_isAt : Mth := (cX11_isAt, RX11, 3, (some .boolean), { frames := 0, cells := 0, slots := 0, locals := 0 })
abbrev K_Mo_value (x1 : Int) (s : Sto) (Q : Int → Sto → Prop) : Prop := SpI SM yX11_value (Cond.code yX11_value cX11_value 2 (some .int)) { frames := 1, cells := 0, slots := 0, locals := 25 } [.ref 0, iV x1] s Q
abbrev M_Mo_value : Mth := (cX11_value, RX11, 2, (some .int), { frames := 1, cells := 0, slots := 0, locals := 25 })
abbrev K_Mo_isConnected (s : Sto) (Q : Int → Sto → Prop) : Prop := SpI SM yX11_isConnected (Cond.code yX11_isConnected cX11_isConnected 6 (some .boolean)) { frames := 0, cells := 0, slots := 0, locals := 0 } [.ref 0] s Q
abbrev M_Mo_isConnected : Mth := (cX11_isConnected, RX11, 6, (some .boolean), { frames := 0, cells := 0, slots := 0, locals := 0 })
abbrev K_Mo_sum (s : Sto) (Q : Int → Sto → Prop) : Prop := SpI SM yX11_sum (Cond.code yX11_sum cX11_sum 3 (some .int)) { frames := 0, cells := 0, slots := 0, locals := 0 } [.ref 0] s Q
abbrev M_Mo_sum : Mth := (cX11_sum, RX11, 3, (some .int), { frames := 0, cells := 0, slots := 0, locals := 0 })
abbrev K_Mo_inner (s : Sto) (Q : Int → Sto → Prop) : Prop := SpI SM yX11_inner (Cond.code yX11_inner cX11_inner 1 (some .int)) { frames := 0, cells := 0, slots := 0, locals := 0 } [.ref 0] s Q
abbrev M_Mo_inner : Mth := (cX11_inner, RX11, 1, (some .int), { frames := 0, cells := 0, slots := 0, locals := 0 })
abbrev K_Mo_degree (x1 : Int) (s : Sto) (Q : Int → Sto → Prop) : Prop := SpI SM yX11_degree (Cond.code yX11_degree cX11_degree 2 (some .int)) { frames := 2, cells := 0, slots := 0, locals := 43 } [.ref 0, iV x1] s Q
abbrev M_Mo_degree : Mth := (cX11_degree, RX11, 2, (some .int), { frames := 2, cells := 0, slots := 0, locals := 43 })
abbrev K_Mo_edge (x1 : Int) (x2 : Int) (s : Sto) (Q : Int → Sto → Prop) : Prop := SpI SM yX11_edge (Cond.code yX11_edge cX11_edge 3 (some .int)) { frames := 1, cells := 0, slots := 0, locals := 22 } [.ref 0, iV x1, iV x2] s Q
abbrev M_Mo_edge : Mth := (cX11_edge, RX11, 3, (some .int), { frames := 1, cells := 0, slots := 0, locals := 22 })
abbrev K_Mo_undo (s : Sto) (Q : Int → Sto → Prop) : Prop := SpI SM yX11_undo (Cond.code yX11_undo cX11_undo 2 (some .int)) { frames := 0, cells := 0, slots := 0, locals := 0 } [.ref 0] s Q
abbrev M_Mo_undo : Mth := (cX11_undo, RX11, 2, (some .int), { frames := 0, cells := 0, slots := 0, locals := 0 })
abbrev K_Mo_setChips (x1 : Int) (x2 : Int) (s : Sto) (Q : Int → Sto → Prop) : Prop := SpI SM yX11_setChips (Cond.code yX11_setChips cX11_setChips 4 (some .int)) { frames := 3, cells := 0, slots := 0, locals := 64 } [.ref 0, iV x1, iV x2] s Q
abbrev M_Mo_setChips : Mth := (cX11_setChips, RX11, 4, (some .int), { frames := 3, cells := 0, slots := 0, locals := 64 })
abbrev K_Mo_hasChips (x1 : Int) (s : Sto) (Q : Int → Sto → Prop) : Prop := SpI SM yX11_hasChips (Cond.code yX11_hasChips cX11_hasChips 2 (some .boolean)) { frames := 2, cells := 0, slots := 0, locals := 43 } [.ref 0, iV x1] s Q
abbrev M_Mo_hasChips : Mth := (cX11_hasChips, RX11, 2, (some .boolean), { frames := 2, cells := 0, slots := 0, locals := 43 })
abbrev K_Mo_keepState (s : Sto) (Q : Sto → Prop) : Prop := SpV SM yX11_keepState (Cond.code yX11_keepState cX11_keepState 2 none) { frames := 0, cells := 0, slots := 0, locals := 0 } [.ref 0] s Q
abbrev M_Mo_keepState : Mth := (cX11_keepState, RX11, 2, none, { frames := 0, cells := 0, slots := 0, locals := 0 })
abbrev K_Mo_chips (x1 : Int) (s : Sto) (Q : Int → Sto → Prop) : Prop := SpI SM yX11_chips (Cond.code yX11_chips cX11_chips 2 (some .int)) { frames := 3, cells := 0, slots := 0, locals := 64 } [.ref 0, iV x1] s Q
abbrev M_Mo_chips : Mth := (cX11_chips, RX11, 2, (some .int), { frames := 3, cells := 0, slots := 0, locals := 64 })
abbrev K_Mo_fire (x1 : Int) (s : Sto) (Q : Int → Sto → Prop) : Prop := SpI SM yX11_fire (Cond.code yX11_fire cX11_fire 2 (some .int)) { frames := 3, cells := 0, slots := 0, locals := 64 } [.ref 0, iV x1] s Q
abbrev M_Mo_fire : Mth := (cX11_fire, RX11, 2, (some .int), { frames := 3, cells := 0, slots := 0, locals := 64 })
abbrev K_Mo_canFire (k1 : Nat) (x2 : Int) (s : Sto) (Q : Int → Sto → Prop) : Prop := SpI SM yX11_canFire (Cond.code yX11_canFire cX11_canFire 3 (some .boolean)) { frames := 0, cells := 0, slots := 0, locals := 0 } [.ref 0, .ref k1, iV x2] s Q
abbrev M_Mo_canFire : Mth := (cX11_canFire, RX11, 3, (some .boolean), { frames := 0, cells := 0, slots := 0, locals := 0 })
abbrev K_Mo_fireTimes (k1 : Nat) (x2 : Int) (x3 : Int) (s : Sto) (Q : Sto → Prop) : Prop := SpV SM yX11_fireTimes (Cond.code yX11_fireTimes cX11_fireTimes 5 none) { frames := 0, cells := 0, slots := 0, locals := 0 } [.ref 0, .ref k1, iV x2, iV x3] s Q
abbrev M_Mo_fireTimes : Mth := (cX11_fireTimes, RX11, 5, none, { frames := 0, cells := 0, slots := 0, locals := 0 })
abbrev K_Mo_stabilize (s : Sto) (Q : Int → Sto → Prop) : Prop := SpI SM yX11_stabilize (Cond.code yX11_stabilize cX11_stabilize 1 (some .int)) { frames := 2, cells := 0, slots := 0, locals := 49 } [.ref 0] s Q
abbrev M_Mo_stabilize : Mth := (cX11_stabilize, RX11, 1, (some .int), { frames := 2, cells := 0, slots := 0, locals := 49 })
abbrev K_Mo_settle (k1 : Nat) (s : Sto) (Q : Int → Sto → Prop) : Prop := SpI SM yX11_settle (Cond.code yX11_settle cX11_settle 6 (some .int)) { frames := 1, cells := 0, slots := 0, locals := 24 } [.ref 0, .ref k1] s Q
abbrev M_Mo_settle : Mth := (cX11_settle, RX11, 6, (some .int), { frames := 1, cells := 0, slots := 0, locals := 24 })
abbrev K_Mo_firings (x1 : Int) (s : Sto) (Q : Int → Sto → Prop) : Prop := SpI SM yX11_firings (Cond.code yX11_firings cX11_firings 2 (some .int)) { frames := 3, cells := 0, slots := 0, locals := 64 } [.ref 0, iV x1] s Q
abbrev M_Mo_firings : Mth := (cX11_firings, RX11, 2, (some .int), { frames := 3, cells := 0, slots := 0, locals := 64 })
abbrev K_Mo_copy (k1 : Nat) (k2 : Nat) (s : Sto) (Q : Sto → Prop) : Prop := SpV SM yX11_copy (Cond.code yX11_copy cX11_copy 4 none) { frames := 0, cells := 0, slots := 0, locals := 0 } [.ref 0, .ref k1, .ref k2] s Q
abbrev M_Mo_copy : Mth := (cX11_copy, RX11, 4, none, { frames := 0, cells := 0, slots := 0, locals := 0 })
abbrev K_Mo_reduce (s : Sto) (Q : Int → Sto → Prop) : Prop := SpI SM yX11_reduce (Cond.code yX11_reduce cX11_reduce 1 (some .int)) { frames := 3, cells := 0, slots := 0, locals := 71 } [.ref 0] s Q
abbrev M_Mo_reduce : Mth := (cX11_reduce, RX11, 1, (some .int), { frames := 3, cells := 0, slots := 0, locals := 71 })
abbrev K_Mo_lower (k1 : Nat) (s : Sto) (Q : Int → Sto → Prop) : Prop := SpI SM yX11_lower (Cond.code yX11_lower cX11_lower 3 (some .int)) { frames := 2, cells := 0, slots := 0, locals := 49 } [.ref 0, .ref k1] s Q
abbrev M_Mo_lower : Mth := (cX11_lower, RX11, 3, (some .int), { frames := 2, cells := 0, slots := 0, locals := 49 })
abbrev K_Mo_burn (k1 : Nat) (x2 : Int) (s : Sto) (Q : Sto → Prop) : Prop := SpV SM yX11_burn (Cond.code yX11_burn cX11_burn 8 none) { frames := 0, cells := 0, slots := 0, locals := 0 } [.ref 0, .ref k1, iV x2] s Q
abbrev M_Mo_burn : Mth := (cX11_burn, RX11, 8, none, { frames := 0, cells := 0, slots := 0, locals := 0 })
abbrev K_Mo_allBurn (s : Sto) (Q : Int → Sto → Prop) : Prop := SpI SM yX11_allBurn (Cond.code yX11_allBurn cX11_allBurn 3 (some .boolean)) { frames := 0, cells := 0, slots := 0, locals := 0 } [.ref 0] s Q
abbrev M_Mo_allBurn : Mth := (cX11_allBurn, RX11, 3, (some .boolean), { frames := 0, cells := 0, slots := 0, locals := 0 })
abbrev K_Mo_fireSet (k1 : Nat) (s : Sto) (Q : Sto → Prop) : Prop := SpV SM yX11_fireSet (Cond.code yX11_fireSet cX11_fireSet 4 none) { frames := 0, cells := 0, slots := 0, locals := 0 } [.ref 0, .ref k1] s Q
abbrev M_Mo_fireSet : Mth := (cX11_fireSet, RX11, 4, none, { frames := 0, cells := 0, slots := 0, locals := 0 })
abbrev K_Mo_makeRecurrent (s : Sto) (Q : Int → Sto → Prop) : Prop := SpI SM yX11_makeRecurrent (Cond.code yX11_makeRecurrent cX11_makeRecurrent 1 (some .int)) { frames := 3, cells := 0, slots := 0, locals := 71 } [.ref 0] s Q
abbrev M_Mo_makeRecurrent : Mth := (cX11_makeRecurrent, RX11, 1, (some .int), { frames := 3, cells := 0, slots := 0, locals := 71 })
abbrev K_Mo_raise (k1 : Nat) (s : Sto) (Q : Sto → Prop) : Prop := SpV SM yX11_raise (Cond.code yX11_raise cX11_raise 3 none) { frames := 2, cells := 0, slots := 0, locals := 49 } [.ref 0, .ref k1] s Q
abbrev M_Mo_raise : Mth := (cX11_raise, RX11, 3, none, { frames := 2, cells := 0, slots := 0, locals := 49 })
abbrev K_Mo_areSame (k0 : Nat) (k1 : Nat) (s : Sto) (Q : Int → Sto → Prop) : Prop := SpI SM yX11_areSame (Cond.code yX11_areSame cX11_areSame 4 (some .boolean)) { frames := 0, cells := 0, slots := 0, locals := 0 } [.ref k0, .ref k1] s Q
abbrev M_Mo_areSame : Mth := (cX11_areSame, RX11, 4, (some .boolean), { frames := 0, cells := 0, slots := 0, locals := 0 })
abbrev K_Mo_kind (s : Sto) (Q : Int → Sto → Prop) : Prop := SpI SM yX11_kind (Cond.code yX11_kind cX11_kind 1 (some .int)) { frames := 3, cells := 0, slots := 0, locals := 66 } [.ref 0] s Q
abbrev M_Mo_kind : Mth := (cX11_kind, RX11, 1, (some .int), { frames := 3, cells := 0, slots := 0, locals := 66 })
abbrev K_Mo_isStable (k1 : Nat) (s : Sto) (Q : Int → Sto → Prop) : Prop := SpI SM yX11_isStable (Cond.code yX11_isStable cX11_isStable 4 (some .boolean)) { frames := 1, cells := 0, slots := 0, locals := 22 } [.ref 0, .ref k1] s Q
abbrev M_Mo_isStable : Mth := (cX11_isStable, RX11, 4, (some .boolean), { frames := 1, cells := 0, slots := 0, locals := 22 })
abbrev K_Mo_isRecurrent (k1 : Nat) (s : Sto) (Q : Int → Sto → Prop) : Prop := SpI SM yX11_isRecurrent (Cond.code yX11_isRecurrent cX11_isRecurrent 2 (some .boolean)) { frames := 2, cells := 0, slots := 0, locals := 45 } [.ref 0, .ref k1] s Q
abbrev M_Mo_isRecurrent : Mth := (cX11_isRecurrent, RX11, 2, (some .boolean), { frames := 2, cells := 0, slots := 0, locals := 45 })
abbrev K_Mo_isSuperstable (k1 : Nat) (s : Sto) (Q : Int → Sto → Prop) : Prop := SpI SM yX11_isSuperstable (Cond.code yX11_isSuperstable cX11_isSuperstable 2 (some .boolean)) { frames := 1, cells := 0, slots := 0, locals := 27 } [.ref 0, .ref k1] s Q
abbrev M_Mo_isSuperstable : Mth := (cX11_isSuperstable, RX11, 2, (some .boolean), { frames := 1, cells := 0, slots := 0, locals := 27 })
abbrev K_Mo_burnt (x1 : Int) (s : Sto) (Q : Int → Sto → Prop) : Prop := SpI SM yX11_burnt (Cond.code yX11_burnt cX11_burnt 2 (some .int)) { frames := 2, cells := 0, slots := 0, locals := 43 } [.ref 0, iV x1] s Q
abbrev M_Mo_burnt : Mth := (cX11_burnt, RX11, 2, (some .int), { frames := 2, cells := 0, slots := 0, locals := 43 })
abbrev K_Mo_keep (x1 : Int) (s : Sto) (Q : Int → Sto → Prop) : Prop := SpI SM yX11_keep (Cond.code yX11_keep cX11_keep 4 (some .int)) { frames := 2, cells := 0, slots := 0, locals := 42 } [.ref 0, iV x1] s Q
abbrev M_Mo_keep : Mth := (cX11_keep, RX11, 4, (some .int), { frames := 2, cells := 0, slots := 0, locals := 42 })
abbrev K_Mo_noSlot (x0 : Int) (s : Sto) (Q : Int → Sto → Prop) : Prop := SpI SM yX11_noSlot (Cond.code yX11_noSlot cX11_noSlot 1 (some .boolean)) { frames := 1, cells := 0, slots := 0, locals := 22 } [iV x0] s Q
abbrev M_Mo_noSlot : Mth := (cX11_noSlot, RX11, 1, (some .boolean), { frames := 1, cells := 0, slots := 0, locals := 22 })
abbrev K_Mo_load (x1 : Int) (s : Sto) (Q : Int → Sto → Prop) : Prop := SpI SM yX11_load (Cond.code yX11_load cX11_load 3 (some .int)) { frames := 2, cells := 0, slots := 0, locals := 42 } [.ref 0, iV x1] s Q
abbrev M_Mo_load : Mth := (cX11_load, RX11, 3, (some .int), { frames := 2, cells := 0, slots := 0, locals := 42 })
abbrev K_Mo_add (x1 : Int) (s : Sto) (Q : Int → Sto → Prop) : Prop := SpI SM yX11_add (Cond.code yX11_add cX11_add 3 (some .int)) { frames := 2, cells := 0, slots := 0, locals := 42 } [.ref 0, iV x1] s Q
abbrev M_Mo_add : Mth := (cX11_add, RX11, 3, (some .int), { frames := 2, cells := 0, slots := 0, locals := 42 })
abbrev K_Mo_isSameClass (x1 : Int) (s : Sto) (Q : Int → Sto → Prop) : Prop := SpI SM yX11_isSameClass (Cond.code yX11_isSameClass cX11_isSameClass 3 (some .int)) { frames := 3, cells := 0, slots := 0, locals := 71 } [.ref 0, iV x1] s Q
abbrev M_Mo_isSameClass : Mth := (cX11_isSameClass, RX11, 3, (some .int), { frames := 3, cells := 0, slots := 0, locals := 71 })
abbrev K_Mo_treeCount (s : Sto) (Q : Int → Sto → Prop) : Prop := SpJ SM yX11_treeCount (Cond.code yX11_treeCount cX11_treeCount 4 (some .long)) { frames := 3, cells := 0, slots := 0, locals := 76 } [.ref 0] s Q
abbrev M_Mo_treeCount : Mth := (cX11_treeCount, RX11, 4, (some .long), { frames := 3, cells := 0, slots := 0, locals := 76 })
abbrev K_Mo_smith (s : Sto) (Q : Sto → Prop) : Prop := SpV SM yX11_smith (Cond.code yX11_smith cX11_smith 4 none) { frames := 2, cells := 0, slots := 0, locals := 53 } [.ref 0] s Q
abbrev M_Mo_smith : Mth := (cX11_smith, RX11, 4, none, { frames := 2, cells := 0, slots := 0, locals := 53 })
abbrev K_Mo_layMatrix (s : Sto) (Q : Sto → Prop) : Prop := SpV SM yX11_layMatrix (Cond.code yX11_layMatrix cX11_layMatrix 5 none) { frames := 0, cells := 0, slots := 0, locals := 0 } [.ref 0] s Q
abbrev M_Mo_layMatrix : Mth := (cX11_layMatrix, RX11, 5, none, { frames := 0, cells := 0, slots := 0, locals := 0 })
abbrev K_Mo_bringLeast (x1 : Int) (x2 : Int) (s : Sto) (Q : Int → Sto → Prop) : Prop := SpI SM yX11_bringLeast (Cond.code yX11_bringLeast cX11_bringLeast 6 (some .boolean)) { frames := 1, cells := 0, slots := 0, locals := 28 } [.ref 0, iV x1, iV x2] s Q
abbrev M_Mo_bringLeast : Mth := (cX11_bringLeast, RX11, 6, (some .boolean), { frames := 1, cells := 0, slots := 0, locals := 28 })
abbrev K_Mo_size (x0 : Int) (s : Sto) (Q : Int → Sto → Prop) : Prop := SpJ SM yX11_size (Cond.code yX11_size cX11_size 2 (some .long)) { frames := 0, cells := 0, slots := 0, locals := 0 } [jV x0] s Q
abbrev M_Mo_size : Mth := (cX11_size, RX11, 2, (some .long), { frames := 0, cells := 0, slots := 0, locals := 0 })
abbrev K_Mo_swap (x1 : Int) (x2 : Int) (x3 : Int) (s : Sto) (Q : Sto → Prop) : Prop := SpV SM yX11_swap (Cond.code yX11_swap cX11_swap 9 none) { frames := 0, cells := 0, slots := 0, locals := 0 } [.ref 0, iV x1, iV x2, iV x3] s Q
abbrev M_Mo_swap : Mth := (cX11_swap, RX11, 9, none, { frames := 0, cells := 0, slots := 0, locals := 0 })
abbrev K_Mo_isDone (x1 : Int) (x2 : Int) (s : Sto) (Q : Int → Sto → Prop) : Prop := SpI SM yX11_isDone (Cond.code yX11_isDone cX11_isDone 6 (some .boolean)) { frames := 1, cells := 0, slots := 0, locals := 28 } [.ref 0, iV x1, iV x2] s Q
abbrev M_Mo_isDone : Mth := (cX11_isDone, RX11, 6, (some .boolean), { frames := 1, cells := 0, slots := 0, locals := 28 })
abbrev K_Mo_lessen (x1 : Int) (x2 : Int) (x3 : Int) (x5 : Int) (s : Sto) (Q : Sto → Prop) : Prop := SpV SM yX11_lessen (Cond.code yX11_lessen cX11_lessen 9 none) { frames := 0, cells := 0, slots := 0, locals := 0 } [.ref 0, iV x1, iV x2, jV x3, iV x5] s Q
abbrev M_Mo_lessen : Mth := (cX11_lessen, RX11, 9, none, { frames := 0, cells := 0, slots := 0, locals := 0 })
abbrev K_Mo_factor (x1 : Int) (s : Sto) (Q : Int → Sto → Prop) : Prop := SpJ SM yX11_factor (Cond.code yX11_factor cX11_factor 6 (some .long)) { frames := 3, cells := 0, slots := 0, locals := 76 } [.ref 0, iV x1] s Q
abbrev M_Mo_factor : Mth := (cX11_factor, RX11, 6, (some .long), { frames := 3, cells := 0, slots := 0, locals := 76 })
abbrev K_Mo_lost (s : Sto) (Q : Int → Sto → Prop) : Prop := SpJ SM yX11_lost (Cond.code yX11_lost cX11_lost 0 (some .long)) { frames := 0, cells := 0, slots := 0, locals := 0 } [] s Q
abbrev M_Mo_lost : Mth := (cX11_lost, RX11, 0, (some .long), { frames := 0, cells := 0, slots := 0, locals := 0 })
abbrev K_Mo_identity (x1 : Int) (s : Sto) (Q : Int → Sto → Prop) : Prop := SpI SM yX11_identity (Cond.code yX11_identity cX11_identity 3 (some .int)) { frames := 3, cells := 0, slots := 0, locals := 71 } [.ref 0, iV x1] s Q
abbrev M_Mo_identity : Mth := (cX11_identity, RX11, 3, (some .int), { frames := 3, cells := 0, slots := 0, locals := 71 })
abbrev K_Mo_order (s : Sto) (Q : Int → Sto → Prop) : Prop := SpI SM yX11_order (Cond.code yX11_order cX11_order 4 (some .int)) { frames := 3, cells := 0, slots := 0, locals := 71 } [.ref 0] s Q
abbrev M_Mo_order : Mth := (cX11_order, RX11, 4, (some .int), { frames := 3, cells := 0, slots := 0, locals := 71 })
abbrev K_Mo_isEmpty (k0 : Nat) (s : Sto) (Q : Int → Sto → Prop) : Prop := SpI SM yX11_isEmpty (Cond.code yX11_isEmpty cX11_isEmpty 3 (some .boolean)) { frames := 0, cells := 0, slots := 0, locals := 0 } [.ref k0] s Q
abbrev M_Mo_isEmpty : Mth := (cX11_isEmpty, RX11, 3, (some .boolean), { frames := 0, cells := 0, slots := 0, locals := 0 })
abbrev K_Mo_level (s : Sto) (Q : Int → Sto → Prop) : Prop := SpI SM yX11_level (Cond.code yX11_level cX11_level 1 (some .int)) { frames := 3, cells := 0, slots := 0, locals := 66 } [.ref 0] s Q
abbrev M_Mo_level : Mth := (cX11_level, RX11, 1, (some .int), { frames := 3, cells := 0, slots := 0, locals := 66 })
abbrev K_Mo_levelCount (x1 : Int) (s : Sto) (Q : Int → Sto → Prop) : Prop := SpI SM yX11_levelCount (Cond.code yX11_levelCount cX11_levelCount 2 (some .int)) { frames := 2, cells := 0, slots := 0, locals := 53 } [.ref 0, iV x1] s Q
abbrev M_Mo_levelCount : Mth := (cX11_levelCount, RX11, 2, (some .int), { frames := 2, cells := 0, slots := 0, locals := 53 })
abbrev K_Mo_countLevels (s : Sto) (Q : Sto → Prop) : Prop := SpV SM yX11_countLevels (Cond.code yX11_countLevels cX11_countLevels 7 none) { frames := 1, cells := 0, slots := 0, locals := 27 } [.ref 0] s Q
abbrev M_Mo_countLevels : Mth := (cX11_countLevels, RX11, 7, none, { frames := 1, cells := 0, slots := 0, locals := 27 })
abbrev K_Mo_tree (s : Sto) (Q : Int → Sto → Prop) : Prop := SpI SM yX11_tree (Cond.code yX11_tree cX11_tree 1 (some .int)) { frames := 3, cells := 0, slots := 0, locals := 66 } [.ref 0] s Q
abbrev M_Mo_tree : Mth := (cX11_tree, RX11, 1, (some .int), { frames := 3, cells := 0, slots := 0, locals := 66 })
abbrev K_Mo_follow (x1 : Int) (s : Sto) (Q : Int → Sto → Prop) : Prop := SpI SM yX11_follow (Cond.code yX11_follow cX11_follow 9 (some .int)) { frames := 0, cells := 0, slots := 0, locals := 0 } [.ref 0, iV x1] s Q
abbrev M_Mo_follow : Mth := (cX11_follow, RX11, 9, (some .int), { frames := 0, cells := 0, slots := 0, locals := 0 })
abbrev K_Mo_takeTree (x1 : Int) (s : Sto) (Q : Int → Sto → Prop) : Prop := SpI SM yX11_takeTree (Cond.code yX11_takeTree cX11_takeTree 3 (some .int)) { frames := 2, cells := 0, slots := 0, locals := 48 } [.ref 0, iV x1] s Q
abbrev M_Mo_takeTree : Mth := (cX11_takeTree, RX11, 3, (some .int), { frames := 2, cells := 0, slots := 0, locals := 48 })
abbrev K_Mo_isTree (x1 : Int) (s : Sto) (Q : Int → Sto → Prop) : Prop := SpI SM yX11_isTree (Cond.code yX11_isTree cX11_isTree 7 (some .boolean)) { frames := 1, cells := 0, slots := 0, locals := 22 } [.ref 0, iV x1] s Q
abbrev M_Mo_isTree : Mth := (cX11_isTree, RX11, 7, (some .boolean), { frames := 1, cells := 0, slots := 0, locals := 22 })
abbrev K_Mo_bits (x0 : Int) (s : Sto) (Q : Int → Sto → Prop) : Prop := SpI SM yX11_bits (Cond.code yX11_bits cX11_bits 3 (some .int)) { frames := 0, cells := 0, slots := 0, locals := 0 } [iV x0] s Q
abbrev M_Mo_bits : Mth := (cX11_bits, RX11, 3, (some .int), { frames := 0, cells := 0, slots := 0, locals := 0 })
abbrev K_Mo_treeAt (x1 : Int) (s : Sto) (Q : Int → Sto → Prop) : Prop := SpI SM yX11_treeAt (Cond.code yX11_treeAt cX11_treeAt 6 (some .int)) { frames := 2, cells := 0, slots := 0, locals := 48 } [.ref 0, iV x1] s Q
abbrev M_Mo_treeAt : Mth := (cX11_treeAt, RX11, 6, (some .int), { frames := 2, cells := 0, slots := 0, locals := 48 })
theorem pf_Gr_9 {M : Mth} {F : Option Value → Sto → Prop} {pc npc : Nat} {l : List (Nat × Value)} {st : List Value} {s : Sto} {x : Int} (hd : decode M.1 pc = .ok (.putfield 9, 3)) (hM : M.2.1 = RX2) (hn : pc + 3 = npc) (k' : Go SC M F npc l st (up s 1 0 x)) : Go SC M F pc l (iV x :: .ref 1 :: st) s := g_put (f := 0) tyX2 hd hn ⟨by decide, rfl, rfl⟩ rfl inw_X2 tyX2_ok nmX2 (by decide) (by rw [hM]; exact tw_99) rfl rfl rfl ⟨rfl, rfl⟩ k'
theorem pf_Gr_15 {M : Mth} {F : Option Value → Sto → Prop} {pc npc : Nat} {l : List (Nat × Value)} {st : List Value} {s : Sto} {x : Int} (hd : decode M.1 pc = .ok (.putfield 15, 3)) (hM : M.2.1 = RX2) (hn : pc + 3 = npc) (k' : Go SC M F npc l st (up s 1 1 x)) : Go SC M F pc l (iV x :: .ref 1 :: st) s := g_put (f := 1) tyX2 hd hn ⟨by decide, rfl, rfl⟩ rfl inw_X2 tyX2_ok nmX2 (by decide) (by rw [hM]; exact tw_105) rfl rfl rfl ⟨rfl, rfl⟩ k'
theorem pf_Gr_18 {M : Mth} {F : Option Value → Sto → Prop} {pc npc : Nat} {l : List (Nat × Value)} {st : List Value} {s : Sto} {x : Int} (hd : decode M.1 pc = .ok (.putfield 18, 3)) (hM : M.2.1 = RX2) (hn : pc + 3 = npc) (k' : Go SC M F npc l st (up s 1 2 x)) : Go SC M F pc l (iV x :: .ref 1 :: st) s := g_put (f := 2) tyX2 hd hn ⟨by decide, rfl, rfl⟩ rfl inw_X2 tyX2_ok nmX2 (by decide) (by rw [hM]; exact tw_110) rfl rfl rfl ⟨rfl, rfl⟩ k'
theorem gf_Gr_33 {M : Mth} {F : Option Value → Sto → Prop} {pc npc : Nat} {l : List (Nat × Value)} {st : List Value} {s : Sto} (hd : decode M.1 pc = .ok (.getfield 33, 3)) (hM : M.2.1 = RX2) (hn : pc + 3 = npc) (k' : Go SC M F npc l (.ref 24 :: st) s) : Go SC M F pc l (.ref 1 :: st) s := g_get (f := 6) hd hn ⟨by decide, rfl, rfl⟩ rfl inw_X2 (by decide) (by rw [hM]; exact tw_129) rfl (Or.inr ⟨_, rfl, rfl⟩) k'
theorem gf_Gr_30 {M : Mth} {F : Option Value → Sto → Prop} {pc npc : Nat} {l : List (Nat × Value)} {st : List Value} {s : Sto} (hd : decode M.1 pc = .ok (.getfield 30, 3)) (hM : M.2.1 = RX2) (hn : pc + 3 = npc) (k' : Go SC M F npc l (.ref 15 :: st) s) : Go SC M F pc l (.ref 1 :: st) s := g_get (f := 5) hd hn ⟨by decide, rfl, rfl⟩ rfl inw_X2 (by decide) (by rw [hM]; exact tw_126) rfl (Or.inr ⟨_, rfl, rfl⟩) k'
theorem gf_Gr_9 {M : Mth} {F : Option Value → Sto → Prop} {pc npc : Nat} {l : List (Nat × Value)} {st : List Value} {s : Sto} (hd : decode M.1 pc = .ok (.getfield 9, 3)) (hM : M.2.1 = RX2) (hn : pc + 3 = npc) (k' : Go SC M F npc l (iV (s 1 0) :: st) s) : Go SC M F pc l (.ref 1 :: st) s := g_get (f := 0) hd hn ⟨by decide, rfl, rfl⟩ rfl inw_X2 (by decide) (by rw [hM]; exact tw_99) rfl (Or.inl ⟨rfl, rfl⟩) k'
theorem iv_Gr_39 {M : Mth} {F : Option Value → Sto → Prop} {pc npc : Nat} {l : List (Nat × Value)} {st : List Value} {s : Sto} {x1 : Int} {Q : Int → Sto → Prop} (hd : decode M.1 pc = .ok (.invokevirtual 39, 3)) (hM : M.2.1 = RX2) (hn : pc + 3 = npc) (hcat : (st.map (fun v => v.category)).sum ≤ 8) (hR : 0 + 1 ≤ M.2.2.2.2.frames ∧ 8 + (2 + 11) + 0 ≤ M.2.2.2.2.locals) (h : K_Gr_hasNode x1 s Q) (k' : ∀ r s1, Q r s1 → Go SC M F npc l (iV r :: st) s1) : Go SC M F pc l (iV x1 :: .ref 1 :: st) s := g_callV (k := 1) (as := [iV x1]) (st := st) hd hn rfl ⟨by decide, rfl⟩ rfl rfl (show okV M 39 RX2 yX2_hasNode cX2_hasNode 2 (some .boolean) 1 from ⟨⟨by rw [hM]; exact tw_303, tw_304, tw_305, tw_66, tw_306⟩, rfl, by decide, by decide, by decide +kernel⟩) rfl hcat ⟨rfl, rfl⟩ hR h (fun r s1 h => by obtain ⟨x, rfl, h2⟩ := h; exact k' x s1 h2)
theorem gf_Gr_15 {M : Mth} {F : Option Value → Sto → Prop} {pc npc : Nat} {l : List (Nat × Value)} {st : List Value} {s : Sto} (hd : decode M.1 pc = .ok (.getfield 15, 3)) (hM : M.2.1 = RX2) (hn : pc + 3 = npc) (k' : Go SC M F npc l (iV (s 1 1) :: st) s) : Go SC M F pc l (.ref 1 :: st) s := g_get (f := 1) hd hn ⟨by decide, rfl, rfl⟩ rfl inw_X2 (by decide) (by rw [hM]; exact tw_105) rfl (Or.inl ⟨rfl, rfl⟩) k'
theorem gf_Gr_21 {M : Mth} {F : Option Value → Sto → Prop} {pc npc : Nat} {l : List (Nat × Value)} {st : List Value} {s : Sto} (hd : decode M.1 pc = .ok (.getfield 21, 3)) (hM : M.2.1 = RX2) (hn : pc + 3 = npc) (k' : Go SC M F npc l (.ref 13 :: st) s) : Go SC M F pc l (.ref 1 :: st) s := g_get (f := 3) hd hn ⟨by decide, rfl, rfl⟩ rfl inw_X2 (by decide) (by rw [hM]; exact tw_116) rfl (Or.inr ⟨_, rfl, rfl⟩) k'
theorem gf_Gr_25 {M : Mth} {F : Option Value → Sto → Prop} {pc npc : Nat} {l : List (Nat × Value)} {st : List Value} {s : Sto} (hd : decode M.1 pc = .ok (.getfield 25, 3)) (hM : M.2.1 = RX2) (hn : pc + 3 = npc) (k' : Go SC M F npc l (.ref 14 :: st) s) : Go SC M F pc l (.ref 1 :: st) s := g_get (f := 4) hd hn ⟨by decide, rfl, rfl⟩ rfl inw_X2 (by decide) (by rw [hM]; exact tw_121) rfl (Or.inr ⟨_, rfl, rfl⟩) k'
theorem iv_Gr_43 {M : Mth} {F : Option Value → Sto → Prop} {pc npc : Nat} {l : List (Nat × Value)} {st : List Value} {s : Sto} {x1 : Int} {x2 : Int} {x3 : Int} {Q : Sto → Prop} (hd : decode M.1 pc = .ok (.invokevirtual 43, 3)) (hM : M.2.1 = RX2) (hn : pc + 3 = npc) (hcat : (st.map (fun v => v.category)).sum ≤ 8) (hR : 1 + 1 ≤ M.2.2.2.2.frames ∧ 8 + (4 + 11) + 21 ≤ M.2.2.2.2.locals) (h : K_Gr_countJoining x1 x2 x3 s Q) (k' : ∀ s1, Q s1 → Go SC M F npc l st s1) : Go SC M F pc l (iV x3 :: iV x2 :: iV x1 :: .ref 1 :: st) s := g_callV (k := 1) (as := [iV x1, iV x2, iV x3]) (st := st) hd hn rfl ⟨by decide, rfl⟩ rfl rfl (show okV M 43 RX2 yX2_countJoining cX2_countJoining 4 none 3 from ⟨⟨by rw [hM]; exact tw_307, tw_309, tw_0, tw_66, tw_310⟩, rfl, by decide, by decide, by decide +kernel⟩) rfl hcat ⟨rfl, rfl⟩ hR h (fun r s1 h => by obtain ⟨rfl, h2⟩ := h; exact k' s1 h2)
theorem pf_Hi_9 {M : Mth} {F : Option Value → Sto → Prop} {pc npc : Nat} {l : List (Nat × Value)} {st : List Value} {s : Sto} {x : Int} (hd : decode M.1 pc = .ok (.putfield 9, 3)) (hM : M.2.1 = RX3) (hn : pc + 3 = npc) (k' : Go SC M F npc l st (up s 3 0 x)) : Go SC M F pc l (iV x :: .ref 3 :: st) s := g_put (f := 0) tyX3 hd hn ⟨by decide, rfl, rfl⟩ rfl inw_X3 tyX3_ok nmX3 (by decide) (by rw [hM]; exact tw_172) rfl rfl rfl ⟨rfl, rfl⟩ k'
theorem pf_Hi_15 {M : Mth} {F : Option Value → Sto → Prop} {pc npc : Nat} {l : List (Nat × Value)} {st : List Value} {s : Sto} {x : Int} (hd : decode M.1 pc = .ok (.putfield 15, 3)) (hM : M.2.1 = RX3) (hn : pc + 3 = npc) (k' : Go SC M F npc l st (up s 3 1 x)) : Go SC M F pc l (iV x :: .ref 3 :: st) s := g_put (f := 1) tyX3 hd hn ⟨by decide, rfl, rfl⟩ rfl inw_X3 tyX3_ok nmX3 (by decide) (by rw [hM]; exact tw_174) rfl rfl rfl ⟨rfl, rfl⟩ k'
theorem gf_Sl_9 {M : Mth} {F : Option Value → Sto → Prop} {pc npc : Nat} {l : List (Nat × Value)} {st : List Value} {s : Sto} (hd : decode M.1 pc = .ok (.getfield 9, 3)) (hM : M.2.1 = RX7) (hn : pc + 3 = npc) (k' : Go SC M F npc l (.ref 40 :: st) s) : Go SC M F pc l (.ref 4 :: st) s := g_get (f := 0) hd hn ⟨by decide, rfl, rfl⟩ rfl inw_X7 (by decide) (by rw [hM]; exact tw_190) rfl (Or.inr ⟨_, rfl, rfl⟩) k'
theorem gf_Cg_28 {M : Mth} {F : Option Value → Sto → Prop} {pc npc : Nat} {l : List (Nat × Value)} {st : List Value} {s : Sto} (hd : decode M.1 pc = .ok (.getfield 28, 3)) (hM : M.2.1 = RX10) (hn : pc + 3 = npc) (k' : Go SC M F npc l (.ref 3 :: st) s) : Go SC M F pc l (.ref 0 :: st) s := g_get (f := 2) hd hn ⟨by decide, rfl, rfl⟩ rfl inw_X10 (by decide) (by rw [hM]; exact tw_313) rfl (Or.inr ⟨_, rfl, rfl⟩) k'
theorem iv_Cg_279 {M : Mth} {F : Option Value → Sto → Prop} {pc npc : Nat} {l : List (Nat × Value)} {st : List Value} {s : Sto} {Q : Sto → Prop} (hd : decode M.1 pc = .ok (.invokevirtual 279, 3)) (hM : M.2.1 = RX10) (hn : pc + 3 = npc) (hcat : (st.map (fun v => v.category)).sum ≤ 8) (hR : 0 + 1 ≤ M.2.2.2.2.frames ∧ 8 + (1 + 11) + 0 ≤ M.2.2.2.2.locals) (h : K_Hi_forgetAll s Q) (k' : ∀ s1, Q s1 → Go SC M F npc l st s1) : Go SC M F pc l (.ref 3 :: st) s := g_callV (k := 3) (as := []) (st := st) hd hn rfl ⟨by decide, rfl⟩ rfl rfl (show okV M 279 RX3 yX3_forgetAll cX3_forgetAll 1 none 0 from ⟨⟨by rw [hM]; exact tw_363, tw_364, tw_365, tw_68, tw_366⟩, rfl, by decide, by decide, by decide +kernel⟩) rfl hcat ⟨rfl, rfl⟩ hR h (fun r s1 h => by obtain ⟨rfl, h2⟩ := h; exact k' s1 h2)
theorem gf_Cg_35 {M : Mth} {F : Option Value → Sto → Prop} {pc npc : Nat} {l : List (Nat × Value)} {st : List Value} {s : Sto} (hd : decode M.1 pc = .ok (.getfield 35, 3)) (hM : M.2.1 = RX10) (hn : pc + 3 = npc) (k' : Go SC M F npc l (.ref 4 :: st) s) : Go SC M F pc l (.ref 0 :: st) s := g_get (f := 3) hd hn ⟨by decide, rfl, rfl⟩ rfl inw_X10 (by decide) (by rw [hM]; exact tw_314) rfl (Or.inr ⟨_, rfl, rfl⟩) k'
theorem iv_Cg_282 {M : Mth} {F : Option Value → Sto → Prop} {pc npc : Nat} {l : List (Nat × Value)} {st : List Value} {s : Sto} {Q : Sto → Prop} (hd : decode M.1 pc = .ok (.invokevirtual 282, 3)) (hM : M.2.1 = RX10) (hn : pc + 3 = npc) (hcat : (st.map (fun v => v.category)).sum ≤ 8) (hR : 0 + 1 ≤ M.2.2.2.2.frames ∧ 8 + (2 + 11) + 0 ≤ M.2.2.2.2.locals) (h : K_Sl_forgetAll s Q) (k' : ∀ s1, Q s1 → Go SC M F npc l st s1) : Go SC M F pc l (.ref 4 :: st) s := g_callV (k := 4) (as := []) (st := st) hd hn rfl ⟨by decide, rfl⟩ rfl rfl (show okV M 282 RX7 yX7_forgetAll cX7_forgetAll 2 none 0 from ⟨⟨by rw [hM]; exact tw_367, tw_368, tw_369, tw_69, tw_370⟩, rfl, by decide, by decide, by decide +kernel⟩) rfl hcat ⟨rfl, rfl⟩ hR h (fun r s1 h => by obtain ⟨rfl, h2⟩ := h; exact k' s1 h2)
theorem gf_Cg_12 {M : Mth} {F : Option Value → Sto → Prop} {pc npc : Nat} {l : List (Nat × Value)} {st : List Value} {s : Sto} (hd : decode M.1 pc = .ok (.getfield 12, 3)) (hM : M.2.1 = RX10) (hn : pc + 3 = npc) (k' : Go SC M F npc l (.ref 1 :: st) s) : Go SC M F pc l (.ref 0 :: st) s := g_get (f := 0) hd hn ⟨by decide, rfl, rfl⟩ rfl inw_X10 (by decide) (by rw [hM]; exact tw_311) rfl (Or.inr ⟨_, rfl, rfl⟩) k'
theorem iv_Cg_90 {M : Mth} {F : Option Value → Sto → Prop} {pc npc : Nat} {l : List (Nat × Value)} {st : List Value} {s : Sto} {x1 : Int} {Q : Sto → Prop} (hd : decode M.1 pc = .ok (.invokevirtual 90, 3)) (hM : M.2.1 = RX10) (hn : pc + 3 = npc) (hcat : (st.map (fun v => v.category)).sum ≤ 8) (hR : 0 + 1 ≤ M.2.2.2.2.frames ∧ 8 + (4 + 11) + 0 ≤ M.2.2.2.2.locals) (h : K_Gr_clear x1 s Q) (k' : ∀ s1, Q s1 → Go SC M F npc l st s1) : Go SC M F pc l (iV x1 :: .ref 1 :: st) s := g_callV (k := 1) (as := [iV x1]) (st := st) hd hn rfl ⟨by decide, rfl⟩ rfl rfl (show okV M 90 RX2 yX2_clear cX2_clear 4 none 1 from ⟨⟨by rw [hM]; exact tw_295, tw_296, tw_297, tw_66, tw_298⟩, rfl, by decide, by decide, by decide +kernel⟩) rfl hcat ⟨rfl, rfl⟩ hR h (fun r s1 h => by obtain ⟨rfl, h2⟩ := h; exact k' s1 h2)
theorem gf_Cg_80 {M : Mth} {F : Option Value → Sto → Prop} {pc npc : Nat} {l : List (Nat × Value)} {st : List Value} {s : Sto} (hd : decode M.1 pc = .ok (.getfield 80, 3)) (hM : M.2.1 = RX10) (hn : pc + 3 = npc) (k' : Go SC M F npc l (.ref 10 :: st) s) : Go SC M F pc l (.ref 0 :: st) s := g_get (f := 9) hd hn ⟨by decide, rfl, rfl⟩ rfl inw_X10 (by decide) (by rw [hM]; exact tw_320) rfl (Or.inr ⟨_, rfl, rfl⟩) k'
theorem iv_Cg_244 {M : Mth} {F : Option Value → Sto → Prop} {pc npc : Nat} {l : List (Nat × Value)} {st : List Value} {s : Sto} {k0 : Nat} {Q : Sto → Prop} (hd : decode M.1 pc = .ok (.invokestatic 244, 3)) (hM : M.2.1 = RX10) (hn : pc + 3 = npc) (hcat : (st.map (fun v => v.category)).sum ≤ 8) (hR : 0 + 1 ≤ M.2.2.2.2.frames ∧ 8 + (2 + 11) + 0 ≤ M.2.2.2.2.locals) (h : K_Cg_clearChips k0 s Q) (k' : ∀ s1, Q s1 → Go SC M F npc l st s1) : Go SC M F pc l (.ref k0 :: st) s := g_callS (as := [.ref k0]) (st := st) hd hn rfl (show okS M 244 yX10_clearChips cX10_clearChips 2 none 1 from ⟨⟨by rw [hM]; exact tw_356, tw_357, tw_65, tw_358⟩, by decide, by decide, by decide +kernel⟩) rfl hcat ⟨rfl, rfl⟩ hR h (fun r s1 h => by obtain ⟨rfl, h2⟩ := h; exact k' s1 h2)
theorem iv_Cg_112 {M : Mth} {F : Option Value → Sto → Prop} {pc npc : Nat} {l : List (Nat × Value)} {st : List Value} {s : Sto} {Q : Sto → Prop} (hd : decode M.1 pc = .ok (.invokevirtual 112, 3)) (hM : M.2.1 = RX10) (hn : pc + 3 = npc) (hcat : (st.map (fun v => v.category)).sum ≤ 8) (hR : 1 + 1 ≤ M.2.2.2.2.frames ∧ 8 + (1 + 11) + 21 ≤ M.2.2.2.2.locals) (h : K_Cg_forgetStates s Q) (k' : ∀ s1, Q s1 → Go SC M F npc l st s1) : Go SC M F pc l (.ref 0 :: st) s := g_callV (k := 0) (as := []) (st := st) hd hn rfl ⟨by decide, rfl⟩ rfl rfl (show okV M 112 RX10 yX10_forgetStates cX10_forgetStates 1 none 0 from ⟨⟨by rw [hM]; exact tw_359, tw_361, tw_2, tw_65, tw_362⟩, rfl, by decide, by decide, by decide +kernel⟩) rfl hcat ⟨rfl, rfl⟩ hR h (fun r s1 h => by obtain ⟨rfl, h2⟩ := h; exact k' s1 h2)
theorem gf_Cg_98 {M : Mth} {F : Option Value → Sto → Prop} {pc npc : Nat} {l : List (Nat × Value)} {st : List Value} {s : Sto} (hd : decode M.1 pc = .ok (.getfield 98, 3)) (hM : M.2.1 = RX10) (hn : pc + 3 = npc) (k' : Go SC M F npc l (iV (s 1 0) :: st) s) : Go SC M F pc l (.ref 1 :: st) s := g_get (f := 0) hd hn ⟨by decide, rfl, rfl⟩ rfl inw_X2 (by decide) (by rw [hM]; exact tw_101) rfl (Or.inl ⟨rfl, rfl⟩) k'
theorem iv_Cg_102 {M : Mth} {F : Option Value → Sto → Prop} {pc npc : Nat} {l : List (Nat × Value)} {st : List Value} {s : Sto} {x1 : Int} {Q : Sto → Prop} (hd : decode M.1 pc = .ok (.invokevirtual 102, 3)) (hM : M.2.1 = RX10) (hn : pc + 3 = npc) (hcat : (st.map (fun v => v.category)).sum ≤ 8) (hR : 2 + 1 ≤ M.2.2.2.2.frames ∧ 8 + (2 + 11) + 41 ≤ M.2.2.2.2.locals) (h : K_Cg_startAnew x1 s Q) (k' : ∀ s1, Q s1 → Go SC M F npc l st s1) : Go SC M F pc l (iV x1 :: .ref 0 :: st) s := g_callV (k := 0) (as := [iV x1]) (st := st) hd hn rfl ⟨by decide, rfl⟩ rfl rfl (show okV M 102 RX10 yX10_startAnew cX10_startAnew 2 none 1 from ⟨⟨by rw [hM]; exact tw_352, tw_354, tw_1, tw_65, tw_355⟩, rfl, by decide, by decide, by decide +kernel⟩) rfl hcat ⟨rfl, rfl⟩ hR h (fun r s1 h => by obtain ⟨rfl, h2⟩ := h; exact k' s1 h2)
theorem iv_Cg_105 {M : Mth} {F : Option Value → Sto → Prop} {pc npc : Nat} {l : List (Nat × Value)} {st : List Value} {s : Sto} {x1 : Int} {Q : Int → Sto → Prop} (hd : decode M.1 pc = .ok (.invokevirtual 105, 3)) (hM : M.2.1 = RX10) (hn : pc + 3 = npc) (hcat : (st.map (fun v => v.category)).sum ≤ 8) (hR : 0 + 1 ≤ M.2.2.2.2.frames ∧ 8 + (2 + 11) + 0 ≤ M.2.2.2.2.locals) (h : K_Gr_hasNode x1 s Q) (k' : ∀ r s1, Q r s1 → Go SC M F npc l (iV r :: st) s1) : Go SC M F pc l (iV x1 :: .ref 1 :: st) s := g_callV (k := 1) (as := [iV x1]) (st := st) hd hn rfl ⟨by decide, rfl⟩ rfl rfl (show okV M 105 RX2 yX2_hasNode cX2_hasNode 2 (some .boolean) 1 from ⟨⟨by rw [hM]; exact tw_375, tw_304, tw_305, tw_66, tw_306⟩, rfl, by decide, by decide, by decide +kernel⟩) rfl hcat ⟨rfl, rfl⟩ hR h (fun r s1 h => by obtain ⟨x, rfl, h2⟩ := h; exact k' x s1 h2)
theorem gf_Cg_109 {M : Mth} {F : Option Value → Sto → Prop} {pc npc : Nat} {l : List (Nat × Value)} {st : List Value} {s : Sto} (hd : decode M.1 pc = .ok (.getfield 109, 3)) (hM : M.2.1 = RX10) (hn : pc + 3 = npc) (k' : Go SC M F npc l (iV (s 1 1) :: st) s) : Go SC M F pc l (.ref 1 :: st) s := g_get (f := 1) hd hn ⟨by decide, rfl, rfl⟩ rfl inw_X2 (by decide) (by rw [hM]; exact tw_109) rfl (Or.inl ⟨rfl, rfl⟩) k'
theorem iv_Cg_94 {M : Mth} {F : Option Value → Sto → Prop} {pc npc : Nat} {l : List (Nat × Value)} {st : List Value} {s : Sto} {x1 : Int} {x2 : Int} {Q : Sto → Prop} (hd : decode M.1 pc = .ok (.invokevirtual 94, 3)) (hM : M.2.1 = RX10) (hn : pc + 3 = npc) (hcat : (st.map (fun v => v.category)).sum ≤ 8) (hR : 2 + 1 ≤ M.2.2.2.2.frames ∧ 8 + (3 + 11) + 44 ≤ M.2.2.2.2.locals) (h : K_Gr_append x1 x2 s Q) (k' : ∀ s1, Q s1 → Go SC M F npc l st s1) : Go SC M F pc l (iV x2 :: iV x1 :: .ref 1 :: st) s := g_callV (k := 1) (as := [iV x1, iV x2]) (st := st) hd hn rfl ⟨by decide, rfl⟩ rfl rfl (show okV M 94 RX2 yX2_append cX2_append 3 none 2 from ⟨⟨by rw [hM]; exact tw_299, tw_300, tw_301, tw_66, tw_302⟩, rfl, by decide, by decide, by decide +kernel⟩) rfl hcat ⟨rfl, rfl⟩ hR h (fun r s1 h => by obtain ⟨rfl, h2⟩ := h; exact k' s1 h2)
theorem iv_Gr_47 {M : Mth} {F : Option Value → Sto → Prop} {pc npc : Nat} {l : List (Nat × Value)} {st : List Value} {s : Sto} {x1 : Int} {Q : Int → Sto → Prop} (hd : decode M.1 pc = .ok (.invokevirtual 47, 3)) (hM : M.2.1 = RX2) (hn : pc + 3 = npc) (hcat : (st.map (fun v => v.category)).sum ≤ 8) (hR : 0 + 1 ≤ M.2.2.2.2.frames ∧ 8 + (2 + 11) + 0 ≤ M.2.2.2.2.locals) (h : K_Gr_hasEdge x1 s Q) (k' : ∀ r s1, Q r s1 → Go SC M F npc l (iV r :: st) s1) : Go SC M F pc l (iV x1 :: .ref 1 :: st) s := g_callV (k := 1) (as := [iV x1]) (st := st) hd hn rfl ⟨by decide, rfl⟩ rfl rfl (show okV M 47 RX2 yX2_hasEdge cX2_hasEdge 2 (some .boolean) 1 from ⟨⟨by rw [hM]; exact tw_388, tw_381, tw_382, tw_66, tw_383⟩, rfl, by decide, by decide, by decide +kernel⟩) rfl hcat ⟨rfl, rfl⟩ hR h (fun r s1 h => by obtain ⟨x, rfl, h2⟩ := h; exact k' x s1 h2)
theorem iv_Cg_115 {M : Mth} {F : Option Value → Sto → Prop} {pc npc : Nat} {l : List (Nat × Value)} {st : List Value} {s : Sto} {x1 : Int} {Q : Int → Sto → Prop} (hd : decode M.1 pc = .ok (.invokevirtual 115, 3)) (hM : M.2.1 = RX10) (hn : pc + 3 = npc) (hcat : (st.map (fun v => v.category)).sum ≤ 8) (hR : 0 + 1 ≤ M.2.2.2.2.frames ∧ 8 + (2 + 11) + 0 ≤ M.2.2.2.2.locals) (h : K_Gr_hasEdge x1 s Q) (k' : ∀ r s1, Q r s1 → Go SC M F npc l (iV r :: st) s1) : Go SC M F pc l (iV x1 :: .ref 1 :: st) s := g_callV (k := 1) (as := [iV x1]) (st := st) hd hn rfl ⟨by decide, rfl⟩ rfl rfl (show okV M 115 RX2 yX2_hasEdge cX2_hasEdge 2 (some .boolean) 1 from ⟨⟨by rw [hM]; exact tw_380, tw_381, tw_382, tw_66, tw_383⟩, rfl, by decide, by decide, by decide +kernel⟩) rfl hcat ⟨rfl, rfl⟩ hR h (fun r s1 h => by obtain ⟨x, rfl, h2⟩ := h; exact k' x s1 h2)
theorem iv_Cg_118 {M : Mth} {F : Option Value → Sto → Prop} {pc npc : Nat} {l : List (Nat × Value)} {st : List Value} {s : Sto} {x1 : Int} {Q : Sto → Prop} (hd : decode M.1 pc = .ok (.invokevirtual 118, 3)) (hM : M.2.1 = RX10) (hn : pc + 3 = npc) (hcat : (st.map (fun v => v.category)).sum ≤ 8) (hR : 2 + 1 ≤ M.2.2.2.2.frames ∧ 8 + (3 + 11) + 44 ≤ M.2.2.2.2.locals) (h : K_Gr_drop x1 s Q) (k' : ∀ s1, Q s1 → Go SC M F npc l st s1) : Go SC M F pc l (iV x1 :: .ref 1 :: st) s := g_callV (k := 1) (as := [iV x1]) (st := st) hd hn rfl ⟨by decide, rfl⟩ rfl rfl (show okV M 118 RX2 yX2_drop cX2_drop 3 none 1 from ⟨⟨by rw [hM]; exact tw_384, tw_385, tw_386, tw_66, tw_387⟩, rfl, by decide, by decide, by decide +kernel⟩) rfl hcat ⟨rfl, rfl⟩ hR h (fun r s1 h => by obtain ⟨rfl, h2⟩ := h; exact k' s1 h2)
theorem gf_Cg_121 {M : Mth} {F : Option Value → Sto → Prop} {pc npc : Nat} {l : List (Nat × Value)} {st : List Value} {s : Sto} (hd : decode M.1 pc = .ok (.getfield 121, 3)) (hM : M.2.1 = RX10) (hn : pc + 3 = npc) (k' : Go SC M F npc l (iV (s 1 2) :: st) s) : Go SC M F pc l (.ref 1 :: st) s := g_get (f := 2) hd hn ⟨by decide, rfl, rfl⟩ rfl inw_X2 (by decide) (by rw [hM]; exact tw_113) rfl (Or.inl ⟨rfl, rfl⟩) k'
theorem pf_Cg_121 {M : Mth} {F : Option Value → Sto → Prop} {pc npc : Nat} {l : List (Nat × Value)} {st : List Value} {s : Sto} {x : Int} (hd : decode M.1 pc = .ok (.putfield 121, 3)) (hM : M.2.1 = RX10) (hn : pc + 3 = npc) (k' : Go SC M F npc l st (up s 1 2 x)) : Go SC M F pc l (iV x :: .ref 1 :: st) s := g_put (f := 2) tyX2 hd hn ⟨by decide, rfl, rfl⟩ rfl inw_X2 tyX2_ok nmX2 (by decide) (by rw [hM]; exact tw_113) rfl rfl rfl ⟨rfl, rfl⟩ k'
theorem gf_Tx_9 {M : Mth} {F : Option Value → Sto → Prop} {pc npc : Nat} {l : List (Nat × Value)} {st : List Value} {s : Sto} (hd : decode M.1 pc = .ok (.getfield 9, 3)) (hM : M.2.1 = RX8) (hn : pc + 3 = npc) (k' : Go SC M F npc l (iV (s 2 0) :: st) s) : Go SC M F pc l (.ref 2 :: st) s := g_get (f := 0) hd hn ⟨by decide, rfl, rfl⟩ rfl inw_X8 (by decide) (by rw [hM]; exact tw_156) rfl (Or.inl ⟨rfl, rfl⟩) k'
theorem gf_Tx_15 {M : Mth} {F : Option Value → Sto → Prop} {pc npc : Nat} {l : List (Nat × Value)} {st : List Value} {s : Sto} (hd : decode M.1 pc = .ok (.getfield 15, 3)) (hM : M.2.1 = RX8) (hn : pc + 3 = npc) (k' : Go SC M F npc l (.ref 26 :: st) s) : Go SC M F pc l (.ref 2 :: st) s := g_get (f := 1) hd hn ⟨by decide, rfl, rfl⟩ rfl inw_X8 (by decide) (by rw [hM]; exact tw_158) rfl (Or.inr ⟨_, rfl, rfl⟩) k'
theorem pf_Tx_9 {M : Mth} {F : Option Value → Sto → Prop} {pc npc : Nat} {l : List (Nat × Value)} {st : List Value} {s : Sto} {x : Int} (hd : decode M.1 pc = .ok (.putfield 9, 3)) (hM : M.2.1 = RX8) (hn : pc + 3 = npc) (k' : Go SC M F npc l st (up s 2 0 x)) : Go SC M F pc l (iV x :: .ref 2 :: st) s := g_put (f := 0) tyX8 hd hn ⟨by decide, rfl, rfl⟩ rfl inw_X8 tyX8_ok nmX8 (by decide) (by rw [hM]; exact tw_156) rfl rfl rfl ⟨rfl, rfl⟩ k'
theorem gf_Cg_21 {M : Mth} {F : Option Value → Sto → Prop} {pc npc : Nat} {l : List (Nat × Value)} {st : List Value} {s : Sto} (hd : decode M.1 pc = .ok (.getfield 21, 3)) (hM : M.2.1 = RX10) (hn : pc + 3 = npc) (k' : Go SC M F npc l (.ref 2 :: st) s) : Go SC M F pc l (.ref 0 :: st) s := g_get (f := 1) hd hn ⟨by decide, rfl, rfl⟩ rfl inw_X10 (by decide) (by rw [hM]; exact tw_312) rfl (Or.inr ⟨_, rfl, rfl⟩) k'
theorem gf_Cg_124 {M : Mth} {F : Option Value → Sto → Prop} {pc npc : Nat} {l : List (Nat × Value)} {st : List Value} {s : Sto} (hd : decode M.1 pc = .ok (.getfield 124, 3)) (hM : M.2.1 = RX10) (hn : pc + 3 = npc) (k' : Go SC M F npc l (iV (s 2 0) :: st) s) : Go SC M F pc l (.ref 2 :: st) s := g_get (f := 0) hd hn ⟨by decide, rfl, rfl⟩ rfl inw_X8 (by decide) (by rw [hM]; exact tw_157) rfl (Or.inl ⟨rfl, rfl⟩) k'
theorem iv_Cg_127 {M : Mth} {F : Option Value → Sto → Prop} {pc npc : Nat} {l : List (Nat × Value)} {st : List Value} {s : Sto} {x1 : Int} {Q : Sto → Prop} (hd : decode M.1 pc = .ok (.invokevirtual 127, 3)) (hM : M.2.1 = RX10) (hn : pc + 3 = npc) (hcat : (st.map (fun v => v.category)).sum ≤ 8) (hR : 0 + 1 ≤ M.2.2.2.2.frames ∧ 8 + (2 + 11) + 0 ≤ M.2.2.2.2.locals) (h : K_Tx_append x1 s Q) (k' : ∀ s1, Q s1 → Go SC M F npc l st s1) : Go SC M F pc l (iV x1 :: .ref 2 :: st) s := g_callV (k := 2) (as := [iV x1]) (st := st) hd hn rfl ⟨by decide, rfl⟩ rfl rfl (show okV M 127 RX8 yX8_append cX8_append 2 none 1 from ⟨⟨by rw [hM]; exact tw_397, tw_398, tw_399, tw_67, tw_400⟩, rfl, by decide, by decide, by decide +kernel⟩) rfl hcat ⟨rfl, rfl⟩ hR h (fun r s1 h => by obtain ⟨rfl, h2⟩ := h; exact k' s1 h2)
theorem pf_Cg_124 {M : Mth} {F : Option Value → Sto → Prop} {pc npc : Nat} {l : List (Nat × Value)} {st : List Value} {s : Sto} {x : Int} (hd : decode M.1 pc = .ok (.putfield 124, 3)) (hM : M.2.1 = RX10) (hn : pc + 3 = npc) (k' : Go SC M F npc l st (up s 2 0 x)) : Go SC M F pc l (iV x :: .ref 2 :: st) s := g_put (f := 0) tyX8 hd hn ⟨by decide, rfl, rfl⟩ rfl inw_X8 tyX8_ok nmX8 (by decide) (by rw [hM]; exact tw_157) rfl rfl rfl ⟨rfl, rfl⟩ k'
theorem iv_Sh_32 {M : Mth} {F : Option Value → Sto → Prop} {pc npc : Nat} {l : List (Nat × Value)} {st : List Value} {s : Sto} {x1 : Int} {x2 : Int} {Q : Sto → Prop} (hd : decode M.1 pc = .ok (.invokevirtual 32, 3)) (hM : M.2.1 = RX6) (hn : pc + 3 = npc) (hcat : (st.map (fun v => v.category)).sum ≤ 8) (hR : 2 + 1 ≤ M.2.2.2.2.frames ∧ 8 + (3 + 11) + 44 ≤ M.2.2.2.2.locals) (h : K_Gr_append x1 x2 s Q) (k' : ∀ s1, Q s1 → Go SC M F npc l st s1) : Go SC M F pc l (iV x2 :: iV x1 :: .ref 1 :: st) s := g_callV (k := 1) (as := [iV x1, iV x2]) (st := st) hd hn rfl ⟨by decide, rfl⟩ rfl rfl (show okV M 32 RX2 yX2_append cX2_append 3 none 2 from ⟨⟨by rw [hM]; exact tw_491, tw_300, tw_301, tw_66, tw_302⟩, rfl, by decide, by decide, by decide +kernel⟩) rfl hcat ⟨rfl, rfl⟩ hR h (fun r s1 h => by obtain ⟨rfl, h2⟩ := h; exact k' s1 h2)
theorem iv_Sh_28 {M : Mth} {F : Option Value → Sto → Prop} {pc npc : Nat} {l : List (Nat × Value)} {st : List Value} {s : Sto} {x1 : Int} {x2 : Int} {Q : Sto → Prop} (hd : decode M.1 pc = .ok (.invokestatic 28, 3)) (hM : M.2.1 = RX6) (hn : pc + 3 = npc) (hcat : (st.map (fun v => v.category)).sum ≤ 8) (hR : 3 + 1 ≤ M.2.2.2.2.frames ∧ 8 + (4 + 11) + 66 ≤ M.2.2.2.2.locals) (h : K_Sh_drawPath x1 x2 s Q) (k' : ∀ s1, Q s1 → Go SC M F npc l st s1) : Go SC M F pc l (iV x2 :: iV x1 :: .ref 1 :: st) s := g_callS (as := [.ref 1, iV x1, iV x2]) (st := st) hd hn rfl (show okS M 28 yX6_drawPath cX6_drawPath 4 none 3 from ⟨⟨by rw [hM]; exact tw_488, tw_489, tw_76, tw_490⟩, by decide, by decide, by decide +kernel⟩) rfl hcat ⟨rfl, rfl⟩ hR h (fun r s1 h => by obtain ⟨rfl, h2⟩ := h; exact k' s1 h2)
theorem iv_Sh_38 {M : Mth} {F : Option Value → Sto → Prop} {pc npc : Nat} {l : List (Nat × Value)} {st : List Value} {s : Sto} {x1 : Int} {x2 : Int} {Q : Sto → Prop} (hd : decode M.1 pc = .ok (.invokestatic 38, 3)) (hM : M.2.1 = RX6) (hn : pc + 3 = npc) (hcat : (st.map (fun v => v.category)).sum ≤ 8) (hR : 3 + 1 ≤ M.2.2.2.2.frames ∧ 8 + (4 + 11) + 66 ≤ M.2.2.2.2.locals) (h : K_Sh_drawRays x1 x2 s Q) (k' : ∀ s1, Q s1 → Go SC M F npc l st s1) : Go SC M F pc l (iV x2 :: iV x1 :: .ref 1 :: st) s := g_callS (as := [.ref 1, iV x1, iV x2]) (st := st) hd hn rfl (show okS M 38 yX6_drawRays cX6_drawRays 4 none 3 from ⟨⟨by rw [hM]; exact tw_492, tw_493, tw_76, tw_494⟩, by decide, by decide, by decide +kernel⟩) rfl hcat ⟨rfl, rfl⟩ hR h (fun r s1 h => by obtain ⟨rfl, h2⟩ := h; exact k' s1 h2)
theorem iv_Cg_130 {M : Mth} {F : Option Value → Sto → Prop} {pc npc : Nat} {l : List (Nat × Value)} {st : List Value} {s : Sto} {Q : Int → Sto → Prop} (hd : decode M.1 pc = .ok (.invokevirtual 130, 3)) (hM : M.2.1 = RX10) (hn : pc + 3 = npc) (hcat : (st.map (fun v => v.category)).sum ≤ 8) (hR : 6 + 1 ≤ M.2.2.2.2.frames ∧ 8 + (2 + 11) + 128 ≤ M.2.2.2.2.locals) (h : K_Tx_findShape s Q) (k' : ∀ r s1, Q r s1 → Go SC M F npc l (iV r :: st) s1) : Go SC M F pc l (.ref 2 :: st) s := g_callV (k := 2) (as := []) (st := st) hd hn rfl ⟨by decide, rfl⟩ rfl rfl (show okV M 130 RX8 yX8_findShape cX8_findShape 2 (some .int) 0 from ⟨⟨by rw [hM]; exact tw_409, tw_410, tw_411, tw_67, tw_412⟩, rfl, by decide, by decide, by decide +kernel⟩) rfl hcat ⟨rfl, rfl⟩ hR h (fun r s1 h => by obtain ⟨x, rfl, h2⟩ := h; exact k' x s1 h2)
theorem iv_Cg_134 {M : Mth} {F : Option Value → Sto → Prop} {pc npc : Nat} {l : List (Nat × Value)} {st : List Value} {s : Sto} {Q : Int → Sto → Prop} (hd : decode M.1 pc = .ok (.invokevirtual 134, 3)) (hM : M.2.1 = RX10) (hn : pc + 3 = npc) (hcat : (st.map (fun v => v.category)).sum ≤ 8) (hR : 0 + 1 ≤ M.2.2.2.2.frames ∧ 8 + (2 + 11) + 0 ≤ M.2.2.2.2.locals) (h : K_Tx_lastDigit s Q) (k' : ∀ r s1, Q r s1 → Go SC M F npc l (iV r :: st) s1) : Go SC M F pc l (.ref 2 :: st) s := g_callV (k := 2) (as := []) (st := st) hd hn rfl ⟨by decide, rfl⟩ rfl rfl (show okV M 134 RX8 yX8_lastDigit cX8_lastDigit 2 (some .int) 0 from ⟨⟨by rw [hM]; exact tw_474, tw_475, tw_476, tw_67, tw_477⟩, rfl, by decide, by decide, by decide +kernel⟩) rfl hcat ⟨rfl, rfl⟩ hR h (fun r s1 h => by obtain ⟨x, rfl, h2⟩ := h; exact k' x s1 h2)
theorem iv_Cg_137 {M : Mth} {F : Option Value → Sto → Prop} {pc npc : Nat} {l : List (Nat × Value)} {st : List Value} {s : Sto} {x0 : Int} {x1 : Int} {Q : Int → Sto → Prop} (hd : decode M.1 pc = .ok (.invokestatic 137, 3)) (hM : M.2.1 = RX10) (hn : pc + 3 = npc) (hcat : (st.map (fun v => v.category)).sum ≤ 8) (hR : 0 + 1 ≤ M.2.2.2.2.frames ∧ 8 + (2 + 11) + 0 ≤ M.2.2.2.2.locals) (h : K_Sh_allows x0 x1 s Q) (k' : ∀ r s1, Q r s1 → Go SC M F npc l (iV r :: st) s1) : Go SC M F pc l (iV x1 :: iV x0 :: st) s := g_callS (as := [iV x0, iV x1]) (st := st) hd hn rfl (show okS M 137 yX6_allows cX6_allows 2 (some .boolean) 2 from ⟨⟨by rw [hM]; exact tw_478, tw_479, tw_76, tw_480⟩, by decide, by decide, by decide +kernel⟩) rfl hcat ⟨rfl, rfl⟩ hR h (fun r s1 h => by obtain ⟨x, rfl, h2⟩ := h; exact k' x s1 h2)
theorem iv_Cg_143 {M : Mth} {F : Option Value → Sto → Prop} {pc npc : Nat} {l : List (Nat × Value)} {st : List Value} {s : Sto} {x1 : Int} {x2 : Int} {Q : Sto → Prop} (hd : decode M.1 pc = .ok (.invokestatic 143, 3)) (hM : M.2.1 = RX10) (hn : pc + 3 = npc) (hcat : (st.map (fun v => v.category)).sum ≤ 8) (hR : 4 + 1 ≤ M.2.2.2.2.frames ∧ 8 + (4 + 11) + 89 ≤ M.2.2.2.2.locals) (h : K_Sh_draw x1 x2 s Q) (k' : ∀ s1, Q s1 → Go SC M F npc l st s1) : Go SC M F pc l (iV x2 :: iV x1 :: .ref 1 :: st) s := g_callS (as := [.ref 1, iV x1, iV x2]) (st := st) hd hn rfl (show okS M 143 yX6_draw cX6_draw 4 none 3 from ⟨⟨by rw [hM]; exact tw_485, tw_486, tw_76, tw_487⟩, by decide, by decide, by decide +kernel⟩) rfl hcat ⟨rfl, rfl⟩ hR h (fun r s1 h => by obtain ⟨rfl, h2⟩ := h; exact k' s1 h2)
theorem gf_Gr_36 {M : Mth} {F : Option Value → Sto → Prop} {pc npc : Nat} {l : List (Nat × Value)} {st : List Value} {s : Sto} (hd : decode M.1 pc = .ok (.getfield 36, 3)) (hM : M.2.1 = RX2) (hn : pc + 3 = npc) (k' : Go SC M F npc l (.ref 25 :: st) s) : Go SC M F pc l (.ref 1 :: st) s := g_get (f := 7) hd hn ⟨by decide, rfl, rfl⟩ rfl inw_X2 (by decide) (by rw [hM]; exact tw_130) rfl (Or.inr ⟨_, rfl, rfl⟩) k'
theorem iv_Gr_66 {M : Mth} {F : Option Value → Sto → Prop} {pc npc : Nat} {l : List (Nat × Value)} {st : List Value} {s : Sto} {x1 : Int} {x2 : Int} {Q : Sto → Prop} (hd : decode M.1 pc = .ok (.invokevirtual 66, 3)) (hM : M.2.1 = RX2) (hn : pc + 3 = npc) (hcat : (st.map (fun v => v.category)).sum ≤ 8) (hR : 0 + 1 ≤ M.2.2.2.2.frames ∧ 8 + (4 + 11) + 0 ≤ M.2.2.2.2.locals) (h : K_Gr_relabel x1 x2 s Q) (k' : ∀ s1, Q s1 → Go SC M F npc l st s1) : Go SC M F pc l (iV x2 :: iV x1 :: .ref 1 :: st) s := g_callV (k := 1) (as := [iV x1, iV x2]) (st := st) hd hn rfl ⟨by decide, rfl⟩ rfl rfl (show okV M 66 RX2 yX2_relabel cX2_relabel 4 none 2 from ⟨⟨by rw [hM]; exact tw_512, tw_514, tw_4, tw_66, tw_515⟩, rfl, by decide, by decide, by decide +kernel⟩) rfl hcat ⟨rfl, rfl⟩ hR h (fun r s1 h => by obtain ⟨rfl, h2⟩ := h; exact k' s1 h2)
theorem iv_Gr_54 {M : Mth} {F : Option Value → Sto → Prop} {pc npc : Nat} {l : List (Nat × Value)} {st : List Value} {s : Sto} {Q : Int → Sto → Prop} (hd : decode M.1 pc = .ok (.invokevirtual 54, 3)) (hM : M.2.1 = RX2) (hn : pc + 3 = npc) (hcat : (st.map (fun v => v.category)).sum ≤ 8) (hR : 0 + 1 ≤ M.2.2.2.2.frames ∧ 8 + (1 + 11) + 0 ≤ M.2.2.2.2.locals) (h : K_Gr_allEdges s Q) (k' : ∀ r s1, Q r s1 → Go SC M F npc l (iV r :: st) s1) : Go SC M F pc l (.ref 1 :: st) s := g_callV (k := 1) (as := []) (st := st) hd hn rfl ⟨by decide, rfl⟩ rfl rfl (show okV M 54 RX2 yX2_allEdges cX2_allEdges 1 (some .int) 0 from ⟨⟨by rw [hM]; exact tw_504, tw_505, tw_506, tw_66, tw_507⟩, rfl, by decide, by decide, by decide +kernel⟩) rfl hcat ⟨rfl, rfl⟩ hR h (fun r s1 h => by obtain ⟨x, rfl, h2⟩ := h; exact k' x s1 h2)
theorem iv_Gr_58 {M : Mth} {F : Option Value → Sto → Prop} {pc npc : Nat} {l : List (Nat × Value)} {st : List Value} {s : Sto} {x1 : Int} {Q : Int → Sto → Prop} (hd : decode M.1 pc = .ok (.invokevirtual 58, 3)) (hM : M.2.1 = RX2) (hn : pc + 3 = npc) (hcat : (st.map (fun v => v.category)).sum ≤ 8) (hR : 1 + 1 ≤ M.2.2.2.2.frames ∧ 8 + (6 + 11) + 23 ≤ M.2.2.2.2.locals) (h : K_Gr_findParts x1 s Q) (k' : ∀ r s1, Q r s1 → Go SC M F npc l (iV r :: st) s1) : Go SC M F pc l (iV x1 :: .ref 1 :: st) s := g_callV (k := 1) (as := [iV x1]) (st := st) hd hn rfl ⟨by decide, rfl⟩ rfl rfl (show okV M 58 RX2 yX2_findParts cX2_findParts 6 (some .int) 1 from ⟨⟨by rw [hM]; exact tw_508, tw_509, tw_510, tw_66, tw_511⟩, rfl, by decide, by decide, by decide +kernel⟩) rfl hcat ⟨rfl, rfl⟩ hR h (fun r s1 h => by obtain ⟨x, rfl, h2⟩ := h; exact k' x s1 h2)
theorem gf_Gr_18 {M : Mth} {F : Option Value → Sto → Prop} {pc npc : Nat} {l : List (Nat × Value)} {st : List Value} {s : Sto} (hd : decode M.1 pc = .ok (.getfield 18, 3)) (hM : M.2.1 = RX2) (hn : pc + 3 = npc) (k' : Go SC M F npc l (iV (s 1 2) :: st) s) : Go SC M F pc l (.ref 1 :: st) s := g_get (f := 2) hd hn ⟨by decide, rfl, rfl⟩ rfl inw_X2 (by decide) (by rw [hM]; exact tw_110) rfl (Or.inl ⟨rfl, rfl⟩) k'
theorem iv_Gr_50 {M : Mth} {F : Option Value → Sto → Prop} {pc npc : Nat} {l : List (Nat × Value)} {st : List Value} {s : Sto} {x1 : Int} {Q : Int → Sto → Prop} (hd : decode M.1 pc = .ok (.invokevirtual 50, 3)) (hM : M.2.1 = RX2) (hn : pc + 3 = npc) (hcat : (st.map (fun v => v.category)).sum ≤ 8) (hR : 1 + 1 ≤ M.2.2.2.2.frames ∧ 8 + (2 + 11) + 21 ≤ M.2.2.2.2.locals) (h : K_Gr_degreeOf x1 s Q) (k' : ∀ r s1, Q r s1 → Go SC M F npc l (iV r :: st) s1) : Go SC M F pc l (iV x1 :: .ref 1 :: st) s := g_callV (k := 1) (as := [iV x1]) (st := st) hd hn rfl ⟨by decide, rfl⟩ rfl rfl (show okV M 50 RX2 yX2_degreeOf cX2_degreeOf 2 (some .int) 1 from ⟨⟨by rw [hM]; exact tw_523, tw_524, tw_525, tw_66, tw_526⟩, rfl, by decide, by decide, by decide +kernel⟩) rfl hcat ⟨rfl, rfl⟩ hR h (fun r s1 h => by obtain ⟨x, rfl, h2⟩ := h; exact k' x s1 h2)
theorem iv_Cg_147 {M : Mth} {F : Option Value → Sto → Prop} {pc npc : Nat} {l : List (Nat × Value)} {st : List Value} {s : Sto} {Q : Int → Sto → Prop} (hd : decode M.1 pc = .ok (.invokevirtual 147, 3)) (hM : M.2.1 = RX10) (hn : pc + 3 = npc) (hcat : (st.map (fun v => v.category)).sum ≤ 8) (hR : 2 + 1 ≤ M.2.2.2.2.frames ∧ 8 + (1 + 11) + 48 ≤ M.2.2.2.2.locals) (h : K_Gr_isConnected s Q) (k' : ∀ r s1, Q r s1 → Go SC M F npc l (iV r :: st) s1) : Go SC M F pc l (.ref 1 :: st) s := g_callV (k := 1) (as := []) (st := st) hd hn rfl ⟨by decide, rfl⟩ rfl rfl (show okV M 147 RX2 yX2_isConnected cX2_isConnected 1 (some .boolean) 0 from ⟨⟨by rw [hM]; exact tw_500, tw_501, tw_502, tw_66, tw_503⟩, rfl, by decide, by decide, by decide +kernel⟩) rfl hcat ⟨rfl, rfl⟩ hR h (fun r s1 h => by obtain ⟨x, rfl, h2⟩ := h; exact k' x s1 h2)
theorem iv_Cg_151 {M : Mth} {F : Option Value → Sto → Prop} {pc npc : Nat} {l : List (Nat × Value)} {st : List Value} {s : Sto} {k0 : Nat} {Q : Int → Sto → Prop} (hd : decode M.1 pc = .ok (.invokestatic 151, 3)) (hM : M.2.1 = RX10) (hn : pc + 3 = npc) (hcat : (st.map (fun v => v.category)).sum ≤ 8) (hR : 0 + 1 ≤ M.2.2.2.2.frames ∧ 8 + (3 + 11) + 0 ≤ M.2.2.2.2.locals) (h : K_Cg_sumOf k0 s Q) (k' : ∀ r s1, Q r s1 → Go SC M F npc l (iV r :: st) s1) : Go SC M F pc l (.ref k0 :: st) s := g_callS (as := [.ref k0]) (st := st) hd hn rfl (show okS M 151 yX10_sumOf cX10_sumOf 3 (some .int) 1 from ⟨⟨by rw [hM]; exact tw_516, tw_517, tw_65, tw_518⟩, by decide, by decide, by decide +kernel⟩) rfl hcat ⟨rfl, rfl⟩ hR h (fun r s1 h => by obtain ⟨x, rfl, h2⟩ := h; exact k' x s1 h2)
theorem gf_Cg_155 {M : Mth} {F : Option Value → Sto → Prop} {pc npc : Nat} {l : List (Nat × Value)} {st : List Value} {s : Sto} (hd : decode M.1 pc = .ok (.getfield 155, 3)) (hM : M.2.1 = RX10) (hn : pc + 3 = npc) (k' : Go SC M F npc l (iV (s 3 0) :: st) s) : Go SC M F pc l (.ref 3 :: st) s := g_get (f := 0) hd hn ⟨by decide, rfl, rfl⟩ rfl inw_X3 (by decide) (by rw [hM]; exact tw_173) rfl (Or.inl ⟨rfl, rfl⟩) k'
theorem iv_Cg_158 {M : Mth} {F : Option Value → Sto → Prop} {pc npc : Nat} {l : List (Nat × Value)} {st : List Value} {s : Sto} {Q : Int → Sto → Prop} (hd : decode M.1 pc = .ok (.invokevirtual 158, 3)) (hM : M.2.1 = RX10) (hn : pc + 3 = npc) (hcat : (st.map (fun v => v.category)).sum ≤ 8) (hR : 2 + 1 ≤ M.2.2.2.2.frames ∧ 8 + (1 + 11) + 42 ≤ M.2.2.2.2.locals) (h : K_Gr_edgesAwayFromSink s Q) (k' : ∀ r s1, Q r s1 → Go SC M F npc l (iV r :: st) s1) : Go SC M F pc l (.ref 1 :: st) s := g_callV (k := 1) (as := []) (st := st) hd hn rfl ⟨by decide, rfl⟩ rfl rfl (show okV M 158 RX2 yX2_edgesAwayFromSink cX2_edgesAwayFromSink 1 (some .int) 0 from ⟨⟨by rw [hM]; exact tw_519, tw_520, tw_521, tw_66, tw_522⟩, rfl, by decide, by decide, by decide +kernel⟩) rfl hcat ⟨rfl, rfl⟩ hR h (fun r s1 h => by obtain ⟨x, rfl, h2⟩ := h; exact k' x s1 h2)
theorem iv_Cg_161 {M : Mth} {F : Option Value → Sto → Prop} {pc npc : Nat} {l : List (Nat × Value)} {st : List Value} {s : Sto} {x1 : Int} {Q : Int → Sto → Prop} (hd : decode M.1 pc = .ok (.invokevirtual 161, 3)) (hM : M.2.1 = RX10) (hn : pc + 3 = npc) (hcat : (st.map (fun v => v.category)).sum ≤ 8) (hR : 1 + 1 ≤ M.2.2.2.2.frames ∧ 8 + (2 + 11) + 21 ≤ M.2.2.2.2.locals) (h : K_Gr_degreeOf x1 s Q) (k' : ∀ r s1, Q r s1 → Go SC M F npc l (iV r :: st) s1) : Go SC M F pc l (iV x1 :: .ref 1 :: st) s := g_callV (k := 1) (as := [iV x1]) (st := st) hd hn rfl ⟨by decide, rfl⟩ rfl rfl (show okV M 161 RX2 yX2_degreeOf cX2_degreeOf 2 (some .int) 1 from ⟨⟨by rw [hM]; exact tw_531, tw_524, tw_525, tw_66, tw_526⟩, rfl, by decide, by decide, by decide +kernel⟩) rfl hcat ⟨rfl, rfl⟩ hR h (fun r s1 h => by obtain ⟨x, rfl, h2⟩ := h; exact k' x s1 h2)
theorem gf_Cg_168 {M : Mth} {F : Option Value → Sto → Prop} {pc npc : Nat} {l : List (Nat × Value)} {st : List Value} {s : Sto} (hd : decode M.1 pc = .ok (.getfield 168, 3)) (hM : M.2.1 = RX10) (hn : pc + 3 = npc) (k' : Go SC M F npc l (.ref 13 :: st) s) : Go SC M F pc l (.ref 1 :: st) s := g_get (f := 3) hd hn ⟨by decide, rfl, rfl⟩ rfl inw_X2 (by decide) (by rw [hM]; exact tw_120) rfl (Or.inr ⟨_, rfl, rfl⟩) k'
theorem gf_Cg_165 {M : Mth} {F : Option Value → Sto → Prop} {pc npc : Nat} {l : List (Nat × Value)} {st : List Value} {s : Sto} (hd : decode M.1 pc = .ok (.getfield 165, 3)) (hM : M.2.1 = RX10) (hn : pc + 3 = npc) (k' : Go SC M F npc l (.ref 14 :: st) s) : Go SC M F pc l (.ref 1 :: st) s := g_get (f := 4) hd hn ⟨by decide, rfl, rfl⟩ rfl inw_X2 (by decide) (by rw [hM]; exact tw_125) rfl (Or.inr ⟨_, rfl, rfl⟩) k'
theorem gf_Hi_9 {M : Mth} {F : Option Value → Sto → Prop} {pc npc : Nat} {l : List (Nat × Value)} {st : List Value} {s : Sto} (hd : decode M.1 pc = .ok (.getfield 9, 3)) (hM : M.2.1 = RX3) (hn : pc + 3 = npc) (k' : Go SC M F npc l (iV (s 3 0) :: st) s) : Go SC M F pc l (.ref 3 :: st) s := g_get (f := 0) hd hn ⟨by decide, rfl, rfl⟩ rfl inw_X3 (by decide) (by rw [hM]; exact tw_172) rfl (Or.inl ⟨rfl, rfl⟩) k'
theorem gf_Hi_20 {M : Mth} {F : Option Value → Sto → Prop} {pc npc : Nat} {l : List (Nat × Value)} {st : List Value} {s : Sto} (hd : decode M.1 pc = .ok (.getfield 20, 3)) (hM : M.2.1 = RX3) (hn : pc + 3 = npc) (k' : Go SC M F npc l (.ref 27 :: st) s) : Go SC M F pc l (.ref 3 :: st) s := g_get (f := 2) hd hn ⟨by decide, rfl, rfl⟩ rfl inw_X3 (by decide) (by rw [hM]; exact tw_175) rfl (Or.inr ⟨_, rfl, rfl⟩) k'
theorem gf_Hi_15 {M : Mth} {F : Option Value → Sto → Prop} {pc npc : Nat} {l : List (Nat × Value)} {st : List Value} {s : Sto} (hd : decode M.1 pc = .ok (.getfield 15, 3)) (hM : M.2.1 = RX3) (hn : pc + 3 = npc) (k' : Go SC M F npc l (iV (s 3 1) :: st) s) : Go SC M F pc l (.ref 3 :: st) s := g_get (f := 1) hd hn ⟨by decide, rfl, rfl⟩ rfl inw_X3 (by decide) (by rw [hM]; exact tw_174) rfl (Or.inl ⟨rfl, rfl⟩) k'
theorem iv_Hi_23 {M : Mth} {F : Option Value → Sto → Prop} {pc npc : Nat} {l : List (Nat × Value)} {st : List Value} {s : Sto} {k0 : Nat} {k1 : Nat} {Q : Sto → Prop} (hd : decode M.1 pc = .ok (.invokestatic 23, 3)) (hM : M.2.1 = RX3) (hn : pc + 3 = npc) (hcat : (st.map (fun v => v.category)).sum ≤ 8) (hR : 0 + 1 ≤ M.2.2.2.2.frames ∧ 8 + (3 + 11) + 0 ≤ M.2.2.2.2.locals) (h : K_Cg_copyChips k0 k1 s Q) (k' : ∀ s1, Q s1 → Go SC M F npc l st s1) : Go SC M F pc l (.ref k1 :: .ref k0 :: st) s := g_callN (as := [.ref k0, .ref k1]) (st := st) hd hn rfl (show okN M 23 yX10_copyChips cX10_copyChips 3 none 2 from ⟨⟨by rw [hM]; decide +kernel, tw_549, tw_65, tw_550⟩, by decide, by decide, by decide +kernel⟩) rfl hcat ⟨rfl, rfl⟩ hR h (fun r s1 h => by obtain ⟨rfl, h2⟩ := h; exact k' s1 h2)
theorem iv_Cg_171 {M : Mth} {F : Option Value → Sto → Prop} {pc npc : Nat} {l : List (Nat × Value)} {st : List Value} {s : Sto} {x1 : Int} {Q : Int → Sto → Prop} (hd : decode M.1 pc = .ok (.invokevirtual 171, 3)) (hM : M.2.1 = RX10) (hn : pc + 3 = npc) (hcat : (st.map (fun v => v.category)).sum ≤ 8) (hR : 1 + 1 ≤ M.2.2.2.2.frames ∧ 8 + (2 + 11) + 21 ≤ M.2.2.2.2.locals) (h : K_Gr_hasChipsAt x1 s Q) (k' : ∀ r s1, Q r s1 → Go SC M F npc l (iV r :: st) s1) : Go SC M F pc l (iV x1 :: .ref 1 :: st) s := g_callV (k := 1) (as := [iV x1]) (st := st) hd hn rfl ⟨by decide, rfl⟩ rfl rfl (show okV M 171 RX2 yX2_hasChipsAt cX2_hasChipsAt 2 (some .boolean) 1 from ⟨⟨by rw [hM]; exact tw_540, tw_541, tw_542, tw_66, tw_543⟩, rfl, by decide, by decide, by decide +kernel⟩) rfl hcat ⟨rfl, rfl⟩ hR h (fun r s1 h => by obtain ⟨x, rfl, h2⟩ := h; exact k' x s1 h2)
theorem iv_Cg_174 {M : Mth} {F : Option Value → Sto → Prop} {pc npc : Nat} {l : List (Nat × Value)} {st : List Value} {s : Sto} {k1 : Nat} {Q : Sto → Prop} (hd : decode M.1 pc = .ok (.invokevirtual 174, 3)) (hM : M.2.1 = RX10) (hn : pc + 3 = npc) (hcat : (st.map (fun v => v.category)).sum ≤ 8) (hR : 1 + 1 ≤ M.2.2.2.2.frames ∧ 8 + (2 + 11) + 22 ≤ M.2.2.2.2.locals) (h : K_Hi_record k1 s Q) (k' : ∀ s1, Q s1 → Go SC M F npc l st s1) : Go SC M F pc l (.ref k1 :: .ref 3 :: st) s := g_callV (k := 3) (as := [.ref k1]) (st := st) hd hn rfl ⟨by decide, rfl⟩ rfl rfl (show okV M 174 RX3 yX3_record cX3_record 2 none 1 from ⟨⟨by rw [hM]; exact tw_544, tw_545, tw_546, tw_68, tw_547⟩, rfl, by decide, by decide, by decide +kernel⟩) rfl hcat ⟨rfl, rfl⟩ hR h (fun r s1 h => by obtain ⟨rfl, h2⟩ := h; exact k' s1 h2)
theorem gf_Fi_15 {M : Mth} {F : Option Value → Sto → Prop} {pc npc : Nat} {l : List (Nat × Value)} {st : List Value} {s : Sto} (hd : decode M.1 pc = .ok (.getfield 15, 3)) (hM : M.2.1 = RX1) (hn : pc + 3 = npc) (k' : Go SC M F npc l (.ref 1 :: st) s) : Go SC M F pc l (.ref 6 :: st) s := g_get (f := 1) hd hn ⟨by decide, rfl, rfl⟩ rfl inw_X1 (by decide) (by rw [hM]; exact tw_223) rfl (Or.inr ⟨_, rfl, rfl⟩) k'
theorem iv_Fi_23 {M : Mth} {F : Option Value → Sto → Prop} {pc npc : Nat} {l : List (Nat × Value)} {st : List Value} {s : Sto} {x1 : Int} {Q : Int → Sto → Prop} (hd : decode M.1 pc = .ok (.invokevirtual 23, 3)) (hM : M.2.1 = RX1) (hn : pc + 3 = npc) (hcat : (st.map (fun v => v.category)).sum ≤ 8) (hR : 1 + 1 ≤ M.2.2.2.2.frames ∧ 8 + (2 + 11) + 21 ≤ M.2.2.2.2.locals) (h : K_Gr_degreeOf x1 s Q) (k' : ∀ r s1, Q r s1 → Go SC M F npc l (iV r :: st) s1) : Go SC M F pc l (iV x1 :: .ref 1 :: st) s := g_callV (k := 1) (as := [iV x1]) (st := st) hd hn rfl ⟨by decide, rfl⟩ rfl rfl (show okV M 23 RX2 yX2_degreeOf cX2_degreeOf 2 (some .int) 1 from ⟨⟨by rw [hM]; exact tw_563, tw_524, tw_525, tw_66, tw_526⟩, rfl, by decide, by decide, by decide +kernel⟩) rfl hcat ⟨rfl, rfl⟩ hR h (fun r s1 h => by obtain ⟨x, rfl, h2⟩ := h; exact k' x s1 h2)
theorem iv_Fi_29 {M : Mth} {F : Option Value → Sto → Prop} {pc npc : Nat} {l : List (Nat × Value)} {st : List Value} {s : Sto} {x1 : Int} {Q : Int → Sto → Prop} (hd : decode M.1 pc = .ok (.invokevirtual 29, 3)) (hM : M.2.1 = RX1) (hn : pc + 3 = npc) (hcat : (st.map (fun v => v.category)).sum ≤ 8) (hR : 1 + 1 ≤ M.2.2.2.2.frames ∧ 8 + (2 + 11) + 21 ≤ M.2.2.2.2.locals) (h : K_Gr_hasChipsAt x1 s Q) (k' : ∀ r s1, Q r s1 → Go SC M F npc l (iV r :: st) s1) : Go SC M F pc l (iV x1 :: .ref 1 :: st) s := g_callV (k := 1) (as := [iV x1]) (st := st) hd hn rfl ⟨by decide, rfl⟩ rfl rfl (show okV M 29 RX2 yX2_hasChipsAt cX2_hasChipsAt 2 (some .boolean) 1 from ⟨⟨by rw [hM]; exact tw_564, tw_541, tw_542, tw_66, tw_543⟩, rfl, by decide, by decide, by decide +kernel⟩) rfl hcat ⟨rfl, rfl⟩ hR h (fun r s1 h => by obtain ⟨x, rfl, h2⟩ := h; exact k' x s1 h2)
theorem gf_Fi_48 {M : Mth} {F : Option Value → Sto → Prop} {pc npc : Nat} {l : List (Nat × Value)} {st : List Value} {s : Sto} (hd : decode M.1 pc = .ok (.getfield 48, 3)) (hM : M.2.1 = RX1) (hn : pc + 3 = npc) (k' : Go SC M F npc l (.ref 15 :: st) s) : Go SC M F pc l (.ref 1 :: st) s := g_get (f := 5) hd hn ⟨by decide, rfl, rfl⟩ rfl inw_X2 (by decide) (by rw [hM]; exact tw_127) rfl (Or.inr ⟨_, rfl, rfl⟩) k'
theorem gf_Fi_52 {M : Mth} {F : Option Value → Sto → Prop} {pc npc : Nat} {l : List (Nat × Value)} {st : List Value} {s : Sto} (hd : decode M.1 pc = .ok (.getfield 52, 3)) (hM : M.2.1 = RX1) (hn : pc + 3 = npc) (k' : Go SC M F npc l (iV (s 1 2) :: st) s) : Go SC M F pc l (.ref 1 :: st) s := g_get (f := 2) hd hn ⟨by decide, rfl, rfl⟩ rfl inw_X2 (by decide) (by rw [hM]; exact tw_115) rfl (Or.inl ⟨rfl, rfl⟩) k'
theorem iv_Fi_41 {M : Mth} {F : Option Value → Sto → Prop} {pc npc : Nat} {l : List (Nat × Value)} {st : List Value} {s : Sto} {x1 : Int} {Q : Int → Sto → Prop} (hd : decode M.1 pc = .ok (.invokevirtual 41, 3)) (hM : M.2.1 = RX1) (hn : pc + 3 = npc) (hcat : (st.map (fun v => v.category)).sum ≤ 8) (hR : 0 + 1 ≤ M.2.2.2.2.frames ∧ 8 + (2 + 11) + 0 ≤ M.2.2.2.2.locals) (h : K_Gr_hasNode x1 s Q) (k' : ∀ r s1, Q r s1 → Go SC M F npc l (iV r :: st) s1) : Go SC M F pc l (iV x1 :: .ref 1 :: st) s := g_callV (k := 1) (as := [iV x1]) (st := st) hd hn rfl ⟨by decide, rfl⟩ rfl rfl (show okV M 41 RX2 yX2_hasNode cX2_hasNode 2 (some .boolean) 1 from ⟨⟨by rw [hM]; exact tw_569, tw_304, tw_305, tw_66, tw_306⟩, rfl, by decide, by decide, by decide +kernel⟩) rfl hcat ⟨rfl, rfl⟩ hR h (fun r s1 h => by obtain ⟨x, rfl, h2⟩ := h; exact k' x s1 h2)
theorem gf_Fi_33 {M : Mth} {F : Option Value → Sto → Prop} {pc npc : Nat} {l : List (Nat × Value)} {st : List Value} {s : Sto} (hd : decode M.1 pc = .ok (.getfield 33, 3)) (hM : M.2.1 = RX1) (hn : pc + 3 = npc) (k' : Go SC M F npc l (iV (s 1 0) :: st) s) : Go SC M F pc l (.ref 1 :: st) s := g_get (f := 0) hd hn ⟨by decide, rfl, rfl⟩ rfl inw_X2 (by decide) (by rw [hM]; exact tw_103) rfl (Or.inl ⟨rfl, rfl⟩) k'
theorem iv_Fi_44 {M : Mth} {F : Option Value → Sto → Prop} {pc npc : Nat} {l : List (Nat × Value)} {st : List Value} {s : Sto} {k1 : Nat} {x2 : Int} {x3 : Int} {x4 : Int} {Q : Sto → Prop} (hd : decode M.1 pc = .ok (.invokevirtual 44, 3)) (hM : M.2.1 = RX1) (hn : pc + 3 = npc) (hcat : (st.map (fun v => v.category)).sum ≤ 8) (hR : 0 + 1 ≤ M.2.2.2.2.frames ∧ 8 + (6 + 11) + 0 ≤ M.2.2.2.2.locals) (h : K_Fi_giveAlong k1 x2 x3 x4 s Q) (k' : ∀ s1, Q s1 → Go SC M F npc l st s1) : Go SC M F pc l (iV x4 :: iV x3 :: iV x2 :: .ref k1 :: .ref 6 :: st) s := g_callV (k := 6) (as := [.ref k1, iV x2, iV x3, iV x4]) (st := st) hd hn rfl ⟨by decide, rfl⟩ rfl rfl (show okV M 44 RX1 yX1_giveAlong cX1_giveAlong 6 none 4 from ⟨⟨by rw [hM]; exact tw_570, tw_572, tw_5, tw_71, tw_573⟩, rfl, by decide, by decide, by decide +kernel⟩) rfl hcat ⟨rfl, rfl⟩ hR h (fun r s1 h => by obtain ⟨rfl, h2⟩ := h; exact k' s1 h2)
theorem gf_Cg_53 {M : Mth} {F : Option Value → Sto → Prop} {pc npc : Nat} {l : List (Nat × Value)} {st : List Value} {s : Sto} (hd : decode M.1 pc = .ok (.getfield 53, 3)) (hM : M.2.1 = RX10) (hn : pc + 3 = npc) (k' : Go SC M F npc l (.ref 6 :: st) s) : Go SC M F pc l (.ref 0 :: st) s := g_get (f := 5) hd hn ⟨by decide, rfl, rfl⟩ rfl inw_X10 (by decide) (by rw [hM]; exact tw_316) rfl (Or.inr ⟨_, rfl, rfl⟩) k'
theorem iv_Cg_178 {M : Mth} {F : Option Value → Sto → Prop} {pc npc : Nat} {l : List (Nat × Value)} {st : List Value} {s : Sto} {k1 : Nat} {x2 : Int} {Q : Int → Sto → Prop} (hd : decode M.1 pc = .ok (.invokevirtual 178, 3)) (hM : M.2.1 = RX10) (hn : pc + 3 = npc) (hcat : (st.map (fun v => v.category)).sum ≤ 8) (hR : 2 + 1 ≤ M.2.2.2.2.frames ∧ 8 + (4 + 11) + 42 ≤ M.2.2.2.2.locals) (h : K_Fi_canFire k1 x2 s Q) (k' : ∀ r s1, Q r s1 → Go SC M F npc l (iV r :: st) s1) : Go SC M F pc l (iV x2 :: .ref k1 :: .ref 6 :: st) s := g_callV (k := 6) (as := [.ref k1, iV x2]) (st := st) hd hn rfl ⟨by decide, rfl⟩ rfl rfl (show okV M 178 RX1 yX1_canFire cX1_canFire 4 (some .boolean) 2 from ⟨⟨by rw [hM]; exact tw_559, tw_560, tw_561, tw_71, tw_562⟩, rfl, by decide, by decide, by decide +kernel⟩) rfl hcat ⟨rfl, rfl⟩ hR h (fun r s1 h => by obtain ⟨x, rfl, h2⟩ := h; exact k' x s1 h2)
theorem iv_Cg_182 {M : Mth} {F : Option Value → Sto → Prop} {pc npc : Nat} {l : List (Nat × Value)} {st : List Value} {s : Sto} {k1 : Nat} {x2 : Int} {x3 : Int} {Q : Sto → Prop} (hd : decode M.1 pc = .ok (.invokevirtual 182, 3)) (hM : M.2.1 = RX10) (hn : pc + 3 = npc) (hcat : (st.map (fun v => v.category)).sum ≤ 8) (hR : 1 + 1 ≤ M.2.2.2.2.frames ∧ 8 + (5 + 11) + 25 ≤ M.2.2.2.2.locals) (h : K_Fi_give k1 x2 x3 s Q) (k' : ∀ s1, Q s1 → Go SC M F npc l st s1) : Go SC M F pc l (iV x3 :: iV x2 :: .ref k1 :: .ref 6 :: st) s := g_callV (k := 6) (as := [.ref k1, iV x2, iV x3]) (st := st) hd hn rfl ⟨by decide, rfl⟩ rfl rfl (show okV M 182 RX1 yX1_give cX1_give 5 none 3 from ⟨⟨by rw [hM]; exact tw_565, tw_566, tw_567, tw_71, tw_568⟩, rfl, by decide, by decide, by decide +kernel⟩) rfl hcat ⟨rfl, rfl⟩ hR h (fun r s1 h => by obtain ⟨rfl, h2⟩ := h; exact k' s1 h2)
theorem iv_Fi_37 {M : Mth} {F : Option Value → Sto → Prop} {pc npc : Nat} {l : List (Nat × Value)} {st : List Value} {s : Sto} {k1 : Nat} {x2 : Int} {Q : Int → Sto → Prop} (hd : decode M.1 pc = .ok (.invokevirtual 37, 3)) (hM : M.2.1 = RX1) (hn : pc + 3 = npc) (hcat : (st.map (fun v => v.category)).sum ≤ 8) (hR : 2 + 1 ≤ M.2.2.2.2.frames ∧ 8 + (4 + 11) + 42 ≤ M.2.2.2.2.locals) (h : K_Fi_canFire k1 x2 s Q) (k' : ∀ r s1, Q r s1 → Go SC M F npc l (iV r :: st) s1) : Go SC M F pc l (iV x2 :: .ref k1 :: .ref 6 :: st) s := g_callV (k := 6) (as := [.ref k1, iV x2]) (st := st) hd hn rfl ⟨by decide, rfl⟩ rfl rfl (show okV M 37 RX1 yX1_canFire cX1_canFire 4 (some .boolean) 2 from ⟨⟨by rw [hM]; exact tw_588, tw_560, tw_561, tw_71, tw_562⟩, rfl, by decide, by decide, by decide +kernel⟩) rfl hcat ⟨rfl, rfl⟩ hR h (fun r s1 h => by obtain ⟨x, rfl, h2⟩ := h; exact k' x s1 h2)
theorem iv_Fi_64 {M : Mth} {F : Option Value → Sto → Prop} {pc npc : Nat} {l : List (Nat × Value)} {st : List Value} {s : Sto} {k1 : Nat} {x2 : Int} {x3 : Int} {Q : Sto → Prop} (hd : decode M.1 pc = .ok (.invokevirtual 64, 3)) (hM : M.2.1 = RX1) (hn : pc + 3 = npc) (hcat : (st.map (fun v => v.category)).sum ≤ 8) (hR : 1 + 1 ≤ M.2.2.2.2.frames ∧ 8 + (5 + 11) + 25 ≤ M.2.2.2.2.locals) (h : K_Fi_give k1 x2 x3 s Q) (k' : ∀ s1, Q s1 → Go SC M F npc l st s1) : Go SC M F pc l (iV x3 :: iV x2 :: .ref k1 :: .ref 6 :: st) s := g_callV (k := 6) (as := [.ref k1, iV x2, iV x3]) (st := st) hd hn rfl ⟨by decide, rfl⟩ rfl rfl (show okV M 64 RX1 yX1_give cX1_give 5 none 3 from ⟨⟨by rw [hM]; exact tw_589, tw_566, tw_567, tw_71, tw_568⟩, rfl, by decide, by decide, by decide +kernel⟩) rfl hcat ⟨rfl, rfl⟩ hR h (fun r s1 h => by obtain ⟨rfl, h2⟩ := h; exact k' s1 h2)
theorem gf_Fi_9 {M : Mth} {F : Option Value → Sto → Prop} {pc npc : Nat} {l : List (Nat × Value)} {st : List Value} {s : Sto} (hd : decode M.1 pc = .ok (.getfield 9, 3)) (hM : M.2.1 = RX1) (hn : pc + 3 = npc) (k' : Go SC M F npc l (.ref 47 :: st) s) : Go SC M F pc l (.ref 6 :: st) s := g_get (f := 0) hd hn ⟨by decide, rfl, rfl⟩ rfl inw_X1 (by decide) (by rw [hM]; exact tw_221) rfl (Or.inr ⟨_, rfl, rfl⟩) k'
theorem iv_Fi_55 {M : Mth} {F : Option Value → Sto → Prop} {pc npc : Nat} {l : List (Nat × Value)} {st : List Value} {s : Sto} {k0 : Nat} {Q : Sto → Prop} (hd : decode M.1 pc = .ok (.invokestatic 55, 3)) (hM : M.2.1 = RX1) (hn : pc + 3 = npc) (hcat : (st.map (fun v => v.category)).sum ≤ 8) (hR : 0 + 1 ≤ M.2.2.2.2.frames ∧ 8 + (2 + 11) + 0 ≤ M.2.2.2.2.locals) (h : K_Cg_clearChips k0 s Q) (k' : ∀ s1, Q s1 → Go SC M F npc l st s1) : Go SC M F pc l (.ref k0 :: st) s := g_callN (as := [.ref k0]) (st := st) hd hn rfl (show okN M 55 yX10_clearChips cX10_clearChips 2 none 1 from ⟨⟨by rw [hM]; decide +kernel, tw_357, tw_65, tw_358⟩, by decide, by decide, by decide +kernel⟩) rfl hcat ⟨rfl, rfl⟩ hR h (fun r s1 h => by obtain ⟨rfl, h2⟩ := h; exact k' s1 h2)
theorem iv_Fi_60 {M : Mth} {F : Option Value → Sto → Prop} {pc npc : Nat} {l : List (Nat × Value)} {st : List Value} {s : Sto} {k1 : Nat} {x2 : Int} {Q : Int → Sto → Prop} (hd : decode M.1 pc = .ok (.invokevirtual 60, 3)) (hM : M.2.1 = RX1) (hn : pc + 3 = npc) (hcat : (st.map (fun v => v.category)).sum ≤ 8) (hR : 3 + 1 ≤ M.2.2.2.2.frames ∧ 8 + (5 + 11) + 65 ≤ M.2.2.2.2.locals) (h : K_Fi_fireWhilePossible k1 x2 s Q) (k' : ∀ r s1, Q r s1 → Go SC M F npc l (iV r :: st) s1) : Go SC M F pc l (iV x2 :: .ref k1 :: .ref 6 :: st) s := g_callV (k := 6) (as := [.ref k1, iV x2]) (st := st) hd hn rfl ⟨by decide, rfl⟩ rfl rfl (show okV M 60 RX1 yX1_fireWhilePossible cX1_fireWhilePossible 5 (some .int) 2 from ⟨⟨by rw [hM]; exact tw_584, tw_586, tw_6, tw_71, tw_587⟩, rfl, by decide, by decide, by decide +kernel⟩) rfl hcat ⟨rfl, rfl⟩ hR h (fun r s1 h => by obtain ⟨x, rfl, h2⟩ := h; exact k' x s1 h2)
theorem iv_Cg_186 {M : Mth} {F : Option Value → Sto → Prop} {pc npc : Nat} {l : List (Nat × Value)} {st : List Value} {s : Sto} {k1 : Nat} {Q : Int → Sto → Prop} (hd : decode M.1 pc = .ok (.invokevirtual 186, 3)) (hM : M.2.1 = RX10) (hn : pc + 3 = npc) (hcat : (st.map (fun v => v.category)).sum ≤ 8) (hR : 4 + 1 ≤ M.2.2.2.2.frames ∧ 8 + (6 + 11) + 89 ≤ M.2.2.2.2.locals) (h : K_Fi_settle k1 s Q) (k' : ∀ r s1, Q r s1 → Go SC M F npc l (iV r :: st) s1) : Go SC M F pc l (.ref k1 :: .ref 6 :: st) s := g_callV (k := 6) (as := [.ref k1]) (st := st) hd hn rfl ⟨by decide, rfl⟩ rfl rfl (show okV M 186 RX1 yX1_settle cX1_settle 6 (some .int) 1 from ⟨⟨by rw [hM]; exact tw_578, tw_579, tw_580, tw_71, tw_581⟩, rfl, by decide, by decide, by decide +kernel⟩) rfl hcat ⟨rfl, rfl⟩ hR h (fun r s1 h => by obtain ⟨x, rfl, h2⟩ := h; exact k' x s1 h2)
theorem gf_Cg_84 {M : Mth} {F : Option Value → Sto → Prop} {pc npc : Nat} {l : List (Nat × Value)} {st : List Value} {s : Sto} (hd : decode M.1 pc = .ok (.getfield 84, 3)) (hM : M.2.1 = RX10) (hn : pc + 3 = npc) (k' : Go SC M F npc l (.ref 11 :: st) s) : Go SC M F pc l (.ref 0 :: st) s := g_get (f := 10) hd hn ⟨by decide, rfl, rfl⟩ rfl inw_X10 (by decide) (by rw [hM]; exact tw_321) rfl (Or.inr ⟨_, rfl, rfl⟩) k'
theorem iv_Cg_189 {M : Mth} {F : Option Value → Sto → Prop} {pc npc : Nat} {l : List (Nat × Value)} {st : List Value} {s : Sto} {k0 : Nat} {k1 : Nat} {Q : Sto → Prop} (hd : decode M.1 pc = .ok (.invokestatic 189, 3)) (hM : M.2.1 = RX10) (hn : pc + 3 = npc) (hcat : (st.map (fun v => v.category)).sum ≤ 8) (hR : 0 + 1 ≤ M.2.2.2.2.frames ∧ 8 + (3 + 11) + 0 ≤ M.2.2.2.2.locals) (h : K_Cg_copyChips k0 k1 s Q) (k' : ∀ s1, Q s1 → Go SC M F npc l st s1) : Go SC M F pc l (.ref k1 :: .ref k0 :: st) s := g_callS (as := [.ref k0, .ref k1]) (st := st) hd hn rfl (show okS M 189 yX10_copyChips cX10_copyChips 3 none 2 from ⟨⟨by rw [hM]; exact tw_594, tw_549, tw_65, tw_550⟩, by decide, by decide, by decide +kernel⟩) rfl hcat ⟨rfl, rfl⟩ hR h (fun r s1 h => by obtain ⟨rfl, h2⟩ := h; exact k' s1 h2)
theorem gf_Cg_193 {M : Mth} {F : Option Value → Sto → Prop} {pc npc : Nat} {l : List (Nat × Value)} {st : List Value} {s : Sto} (hd : decode M.1 pc = .ok (.getfield 193, 3)) (hM : M.2.1 = RX10) (hn : pc + 3 = npc) (k' : Go SC M F npc l (.ref 47 :: st) s) : Go SC M F pc l (.ref 6 :: st) s := g_get (f := 0) hd hn ⟨by decide, rfl, rfl⟩ rfl inw_X1 (by decide) (by rw [hM]; exact tw_222) rfl (Or.inr ⟨_, rfl, rfl⟩) k'
theorem gf_Bu_18 {M : Mth} {F : Option Value → Sto → Prop} {pc npc : Nat} {l : List (Nat × Value)} {st : List Value} {s : Sto} (hd : decode M.1 pc = .ok (.getfield 18, 3)) (hM : M.2.1 = RX0) (hn : pc + 3 = npc) (k' : Go SC M F npc l (.ref 1 :: st) s) : Go SC M F pc l (.ref 5 :: st) s := g_get (f := 2) hd hn ⟨by decide, rfl, rfl⟩ rfl inw_X0 (by decide) (by rw [hM]; exact tw_207) rfl (Or.inr ⟨_, rfl, rfl⟩) k'
theorem gf_Bu_28 {M : Mth} {F : Option Value → Sto → Prop} {pc npc : Nat} {l : List (Nat × Value)} {st : List Value} {s : Sto} (hd : decode M.1 pc = .ok (.getfield 28, 3)) (hM : M.2.1 = RX0) (hn : pc + 3 = npc) (k' : Go SC M F npc l (iV (s 1 0) :: st) s) : Go SC M F pc l (.ref 1 :: st) s := g_get (f := 0) hd hn ⟨by decide, rfl, rfl⟩ rfl inw_X2 (by decide) (by rw [hM]; exact tw_104) rfl (Or.inl ⟨rfl, rfl⟩) k'
theorem gf_Bu_9 {M : Mth} {F : Option Value → Sto → Prop} {pc npc : Nat} {l : List (Nat × Value)} {st : List Value} {s : Sto} (hd : decode M.1 pc = .ok (.getfield 9, 3)) (hM : M.2.1 = RX0) (hn : pc + 3 = npc) (k' : Go SC M F npc l (.ref 45 :: st) s) : Go SC M F pc l (.ref 5 :: st) s := g_get (f := 0) hd hn ⟨by decide, rfl, rfl⟩ rfl inw_X0 (by decide) (by rw [hM]; exact tw_204) rfl (Or.inr ⟨_, rfl, rfl⟩) k'
theorem gf_Bu_50 {M : Mth} {F : Option Value → Sto → Prop} {pc npc : Nat} {l : List (Nat × Value)} {st : List Value} {s : Sto} (hd : decode M.1 pc = .ok (.getfield 50, 3)) (hM : M.2.1 = RX0) (hn : pc + 3 = npc) (k' : Go SC M F npc l (.ref 15 :: st) s) : Go SC M F pc l (.ref 1 :: st) s := g_get (f := 5) hd hn ⟨by decide, rfl, rfl⟩ rfl inw_X2 (by decide) (by rw [hM]; exact tw_128) rfl (Or.inr ⟨_, rfl, rfl⟩) k'
theorem iv_Bu_46 {M : Mth} {F : Option Value → Sto → Prop} {pc npc : Nat} {l : List (Nat × Value)} {st : List Value} {s : Sto} {x1 : Int} {x2 : Int} {Q : Int → Sto → Prop} (hd : decode M.1 pc = .ok (.invokevirtual 46, 3)) (hM : M.2.1 = RX0) (hn : pc + 3 = npc) (hcat : (st.map (fun v => v.category)).sum ≤ 8) (hR : 0 + 1 ≤ M.2.2.2.2.frames ∧ 8 + (5 + 11) + 0 ≤ M.2.2.2.2.locals) (h : K_Bu_edgesToBurnt x1 x2 s Q) (k' : ∀ r s1, Q r s1 → Go SC M F npc l (iV r :: st) s1) : Go SC M F pc l (iV x2 :: iV x1 :: .ref 5 :: st) s := g_callV (k := 5) (as := [iV x1, iV x2]) (st := st) hd hn rfl ⟨by decide, rfl⟩ rfl rfl (show okV M 46 RX0 yX0_edgesToBurnt cX0_edgesToBurnt 5 (some .int) 2 from ⟨⟨by rw [hM]; exact tw_615, tw_617, tw_9, tw_70, tw_618⟩, rfl, by decide, by decide, by decide +kernel⟩) rfl hcat ⟨rfl, rfl⟩ hR h (fun r s1 h => by obtain ⟨x, rfl, h2⟩ := h; exact k' x s1 h2)
theorem gf_Bu_15 {M : Mth} {F : Option Value → Sto → Prop} {pc npc : Nat} {l : List (Nat × Value)} {st : List Value} {s : Sto} (hd : decode M.1 pc = .ok (.getfield 15, 3)) (hM : M.2.1 = RX0) (hn : pc + 3 = npc) (k' : Go SC M F npc l (.ref 46 :: st) s) : Go SC M F pc l (.ref 5 :: st) s := g_get (f := 1) hd hn ⟨by decide, rfl, rfl⟩ rfl inw_X0 (by decide) (by rw [hM]; exact tw_206) rfl (Or.inr ⟨_, rfl, rfl⟩) k'
theorem gf_Bu_40 {M : Mth} {F : Option Value → Sto → Prop} {pc npc : Nat} {l : List (Nat × Value)} {st : List Value} {s : Sto} (hd : decode M.1 pc = .ok (.getfield 40, 3)) (hM : M.2.1 = RX0) (hn : pc + 3 = npc) (k' : Go SC M F npc l (iV (s 1 2) :: st) s) : Go SC M F pc l (.ref 1 :: st) s := g_get (f := 2) hd hn ⟨by decide, rfl, rfl⟩ rfl inw_X2 (by decide) (by rw [hM]; exact tw_114) rfl (Or.inl ⟨rfl, rfl⟩) k'
theorem iv_Bu_43 {M : Mth} {F : Option Value → Sto → Prop} {pc npc : Nat} {l : List (Nat × Value)} {st : List Value} {s : Sto} {x1 : Int} {Q : Int → Sto → Prop} (hd : decode M.1 pc = .ok (.invokevirtual 43, 3)) (hM : M.2.1 = RX0) (hn : pc + 3 = npc) (hcat : (st.map (fun v => v.category)).sum ≤ 8) (hR : 1 + 1 ≤ M.2.2.2.2.frames ∧ 8 + (4 + 11) + 24 ≤ M.2.2.2.2.locals) (h : K_Bu_burnRound x1 s Q) (k' : ∀ r s1, Q r s1 → Go SC M F npc l (iV r :: st) s1) : Go SC M F pc l (iV x1 :: .ref 5 :: st) s := g_callV (k := 5) (as := [iV x1]) (st := st) hd hn rfl ⟨by decide, rfl⟩ rfl rfl (show okV M 43 RX0 yX0_burnRound cX0_burnRound 4 (some .int) 1 from ⟨⟨by rw [hM]; exact tw_611, tw_613, tw_8, tw_70, tw_614⟩, rfl, by decide, by decide, by decide +kernel⟩) rfl hcat ⟨rfl, rfl⟩ hR h (fun r s1 h => by obtain ⟨x, rfl, h2⟩ := h; exact k' x s1 h2)
theorem iv_Bu_36 {M : Mth} {F : Option Value → Sto → Prop} {pc npc : Nat} {l : List (Nat × Value)} {st : List Value} {s : Sto} {Q : Int → Sto → Prop} (hd : decode M.1 pc = .ok (.invokevirtual 36, 3)) (hM : M.2.1 = RX0) (hn : pc + 3 = npc) (hcat : (st.map (fun v => v.category)).sum ≤ 8) (hR : 2 + 1 ≤ M.2.2.2.2.frames ∧ 8 + (3 + 11) + 47 ≤ M.2.2.2.2.locals) (h : K_Bu_spreadFire s Q) (k' : ∀ r s1, Q r s1 → Go SC M F npc l (iV r :: st) s1) : Go SC M F pc l (.ref 5 :: st) s := g_callV (k := 5) (as := []) (st := st) hd hn rfl ⟨by decide, rfl⟩ rfl rfl (show okV M 36 RX0 yX0_spreadFire cX0_spreadFire 3 (some .boolean) 0 from ⟨⟨by rw [hM]; exact tw_607, tw_609, tw_7, tw_70, tw_610⟩, rfl, by decide, by decide, by decide +kernel⟩) rfl hcat ⟨rfl, rfl⟩ hR h (fun r s1 h => by obtain ⟨x, rfl, h2⟩ := h; exact k' x s1 h2)
theorem iv_Bu_22 {M : Mth} {F : Option Value → Sto → Prop} {pc npc : Nat} {l : List (Nat × Value)} {st : List Value} {s : Sto} {x1 : Int} {Q : Int → Sto → Prop} (hd : decode M.1 pc = .ok (.invokevirtual 22, 3)) (hM : M.2.1 = RX0) (hn : pc + 3 = npc) (hcat : (st.map (fun v => v.category)).sum ≤ 8) (hR : 0 + 1 ≤ M.2.2.2.2.frames ∧ 8 + (2 + 11) + 0 ≤ M.2.2.2.2.locals) (h : K_Gr_hasNode x1 s Q) (k' : ∀ r s1, Q r s1 → Go SC M F npc l (iV r :: st) s1) : Go SC M F pc l (iV x1 :: .ref 1 :: st) s := g_callV (k := 1) (as := [iV x1]) (st := st) hd hn rfl ⟨by decide, rfl⟩ rfl rfl (show okV M 22 RX2 yX2_hasNode cX2_hasNode 2 (some .boolean) 1 from ⟨⟨by rw [hM]; exact tw_627, tw_304, tw_305, tw_66, tw_306⟩, rfl, by decide, by decide, by decide +kernel⟩) rfl hcat ⟨rfl, rfl⟩ hR h (fun r s1 h => by obtain ⟨x, rfl, h2⟩ := h; exact k' x s1 h2)
theorem gf_Fi_19 {M : Mth} {F : Option Value → Sto → Prop} {pc npc : Nat} {l : List (Nat × Value)} {st : List Value} {s : Sto} (hd : decode M.1 pc = .ok (.getfield 19, 3)) (hM : M.2.1 = RX1) (hn : pc + 3 = npc) (k' : Go SC M F npc l (.ref 5 :: st) s) : Go SC M F pc l (.ref 6 :: st) s := g_get (f := 2) hd hn ⟨by decide, rfl, rfl⟩ rfl inw_X1 (by decide) (by rw [hM]; exact tw_224) rfl (Or.inr ⟨_, rfl, rfl⟩) k'
theorem iv_Fi_77 {M : Mth} {F : Option Value → Sto → Prop} {pc npc : Nat} {l : List (Nat × Value)} {st : List Value} {s : Sto} {x1 : Int} {Q : Int → Sto → Prop} (hd : decode M.1 pc = .ok (.invokevirtual 77, 3)) (hM : M.2.1 = RX1) (hn : pc + 3 = npc) (hcat : (st.map (fun v => v.category)).sum ≤ 8) (hR : 1 + 1 ≤ M.2.2.2.2.frames ∧ 8 + (2 + 11) + 21 ≤ M.2.2.2.2.locals) (h : K_Bu_hasBurnt x1 s Q) (k' : ∀ r s1, Q r s1 → Go SC M F npc l (iV r :: st) s1) : Go SC M F pc l (iV x1 :: .ref 5 :: st) s := g_callV (k := 5) (as := [iV x1]) (st := st) hd hn rfl ⟨by decide, rfl⟩ rfl rfl (show okV M 77 RX0 yX0_hasBurnt cX0_hasBurnt 2 (some .boolean) 1 from ⟨⟨by rw [hM]; exact tw_623, tw_624, tw_625, tw_70, tw_626⟩, rfl, by decide, by decide, by decide +kernel⟩) rfl hcat ⟨rfl, rfl⟩ hR h (fun r s1 h => by obtain ⟨x, rfl, h2⟩ := h; exact k' x s1 h2)
theorem iv_Fi_68 {M : Mth} {F : Option Value → Sto → Prop} {pc npc : Nat} {l : List (Nat × Value)} {st : List Value} {s : Sto} {k1 : Nat} {Q : Int → Sto → Prop} (hd : decode M.1 pc = .ok (.invokevirtual 68, 3)) (hM : M.2.1 = RX1) (hn : pc + 3 = npc) (hcat : (st.map (fun v => v.category)).sum ≤ 8) (hR : 3 + 1 ≤ M.2.2.2.2.frames ∧ 8 + (3 + 11) + 69 ≤ M.2.2.2.2.locals) (h : K_Bu_allBurnBySecondRule k1 s Q) (k' : ∀ r s1, Q r s1 → Go SC M F npc l (iV r :: st) s1) : Go SC M F pc l (.ref k1 :: .ref 5 :: st) s := g_callV (k := 5) (as := [.ref k1]) (st := st) hd hn rfl ⟨by decide, rfl⟩ rfl rfl (show okV M 68 RX0 yX0_allBurnBySecondRule cX0_allBurnBySecondRule 3 (some .boolean) 1 from ⟨⟨by rw [hM]; exact tw_603, tw_604, tw_605, tw_70, tw_606⟩, rfl, by decide, by decide, by decide +kernel⟩) rfl hcat ⟨rfl, rfl⟩ hR h (fun r s1 h => by obtain ⟨x, rfl, h2⟩ := h; exact k' x s1 h2)
theorem iv_Fi_74 {M : Mth} {F : Option Value → Sto → Prop} {pc npc : Nat} {l : List (Nat × Value)} {st : List Value} {s : Sto} {k1 : Nat} {Q : Sto → Prop} (hd : decode M.1 pc = .ok (.invokevirtual 74, 3)) (hM : M.2.1 = RX1) (hn : pc + 3 = npc) (hcat : (st.map (fun v => v.category)).sum ≤ 8) (hR : 2 + 1 ≤ M.2.2.2.2.frames ∧ 8 + (4 + 11) + 42 ≤ M.2.2.2.2.locals) (h : K_Fi_fireUnburnt k1 s Q) (k' : ∀ s1, Q s1 → Go SC M F npc l st s1) : Go SC M F pc l (.ref k1 :: .ref 6 :: st) s := g_callV (k := 6) (as := [.ref k1]) (st := st) hd hn rfl ⟨by decide, rfl⟩ rfl rfl (show okV M 74 RX1 yX1_fireUnburnt cX1_fireUnburnt 4 none 1 from ⟨⟨by rw [hM]; exact tw_619, tw_621, tw_10, tw_71, tw_622⟩, rfl, by decide, by decide, by decide +kernel⟩) rfl hcat ⟨rfl, rfl⟩ hR h (fun r s1 h => by obtain ⟨rfl, h2⟩ := h; exact k' s1 h2)
theorem iv_Cg_196 {M : Mth} {F : Option Value → Sto → Prop} {pc npc : Nat} {l : List (Nat × Value)} {st : List Value} {s : Sto} {k1 : Nat} {Q : Int → Sto → Prop} (hd : decode M.1 pc = .ok (.invokevirtual 196, 3)) (hM : M.2.1 = RX10) (hn : pc + 3 = npc) (hcat : (st.map (fun v => v.category)).sum ≤ 8) (hR : 4 + 1 ≤ M.2.2.2.2.frames ∧ 8 + (3 + 11) + 91 ≤ M.2.2.2.2.locals) (h : K_Fi_fireSets k1 s Q) (k' : ∀ r s1, Q r s1 → Go SC M F npc l (iV r :: st) s1) : Go SC M F pc l (.ref k1 :: .ref 6 :: st) s := g_callV (k := 6) (as := [.ref k1]) (st := st) hd hn rfl ⟨by decide, rfl⟩ rfl rfl (show okV M 196 RX1 yX1_fireSets cX1_fireSets 3 (some .int) 1 from ⟨⟨by rw [hM]; exact tw_599, tw_600, tw_601, tw_71, tw_602⟩, rfl, by decide, by decide, by decide +kernel⟩) rfl hcat ⟨rfl, rfl⟩ hR h (fun r s1 h => by obtain ⟨x, rfl, h2⟩ := h; exact k' x s1 h2)
theorem iv_Fi_80 {M : Mth} {F : Option Value → Sto → Prop} {pc npc : Nat} {l : List (Nat × Value)} {st : List Value} {s : Sto} {k1 : Nat} {Q : Int → Sto → Prop} (hd : decode M.1 pc = .ok (.invokevirtual 80, 3)) (hM : M.2.1 = RX1) (hn : pc + 3 = npc) (hcat : (st.map (fun v => v.category)).sum ≤ 8) (hR : 4 + 1 ≤ M.2.2.2.2.frames ∧ 8 + (6 + 11) + 89 ≤ M.2.2.2.2.locals) (h : K_Fi_settle k1 s Q) (k' : ∀ r s1, Q r s1 → Go SC M F npc l (iV r :: st) s1) : Go SC M F pc l (.ref k1 :: .ref 6 :: st) s := g_callV (k := 6) (as := [.ref k1]) (st := st) hd hn rfl ⟨by decide, rfl⟩ rfl rfl (show okV M 80 RX1 yX1_settle cX1_settle 6 (some .int) 1 from ⟨⟨by rw [hM]; exact tw_636, tw_579, tw_580, tw_71, tw_581⟩, rfl, by decide, by decide, by decide +kernel⟩) rfl hcat ⟨rfl, rfl⟩ hR h (fun r s1 h => by obtain ⟨x, rfl, h2⟩ := h; exact k' x s1 h2)
theorem iv_Fi_84 {M : Mth} {F : Option Value → Sto → Prop} {pc npc : Nat} {l : List (Nat × Value)} {st : List Value} {s : Sto} {k1 : Nat} {Q : Sto → Prop} (hd : decode M.1 pc = .ok (.invokevirtual 84, 3)) (hM : M.2.1 = RX1) (hn : pc + 3 = npc) (hcat : (st.map (fun v => v.category)).sum ≤ 8) (hR : 2 + 1 ≤ M.2.2.2.2.frames ∧ 8 + (3 + 11) + 42 ≤ M.2.2.2.2.locals) (h : K_Fi_mirror k1 s Q) (k' : ∀ s1, Q s1 → Go SC M F npc l st s1) : Go SC M F pc l (.ref k1 :: .ref 6 :: st) s := g_callV (k := 6) (as := [.ref k1]) (st := st) hd hn rfl ⟨by decide, rfl⟩ rfl rfl (show okV M 84 RX1 yX1_mirror cX1_mirror 3 none 1 from ⟨⟨by rw [hM]; exact tw_637, tw_639, tw_11, tw_71, tw_640⟩, rfl, by decide, by decide, by decide +kernel⟩) rfl hcat ⟨rfl, rfl⟩ hR h (fun r s1 h => by obtain ⟨rfl, h2⟩ := h; exact k' s1 h2)
theorem iv_Fi_87 {M : Mth} {F : Option Value → Sto → Prop} {pc npc : Nat} {l : List (Nat × Value)} {st : List Value} {s : Sto} {k1 : Nat} {Q : Int → Sto → Prop} (hd : decode M.1 pc = .ok (.invokevirtual 87, 3)) (hM : M.2.1 = RX1) (hn : pc + 3 = npc) (hcat : (st.map (fun v => v.category)).sum ≤ 8) (hR : 4 + 1 ≤ M.2.2.2.2.frames ∧ 8 + (3 + 11) + 91 ≤ M.2.2.2.2.locals) (h : K_Fi_fireSets k1 s Q) (k' : ∀ r s1, Q r s1 → Go SC M F npc l (iV r :: st) s1) : Go SC M F pc l (.ref k1 :: .ref 6 :: st) s := g_callV (k := 6) (as := [.ref k1]) (st := st) hd hn rfl ⟨by decide, rfl⟩ rfl rfl (show okV M 87 RX1 yX1_fireSets cX1_fireSets 3 (some .int) 1 from ⟨⟨by rw [hM]; exact tw_641, tw_600, tw_601, tw_71, tw_602⟩, rfl, by decide, by decide, by decide +kernel⟩) rfl hcat ⟨rfl, rfl⟩ hR h (fun r s1 h => by obtain ⟨x, rfl, h2⟩ := h; exact k' x s1 h2)
theorem iv_Cg_199 {M : Mth} {F : Option Value → Sto → Prop} {pc npc : Nat} {l : List (Nat × Value)} {st : List Value} {s : Sto} {k1 : Nat} {Q : Sto → Prop} (hd : decode M.1 pc = .ok (.invokevirtual 199, 3)) (hM : M.2.1 = RX10) (hn : pc + 3 = npc) (hcat : (st.map (fun v => v.category)).sum ≤ 8) (hR : 5 + 1 ≤ M.2.2.2.2.frames ∧ 8 + (2 + 11) + 114 ≤ M.2.2.2.2.locals) (h : K_Fi_toRecurrent k1 s Q) (k' : ∀ s1, Q s1 → Go SC M F npc l st s1) : Go SC M F pc l (.ref k1 :: .ref 6 :: st) s := g_callV (k := 6) (as := [.ref k1]) (st := st) hd hn rfl ⟨by decide, rfl⟩ rfl rfl (show okV M 199 RX1 yX1_toRecurrent cX1_toRecurrent 2 none 1 from ⟨⟨by rw [hM]; exact tw_632, tw_633, tw_634, tw_71, tw_635⟩, rfl, by decide, by decide, by decide +kernel⟩) rfl hcat ⟨rfl, rfl⟩ hR h (fun r s1 h => by obtain ⟨rfl, h2⟩ := h; exact k' s1 h2)
theorem iv_Cg_202 {M : Mth} {F : Option Value → Sto → Prop} {pc npc : Nat} {l : List (Nat × Value)} {st : List Value} {s : Sto} {k0 : Nat} {k1 : Nat} {Q : Int → Sto → Prop} (hd : decode M.1 pc = .ok (.invokestatic 202, 3)) (hM : M.2.1 = RX10) (hn : pc + 3 = npc) (hcat : (st.map (fun v => v.category)).sum ≤ 8) (hR : 0 + 1 ≤ M.2.2.2.2.frames ∧ 8 + (3 + 11) + 0 ≤ M.2.2.2.2.locals) (h : K_Cg_isEqual k0 k1 s Q) (k' : ∀ r s1, Q r s1 → Go SC M F npc l (iV r :: st) s1) : Go SC M F pc l (.ref k1 :: .ref k0 :: st) s := g_callS (as := [.ref k0, .ref k1]) (st := st) hd hn rfl (show okS M 202 yX10_isEqual cX10_isEqual 3 (some .boolean) 2 from ⟨⟨by rw [hM]; exact tw_642, tw_643, tw_65, tw_644⟩, by decide, by decide, by decide +kernel⟩) rfl hcat ⟨rfl, rfl⟩ hR h (fun r s1 h => by obtain ⟨x, rfl, h2⟩ := h; exact k' x s1 h2)
theorem iv_Bu_32 {M : Mth} {F : Option Value → Sto → Prop} {pc npc : Nat} {l : List (Nat × Value)} {st : List Value} {s : Sto} {x1 : Int} {Q : Int → Sto → Prop} (hd : decode M.1 pc = .ok (.invokevirtual 32, 3)) (hM : M.2.1 = RX0) (hn : pc + 3 = npc) (hcat : (st.map (fun v => v.category)).sum ≤ 8) (hR : 1 + 1 ≤ M.2.2.2.2.frames ∧ 8 + (2 + 11) + 21 ≤ M.2.2.2.2.locals) (h : K_Gr_degreeOf x1 s Q) (k' : ∀ r s1, Q r s1 → Go SC M F npc l (iV r :: st) s1) : Go SC M F pc l (iV x1 :: .ref 1 :: st) s := g_callV (k := 1) (as := [iV x1]) (st := st) hd hn rfl ⟨by decide, rfl⟩ rfl rfl (show okV M 32 RX2 yX2_degreeOf cX2_degreeOf 2 (some .int) 1 from ⟨⟨by rw [hM]; exact tw_661, tw_524, tw_525, tw_66, tw_526⟩, rfl, by decide, by decide, by decide +kernel⟩) rfl hcat ⟨rfl, rfl⟩ hR h (fun r s1 h => by obtain ⟨x, rfl, h2⟩ := h; exact k' x s1 h2)
theorem iv_Cg_206 {M : Mth} {F : Option Value → Sto → Prop} {pc npc : Nat} {l : List (Nat × Value)} {st : List Value} {s : Sto} {k1 : Nat} {Q : Int → Sto → Prop} (hd : decode M.1 pc = .ok (.invokevirtual 206, 3)) (hM : M.2.1 = RX10) (hn : pc + 3 = npc) (hcat : (st.map (fun v => v.category)).sum ≤ 8) (hR : 3 + 1 ≤ M.2.2.2.2.frames ∧ 8 + (3 + 11) + 65 ≤ M.2.2.2.2.locals) (h : K_Fi_isStable k1 s Q) (k' : ∀ r s1, Q r s1 → Go SC M F npc l (iV r :: st) s1) : Go SC M F pc l (.ref k1 :: .ref 6 :: st) s := g_callV (k := 6) (as := [.ref k1]) (st := st) hd hn rfl ⟨by decide, rfl⟩ rfl rfl (show okV M 206 RX1 yX1_isStable cX1_isStable 3 (some .boolean) 1 from ⟨⟨by rw [hM]; exact tw_649, tw_650, tw_651, tw_71, tw_652⟩, rfl, by decide, by decide, by decide +kernel⟩) rfl hcat ⟨rfl, rfl⟩ hR h (fun r s1 h => by obtain ⟨x, rfl, h2⟩ := h; exact k' x s1 h2)
theorem gf_Cg_44 {M : Mth} {F : Option Value → Sto → Prop} {pc npc : Nat} {l : List (Nat × Value)} {st : List Value} {s : Sto} (hd : decode M.1 pc = .ok (.getfield 44, 3)) (hM : M.2.1 = RX10) (hn : pc + 3 = npc) (k' : Go SC M F npc l (.ref 5 :: st) s) : Go SC M F pc l (.ref 0 :: st) s := g_get (f := 4) hd hn ⟨by decide, rfl, rfl⟩ rfl inw_X10 (by decide) (by rw [hM]; exact tw_315) rfl (Or.inr ⟨_, rfl, rfl⟩) k'
theorem iv_Cg_216 {M : Mth} {F : Option Value → Sto → Prop} {pc npc : Nat} {l : List (Nat × Value)} {st : List Value} {s : Sto} {k1 : Nat} {Q : Int → Sto → Prop} (hd : decode M.1 pc = .ok (.invokevirtual 216, 3)) (hM : M.2.1 = RX10) (hn : pc + 3 = npc) (hcat : (st.map (fun v => v.category)).sum ≤ 8) (hR : 3 + 1 ≤ M.2.2.2.2.frames ∧ 8 + (3 + 11) + 69 ≤ M.2.2.2.2.locals) (h : K_Bu_allBurn k1 s Q) (k' : ∀ r s1, Q r s1 → Go SC M F npc l (iV r :: st) s1) : Go SC M F pc l (.ref k1 :: .ref 5 :: st) s := g_callV (k := 5) (as := [.ref k1]) (st := st) hd hn rfl ⟨by decide, rfl⟩ rfl rfl (show okV M 216 RX0 yX0_allBurn cX0_allBurn 3 (some .boolean) 1 from ⟨⟨by rw [hM]; exact tw_657, tw_658, tw_659, tw_70, tw_660⟩, rfl, by decide, by decide, by decide +kernel⟩) rfl hcat ⟨rfl, rfl⟩ hR h (fun r s1 h => by obtain ⟨x, rfl, h2⟩ := h; exact k' x s1 h2)
theorem iv_Cg_210 {M : Mth} {F : Option Value → Sto → Prop} {pc npc : Nat} {l : List (Nat × Value)} {st : List Value} {s : Sto} {Q : Int → Sto → Prop} (hd : decode M.1 pc = .ok (.invokevirtual 210, 3)) (hM : M.2.1 = RX10) (hn : pc + 3 = npc) (hcat : (st.map (fun v => v.category)).sum ≤ 8) (hR : 4 + 1 ≤ M.2.2.2.2.frames ∧ 8 + (1 + 11) + 91 ≤ M.2.2.2.2.locals) (h : K_Cg_isRecurrent s Q) (k' : ∀ r s1, Q r s1 → Go SC M F npc l (iV r :: st) s1) : Go SC M F pc l (.ref 0 :: st) s := g_callV (k := 0) (as := []) (st := st) hd hn rfl ⟨by decide, rfl⟩ rfl rfl (show okV M 210 RX10 yX10_isRecurrent cX10_isRecurrent 1 (some .boolean) 0 from ⟨⟨by rw [hM]; exact tw_653, tw_655, tw_12, tw_65, tw_656⟩, rfl, by decide, by decide, by decide +kernel⟩) rfl hcat ⟨rfl, rfl⟩ hR h (fun r s1 h => by obtain ⟨x, rfl, h2⟩ := h; exact k' x s1 h2)
theorem iv_Cg_213 {M : Mth} {F : Option Value → Sto → Prop} {pc npc : Nat} {l : List (Nat × Value)} {st : List Value} {s : Sto} {k1 : Nat} {Q : Int → Sto → Prop} (hd : decode M.1 pc = .ok (.invokevirtual 213, 3)) (hM : M.2.1 = RX10) (hn : pc + 3 = npc) (hcat : (st.map (fun v => v.category)).sum ≤ 8) (hR : 3 + 1 ≤ M.2.2.2.2.frames ∧ 8 + (3 + 11) + 69 ≤ M.2.2.2.2.locals) (h : K_Bu_allBurnBySecondRule k1 s Q) (k' : ∀ r s1, Q r s1 → Go SC M F npc l (iV r :: st) s1) : Go SC M F pc l (.ref k1 :: .ref 5 :: st) s := g_callV (k := 5) (as := [.ref k1]) (st := st) hd hn rfl ⟨by decide, rfl⟩ rfl rfl (show okV M 213 RX0 yX0_allBurnBySecondRule cX0_allBurnBySecondRule 3 (some .boolean) 1 from ⟨⟨by rw [hM]; exact tw_662, tw_604, tw_605, tw_70, tw_606⟩, rfl, by decide, by decide, by decide +kernel⟩) rfl hcat ⟨rfl, rfl⟩ hR h (fun r s1 h => by obtain ⟨x, rfl, h2⟩ := h; exact k' x s1 h2)
theorem iv_Cg_219 {M : Mth} {F : Option Value → Sto → Prop} {pc npc : Nat} {l : List (Nat × Value)} {st : List Value} {s : Sto} {x1 : Int} {Q : Int → Sto → Prop} (hd : decode M.1 pc = .ok (.invokevirtual 219, 3)) (hM : M.2.1 = RX10) (hn : pc + 3 = npc) (hcat : (st.map (fun v => v.category)).sum ≤ 8) (hR : 1 + 1 ≤ M.2.2.2.2.frames ∧ 8 + (2 + 11) + 21 ≤ M.2.2.2.2.locals) (h : K_Bu_hasBurnt x1 s Q) (k' : ∀ r s1, Q r s1 → Go SC M F npc l (iV r :: st) s1) : Go SC M F pc l (iV x1 :: .ref 5 :: st) s := g_callV (k := 5) (as := [iV x1]) (st := st) hd hn rfl ⟨by decide, rfl⟩ rfl rfl (show okV M 219 RX0 yX0_hasBurnt cX0_hasBurnt 2 (some .boolean) 1 from ⟨⟨by rw [hM]; exact tw_667, tw_624, tw_625, tw_70, tw_626⟩, rfl, by decide, by decide, by decide +kernel⟩) rfl hcat ⟨rfl, rfl⟩ hR h (fun r s1 h => by obtain ⟨x, rfl, h2⟩ := h; exact k' x s1 h2)
theorem gf_Cg_222 {M : Mth} {F : Option Value → Sto → Prop} {pc npc : Nat} {l : List (Nat × Value)} {st : List Value} {s : Sto} (hd : decode M.1 pc = .ok (.getfield 222, 3)) (hM : M.2.1 = RX10) (hn : pc + 3 = npc) (k' : Go SC M F npc l (.ref 45 :: st) s) : Go SC M F pc l (.ref 5 :: st) s := g_get (f := 0) hd hn ⟨by decide, rfl, rfl⟩ rfl inw_X0 (by decide) (by rw [hM]; exact tw_205) rfl (Or.inr ⟨_, rfl, rfl⟩) k'
theorem iv_Cg_225 {M : Mth} {F : Option Value → Sto → Prop} {pc npc : Nat} {l : List (Nat × Value)} {st : List Value} {s : Sto} {k1 : Nat} {Q : Sto → Prop} (hd : decode M.1 pc = .ok (.invokevirtual 225, 3)) (hM : M.2.1 = RX10) (hn : pc + 3 = npc) (hcat : (st.map (fun v => v.category)).sum ≤ 8) (hR : 1 + 1 ≤ M.2.2.2.2.frames ∧ 8 + (2 + 11) + 22 ≤ M.2.2.2.2.locals) (h : K_Hi_takeBack k1 s Q) (k' : ∀ s1, Q s1 → Go SC M F npc l st s1) : Go SC M F pc l (.ref k1 :: .ref 3 :: st) s := g_callV (k := 3) (as := [.ref k1]) (st := st) hd hn rfl ⟨by decide, rfl⟩ rfl rfl (show okV M 225 RX3 yX3_takeBack cX3_takeBack 2 none 1 from ⟨⟨by rw [hM]; exact tw_672, tw_673, tw_674, tw_68, tw_675⟩, rfl, by decide, by decide, by decide +kernel⟩) rfl hcat ⟨rfl, rfl⟩ hR h (fun r s1 h => by obtain ⟨rfl, h2⟩ := h; exact k' s1 h2)
theorem iv_Sl_20 {M : Mth} {F : Option Value → Sto → Prop} {pc npc : Nat} {l : List (Nat × Value)} {st : List Value} {s : Sto} {x1 : Int} {Q : Int → Sto → Prop} (hd : decode M.1 pc = .ok (.invokevirtual 20, 3)) (hM : M.2.1 = RX7) (hn : pc + 3 = npc) (hcat : (st.map (fun v => v.category)).sum ≤ 8) (hR : 0 + 1 ≤ M.2.2.2.2.frames ∧ 8 + (2 + 11) + 0 ≤ M.2.2.2.2.locals) (h : K_Sl_has x1 s Q) (k' : ∀ r s1, Q r s1 → Go SC M F npc l (iV r :: st) s1) : Go SC M F pc l (iV x1 :: .ref 4 :: st) s := g_callV (k := 4) (as := [iV x1]) (st := st) hd hn rfl ⟨by decide, rfl⟩ rfl rfl (show okV M 20 RX7 yX7_has cX7_has 2 (some .boolean) 1 from ⟨⟨by rw [hM]; exact tw_688, tw_681, tw_682, tw_69, tw_683⟩, rfl, by decide, by decide, by decide +kernel⟩) rfl hcat ⟨rfl, rfl⟩ hR h (fun r s1 h => by obtain ⟨x, rfl, h2⟩ := h; exact k' x s1 h2)
theorem gf_Sl_17 {M : Mth} {F : Option Value → Sto → Prop} {pc npc : Nat} {l : List (Nat × Value)} {st : List Value} {s : Sto} (hd : decode M.1 pc = .ok (.getfield 17, 3)) (hM : M.2.1 = RX7) (hn : pc + 3 = npc) (k' : Go SC M F npc l (.ref 41 :: st) s) : Go SC M F pc l (.ref 4 :: st) s := g_get (f := 1) hd hn ⟨by decide, rfl, rfl⟩ rfl inw_X7 (by decide) (by rw [hM]; exact tw_191) rfl (Or.inr ⟨_, rfl, rfl⟩) k'
theorem iv_Sl_24 {M : Mth} {F : Option Value → Sto → Prop} {pc npc : Nat} {l : List (Nat × Value)} {st : List Value} {s : Sto} {k0 : Nat} {k1 : Nat} {Q : Sto → Prop} (hd : decode M.1 pc = .ok (.invokestatic 24, 3)) (hM : M.2.1 = RX7) (hn : pc + 3 = npc) (hcat : (st.map (fun v => v.category)).sum ≤ 8) (hR : 0 + 1 ≤ M.2.2.2.2.frames ∧ 8 + (3 + 11) + 0 ≤ M.2.2.2.2.locals) (h : K_Cg_copyChips k0 k1 s Q) (k' : ∀ s1, Q s1 → Go SC M F npc l st s1) : Go SC M F pc l (.ref k1 :: .ref k0 :: st) s := g_callN (as := [.ref k0, .ref k1]) (st := st) hd hn rfl (show okN M 24 yX10_copyChips cX10_copyChips 3 none 2 from ⟨⟨by rw [hM]; decide +kernel, tw_549, tw_65, tw_550⟩, by decide, by decide, by decide +kernel⟩) rfl hcat ⟨rfl, rfl⟩ hR h (fun r s1 h => by obtain ⟨rfl, h2⟩ := h; exact k' s1 h2)
theorem iv_Cg_228 {M : Mth} {F : Option Value → Sto → Prop} {pc npc : Nat} {l : List (Nat × Value)} {st : List Value} {s : Sto} {x1 : Int} {Q : Int → Sto → Prop} (hd : decode M.1 pc = .ok (.invokevirtual 228, 3)) (hM : M.2.1 = RX10) (hn : pc + 3 = npc) (hcat : (st.map (fun v => v.category)).sum ≤ 8) (hR : 0 + 1 ≤ M.2.2.2.2.frames ∧ 8 + (2 + 11) + 0 ≤ M.2.2.2.2.locals) (h : K_Sl_has x1 s Q) (k' : ∀ r s1, Q r s1 → Go SC M F npc l (iV r :: st) s1) : Go SC M F pc l (iV x1 :: .ref 4 :: st) s := g_callV (k := 4) (as := [iV x1]) (st := st) hd hn rfl ⟨by decide, rfl⟩ rfl rfl (show okV M 228 RX7 yX7_has cX7_has 2 (some .boolean) 1 from ⟨⟨by rw [hM]; exact tw_680, tw_681, tw_682, tw_69, tw_683⟩, rfl, by decide, by decide, by decide +kernel⟩) rfl hcat ⟨rfl, rfl⟩ hR h (fun r s1 h => by obtain ⟨x, rfl, h2⟩ := h; exact k' x s1 h2)
theorem iv_Cg_231 {M : Mth} {F : Option Value → Sto → Prop} {pc npc : Nat} {l : List (Nat × Value)} {st : List Value} {s : Sto} {x1 : Int} {Q : Int → Sto → Prop} (hd : decode M.1 pc = .ok (.invokevirtual 231, 3)) (hM : M.2.1 = RX10) (hn : pc + 3 = npc) (hcat : (st.map (fun v => v.category)).sum ≤ 8) (hR : 1 + 1 ≤ M.2.2.2.2.frames ∧ 8 + (2 + 11) + 21 ≤ M.2.2.2.2.locals) (h : K_Sl_isEmpty x1 s Q) (k' : ∀ r s1, Q r s1 → Go SC M F npc l (iV r :: st) s1) : Go SC M F pc l (iV x1 :: .ref 4 :: st) s := g_callV (k := 4) (as := [iV x1]) (st := st) hd hn rfl ⟨by decide, rfl⟩ rfl rfl (show okV M 231 RX7 yX7_isEmpty cX7_isEmpty 2 (some .boolean) 1 from ⟨⟨by rw [hM]; exact tw_684, tw_685, tw_686, tw_69, tw_687⟩, rfl, by decide, by decide, by decide +kernel⟩) rfl hcat ⟨rfl, rfl⟩ hR h (fun r s1 h => by obtain ⟨x, rfl, h2⟩ := h; exact k' x s1 h2)
theorem iv_Cg_234 {M : Mth} {F : Option Value → Sto → Prop} {pc npc : Nat} {l : List (Nat × Value)} {st : List Value} {s : Sto} {x1 : Int} {k2 : Nat} {Q : Sto → Prop} (hd : decode M.1 pc = .ok (.invokevirtual 234, 3)) (hM : M.2.1 = RX10) (hn : pc + 3 = npc) (hcat : (st.map (fun v => v.category)).sum ≤ 8) (hR : 1 + 1 ≤ M.2.2.2.2.frames ∧ 8 + (3 + 11) + 22 ≤ M.2.2.2.2.locals) (h : K_Sl_put x1 k2 s Q) (k' : ∀ s1, Q s1 → Go SC M F npc l st s1) : Go SC M F pc l (.ref k2 :: iV x1 :: .ref 4 :: st) s := g_callV (k := 4) (as := [iV x1, .ref k2]) (st := st) hd hn rfl ⟨by decide, rfl⟩ rfl rfl (show okV M 234 RX7 yX7_put cX7_put 3 none 2 from ⟨⟨by rw [hM]; exact tw_689, tw_690, tw_691, tw_69, tw_692⟩, rfl, by decide, by decide, by decide +kernel⟩) rfl hcat ⟨rfl, rfl⟩ hR h (fun r s1 h => by obtain ⟨rfl, h2⟩ := h; exact k' s1 h2)
theorem iv_Cg_238 {M : Mth} {F : Option Value → Sto → Prop} {pc npc : Nat} {l : List (Nat × Value)} {st : List Value} {s : Sto} {x1 : Int} {k2 : Nat} {Q : Sto → Prop} (hd : decode M.1 pc = .ok (.invokevirtual 238, 3)) (hM : M.2.1 = RX10) (hn : pc + 3 = npc) (hcat : (st.map (fun v => v.category)).sum ≤ 8) (hR : 1 + 1 ≤ M.2.2.2.2.frames ∧ 8 + (3 + 11) + 22 ≤ M.2.2.2.2.locals) (h : K_Sl_copyTo x1 k2 s Q) (k' : ∀ s1, Q s1 → Go SC M F npc l st s1) : Go SC M F pc l (.ref k2 :: iV x1 :: .ref 4 :: st) s := g_callV (k := 4) (as := [iV x1, .ref k2]) (st := st) hd hn rfl ⟨by decide, rfl⟩ rfl rfl (show okV M 238 RX7 yX7_copyTo cX7_copyTo 3 none 2 from ⟨⟨by rw [hM]; exact tw_698, tw_699, tw_700, tw_69, tw_701⟩, rfl, by decide, by decide, by decide +kernel⟩) rfl hcat ⟨rfl, rfl⟩ hR h (fun r s1 h => by obtain ⟨rfl, h2⟩ := h; exact k' s1 h2)
theorem gf_Cg_87 {M : Mth} {F : Option Value → Sto → Prop} {pc npc : Nat} {l : List (Nat × Value)} {st : List Value} {s : Sto} (hd : decode M.1 pc = .ok (.getfield 87, 3)) (hM : M.2.1 = RX10) (hn : pc + 3 = npc) (k' : Go SC M F npc l (.ref 12 :: st) s) : Go SC M F pc l (.ref 0 :: st) s := g_get (f := 11) hd hn ⟨by decide, rfl, rfl⟩ rfl inw_X10 (by decide) (by rw [hM]; exact tw_322) rfl (Or.inr ⟨_, rfl, rfl⟩) k'
theorem gf_Ma_27 {M : Mth} {F : Option Value → Sto → Prop} {pc npc : Nat} {l : List (Nat × Value)} {st : List Value} {s : Sto} (hd : decode M.1 pc = .ok (.getfield 27, 3)) (hM : M.2.1 = RX5) (hn : pc + 3 = npc) (k' : Go SC M F npc l (.ref 1 :: st) s) : Go SC M F pc l (.ref 7 :: st) s := g_get (f := 2) hd hn ⟨by decide, rfl, rfl⟩ rfl inw_X5 (by decide) (by rw [hM]; exact tw_244) rfl (Or.inr ⟨_, rfl, rfl⟩) k'
theorem iv_Ma_57 {M : Mth} {F : Option Value → Sto → Prop} {pc npc : Nat} {l : List (Nat × Value)} {st : List Value} {s : Sto} {x1 : Int} {Q : Int → Sto → Prop} (hd : decode M.1 pc = .ok (.invokevirtual 57, 3)) (hM : M.2.1 = RX5) (hn : pc + 3 = npc) (hcat : (st.map (fun v => v.category)).sum ≤ 8) (hR : 0 + 1 ≤ M.2.2.2.2.frames ∧ 8 + (2 + 11) + 0 ≤ M.2.2.2.2.locals) (h : K_Gr_hasNode x1 s Q) (k' : ∀ r s1, Q r s1 → Go SC M F npc l (iV r :: st) s1) : Go SC M F pc l (iV x1 :: .ref 1 :: st) s := g_callV (k := 1) (as := [iV x1]) (st := st) hd hn rfl ⟨by decide, rfl⟩ rfl rfl (show okV M 57 RX2 yX2_hasNode cX2_hasNode 2 (some .boolean) 1 from ⟨⟨by rw [hM]; exact tw_727, tw_304, tw_305, tw_66, tw_306⟩, rfl, by decide, by decide, by decide +kernel⟩) rfl hcat ⟨rfl, rfl⟩ hR h (fun r s1 h => by obtain ⟨x, rfl, h2⟩ := h; exact k' x s1 h2)
theorem gf_Ma_43 {M : Mth} {F : Option Value → Sto → Prop} {pc npc : Nat} {l : List (Nat × Value)} {st : List Value} {s : Sto} (hd : decode M.1 pc = .ok (.getfield 43, 3)) (hM : M.2.1 = RX5) (hn : pc + 3 = npc) (k' : Go SC M F npc l (.ref 25 :: st) s) : Go SC M F pc l (.ref 1 :: st) s := g_get (f := 7) hd hn ⟨by decide, rfl, rfl⟩ rfl inw_X2 (by decide) (by rw [hM]; exact tw_131) rfl (Or.inr ⟨_, rfl, rfl⟩) k'
theorem gf_Ma_60 {M : Mth} {F : Option Value → Sto → Prop} {pc npc : Nat} {l : List (Nat × Value)} {st : List Value} {s : Sto} (hd : decode M.1 pc = .ok (.getfield 60, 3)) (hM : M.2.1 = RX5) (hn : pc + 3 = npc) (k' : Go SC M F npc l (iV (s 1 2) :: st) s) : Go SC M F pc l (.ref 1 :: st) s := g_get (f := 2) hd hn ⟨by decide, rfl, rfl⟩ rfl inw_X2 (by decide) (by rw [hM]; exact tw_112) rfl (Or.inl ⟨rfl, rfl⟩) k'
theorem iv_Ma_36 {M : Mth} {F : Option Value → Sto → Prop} {pc npc : Nat} {l : List (Nat × Value)} {st : List Value} {s : Sto} {x1 : Int} {Q : Int → Sto → Prop} (hd : decode M.1 pc = .ok (.invokevirtual 36, 3)) (hM : M.2.1 = RX5) (hn : pc + 3 = npc) (hcat : (st.map (fun v => v.category)).sum ≤ 8) (hR : 1 + 1 ≤ M.2.2.2.2.frames ∧ 8 + (2 + 11) + 21 ≤ M.2.2.2.2.locals) (h : K_Ma_isFree x1 s Q) (k' : ∀ r s1, Q r s1 → Go SC M F npc l (iV r :: st) s1) : Go SC M F pc l (iV x1 :: .ref 7 :: st) s := g_callV (k := 7) (as := [iV x1]) (st := st) hd hn rfl ⟨by decide, rfl⟩ rfl rfl (show okV M 36 RX5 yX5_isFree cX5_isFree 2 (some .boolean) 1 from ⟨⟨by rw [hM]; exact tw_723, tw_725, tw_13, tw_72, tw_726⟩, rfl, by decide, by decide, by decide +kernel⟩) rfl hcat ⟨rfl, rfl⟩ hR h (fun r s1 h => by obtain ⟨x, rfl, h2⟩ := h; exact k' x s1 h2)
theorem gf_Ma_21 {M : Mth} {F : Option Value → Sto → Prop} {pc npc : Nat} {l : List (Nat × Value)} {st : List Value} {s : Sto} (hd : decode M.1 pc = .ok (.getfield 21, 3)) (hM : M.2.1 = RX5) (hn : pc + 3 = npc) (k' : Go SC M F npc l (.ref 49 :: st) s) : Go SC M F pc l (.ref 7 :: st) s := g_get (f := 3) hd hn ⟨by decide, rfl, rfl⟩ rfl inw_X5 (by decide) (by rw [hM]; exact tw_245) rfl (Or.inr ⟨_, rfl, rfl⟩) k'
theorem gf_Ma_31 {M : Mth} {F : Option Value → Sto → Prop} {pc npc : Nat} {l : List (Nat × Value)} {st : List Value} {s : Sto} (hd : decode M.1 pc = .ok (.getfield 31, 3)) (hM : M.2.1 = RX5) (hn : pc + 3 = npc) (k' : Go SC M F npc l (iV (s 1 0) :: st) s) : Go SC M F pc l (.ref 1 :: st) s := g_get (f := 0) hd hn ⟨by decide, rfl, rfl⟩ rfl inw_X2 (by decide) (by rw [hM]; exact tw_100) rfl (Or.inl ⟨rfl, rfl⟩) k'
theorem pf_Ma_24 {M : Mth} {F : Option Value → Sto → Prop} {pc npc : Nat} {l : List (Nat × Value)} {st : List Value} {s : Sto} {x : Int} (hd : decode M.1 pc = .ok (.putfield 24, 3)) (hM : M.2.1 = RX5) (hn : pc + 3 = npc) (k' : Go SC M F npc l st (up s 7 4 x)) : Go SC M F pc l (iV x :: .ref 7 :: st) s := g_put (f := 4) tyX5 hd hn ⟨by decide, rfl, rfl⟩ rfl inw_X5 tyX5_ok nmX5 (by decide) (by rw [hM]; exact tw_246) rfl rfl rfl ⟨rfl, rfl⟩ k'
theorem gf_Ma_24 {M : Mth} {F : Option Value → Sto → Prop} {pc npc : Nat} {l : List (Nat × Value)} {st : List Value} {s : Sto} (hd : decode M.1 pc = .ok (.getfield 24, 3)) (hM : M.2.1 = RX5) (hn : pc + 3 = npc) (k' : Go SC M F npc l (iV (s 7 4) :: st) s) : Go SC M F pc l (.ref 7 :: st) s := g_get (f := 4) hd hn ⟨by decide, rfl, rfl⟩ rfl inw_X5 (by decide) (by rw [hM]; exact tw_246) rfl (Or.inl ⟨rfl, rfl⟩) k'
theorem gf_Ma_40 {M : Mth} {F : Option Value → Sto → Prop} {pc npc : Nat} {l : List (Nat × Value)} {st : List Value} {s : Sto} (hd : decode M.1 pc = .ok (.getfield 40, 3)) (hM : M.2.1 = RX5) (hn : pc + 3 = npc) (k' : Go SC M F npc l (iV (s 1 1) :: st) s) : Go SC M F pc l (.ref 1 :: st) s := g_get (f := 1) hd hn ⟨by decide, rfl, rfl⟩ rfl inw_X2 (by decide) (by rw [hM]; exact tw_106) rfl (Or.inl ⟨rfl, rfl⟩) k'
theorem gf_Ma_47 {M : Mth} {F : Option Value → Sto → Prop} {pc npc : Nat} {l : List (Nat × Value)} {st : List Value} {s : Sto} (hd : decode M.1 pc = .ok (.getfield 47, 3)) (hM : M.2.1 = RX5) (hn : pc + 3 = npc) (k' : Go SC M F npc l (.ref 13 :: st) s) : Go SC M F pc l (.ref 1 :: st) s := g_get (f := 3) hd hn ⟨by decide, rfl, rfl⟩ rfl inw_X2 (by decide) (by rw [hM]; exact tw_117) rfl (Or.inr ⟨_, rfl, rfl⟩) k'
theorem gf_Ma_50 {M : Mth} {F : Option Value → Sto → Prop} {pc npc : Nat} {l : List (Nat × Value)} {st : List Value} {s : Sto} (hd : decode M.1 pc = .ok (.getfield 50, 3)) (hM : M.2.1 = RX5) (hn : pc + 3 = npc) (k' : Go SC M F npc l (.ref 14 :: st) s) : Go SC M F pc l (.ref 1 :: st) s := g_get (f := 4) hd hn ⟨by decide, rfl, rfl⟩ rfl inw_X2 (by decide) (by rw [hM]; exact tw_122) rfl (Or.inr ⟨_, rfl, rfl⟩) k'
theorem iv_Ma_53 {M : Mth} {F : Option Value → Sto → Prop} {pc npc : Nat} {l : List (Nat × Value)} {st : List Value} {s : Sto} {x1 : Int} {x2 : Int} {Q : Sto → Prop} (hd : decode M.1 pc = .ok (.invokevirtual 53, 3)) (hM : M.2.1 = RX5) (hn : pc + 3 = npc) (hcat : (st.map (fun v => v.category)).sum ≤ 8) (hR : 2 + 1 ≤ M.2.2.2.2.frames ∧ 8 + (3 + 11) + 42 ≤ M.2.2.2.2.locals) (h : K_Ma_fillEdge x1 x2 s Q) (k' : ∀ s1, Q s1 → Go SC M F npc l st s1) : Go SC M F pc l (iV x2 :: iV x1 :: .ref 7 :: st) s := g_callV (k := 7) (as := [iV x1, iV x2]) (st := st) hd hn rfl ⟨by decide, rfl⟩ rfl rfl (show okV M 53 RX5 yX5_fillEdge cX5_fillEdge 3 none 2 from ⟨⟨by rw [hM]; exact tw_728, tw_730, tw_14, tw_72, tw_731⟩, rfl, by decide, by decide, by decide +kernel⟩) rfl hcat ⟨rfl, rfl⟩ hR h (fun r s1 h => by obtain ⟨rfl, h2⟩ := h; exact k' s1 h2)
theorem iv_Ma_71 {M : Mth} {F : Option Value → Sto → Prop} {pc npc : Nat} {l : List (Nat × Value)} {st : List Value} {s : Sto} {x1 : Int} {x2 : Int} {x3 : Int} {Q : Sto → Prop} (hd : decode M.1 pc = .ok (.invokevirtual 71, 3)) (hM : M.2.1 = RX5) (hn : pc + 3 = npc) (hcat : (st.map (fun v => v.category)).sum ≤ 8) (hR : 0 + 1 ≤ M.2.2.2.2.frames ∧ 8 + (10 + 11) + 0 ≤ M.2.2.2.2.locals) (h : K_Ma_combineRows x1 x2 x3 s Q) (k' : ∀ s1, Q s1 → Go SC M F npc l st s1) : Go SC M F pc l (jV x3 :: iV x2 :: iV x1 :: .ref 7 :: st) s := g_callV (k := 7) (as := [iV x1, iV x2, jV x3]) (st := st) hd hn rfl ⟨by decide, rfl⟩ rfl rfl (show okV M 71 RX5 yX5_combineRows cX5_combineRows 10 none 3 from ⟨⟨by rw [hM]; exact tw_736, tw_738, tw_15, tw_72, tw_739⟩, rfl, by decide, by decide, by decide +kernel⟩) rfl hcat ⟨rfl, rfl⟩ hR h (fun r s1 h => by obtain ⟨rfl, h2⟩ := h; exact k' s1 h2)
theorem gf_Tr_15 {M : Mth} {F : Option Value → Sto → Prop} {pc npc : Nat} {l : List (Nat × Value)} {st : List Value} {s : Sto} (hd : decode M.1 pc = .ok (.getfield 15, 3)) (hM : M.2.1 = RX9) (hn : pc + 3 = npc) (k' : Go SC M F npc l (.ref 1 :: st) s) : Go SC M F pc l (.ref 8 :: st) s := g_get (f := 0) hd hn ⟨by decide, rfl, rfl⟩ rfl inw_X9 (by decide) (by rw [hM]; exact tw_265) rfl (Or.inr ⟨_, rfl, rfl⟩) k'
theorem iv_Tr_23 {M : Mth} {F : Option Value → Sto → Prop} {pc npc : Nat} {l : List (Nat × Value)} {st : List Value} {s : Sto} {x1 : Int} {Q : Int → Sto → Prop} (hd : decode M.1 pc = .ok (.invokevirtual 23, 3)) (hM : M.2.1 = RX9) (hn : pc + 3 = npc) (hcat : (st.map (fun v => v.category)).sum ≤ 8) (hR : 1 + 1 ≤ M.2.2.2.2.frames ∧ 8 + (6 + 11) + 23 ≤ M.2.2.2.2.locals) (h : K_Gr_findParts x1 s Q) (k' : ∀ r s1, Q r s1 → Go SC M F npc l (iV r :: st) s1) : Go SC M F pc l (iV x1 :: .ref 1 :: st) s := g_callV (k := 1) (as := [iV x1]) (st := st) hd hn rfl ⟨by decide, rfl⟩ rfl rfl (show okV M 23 RX2 yX2_findParts cX2_findParts 6 (some .int) 1 from ⟨⟨by rw [hM]; exact tw_718, tw_509, tw_510, tw_66, tw_511⟩, rfl, by decide, by decide, by decide +kernel⟩) rfl hcat ⟨rfl, rfl⟩ hR h (fun r s1 h => by obtain ⟨x, rfl, h2⟩ := h; exact k' x s1 h2)
theorem gf_Tr_19 {M : Mth} {F : Option Value → Sto → Prop} {pc npc : Nat} {l : List (Nat × Value)} {st : List Value} {s : Sto} (hd : decode M.1 pc = .ok (.getfield 19, 3)) (hM : M.2.1 = RX9) (hn : pc + 3 = npc) (k' : Go SC M F npc l (.ref 7 :: st) s) : Go SC M F pc l (.ref 8 :: st) s := g_get (f := 1) hd hn ⟨by decide, rfl, rfl⟩ rfl inw_X9 (by decide) (by rw [hM]; exact tw_266) rfl (Or.inr ⟨_, rfl, rfl⟩) k'
theorem iv_Tr_29 {M : Mth} {F : Option Value → Sto → Prop} {pc npc : Nat} {l : List (Nat × Value)} {st : List Value} {s : Sto} {x1 : Int} {Q : Sto → Prop} (hd : decode M.1 pc = .ok (.invokevirtual 29, 3)) (hM : M.2.1 = RX9) (hn : pc + 3 = npc) (hcat : (st.map (fun v => v.category)).sum ≤ 8) (hR : 3 + 1 ≤ M.2.2.2.2.frames ∧ 8 + (5 + 11) + 64 ≤ M.2.2.2.2.locals) (h : K_Ma_fill x1 s Q) (k' : ∀ s1, Q s1 → Go SC M F npc l st s1) : Go SC M F pc l (iV x1 :: .ref 7 :: st) s := g_callV (k := 7) (as := [iV x1]) (st := st) hd hn rfl ⟨by decide, rfl⟩ rfl rfl (show okV M 29 RX5 yX5_fill cX5_fill 5 none 1 from ⟨⟨by rw [hM]; exact tw_719, tw_720, tw_721, tw_72, tw_722⟩, rfl, by decide, by decide, by decide +kernel⟩) rfl hcat ⟨rfl, rfl⟩ hR h (fun r s1 h => by obtain ⟨rfl, h2⟩ := h; exact k' s1 h2)
theorem iv_Tr_35 {M : Mth} {F : Option Value → Sto → Prop} {pc npc : Nat} {l : List (Nat × Value)} {st : List Value} {s : Sto} {Q : Int → Sto → Prop} (hd : decode M.1 pc = .ok (.invokevirtual 35, 3)) (hM : M.2.1 = RX9) (hn : pc + 3 = npc) (hcat : (st.map (fun v => v.category)).sum ≤ 8) (hR : 1 + 1 ≤ M.2.2.2.2.frames ∧ 8 + (7 + 11) + 29 ≤ M.2.2.2.2.locals) (h : K_Ma_eliminate s Q) (k' : ∀ r s1, Q r s1 → Go SC M F npc l (jV r :: st) s1) : Go SC M F pc l (.ref 7 :: st) s := g_callV (k := 7) (as := []) (st := st) hd hn rfl ⟨by decide, rfl⟩ rfl rfl (show okV M 35 RX5 yX5_eliminate cX5_eliminate 7 (some .long) 0 from ⟨⟨by rw [hM]; exact tw_732, tw_733, tw_734, tw_72, tw_735⟩, rfl, by decide, by decide, by decide +kernel⟩) rfl hcat ⟨rfl, rfl⟩ hR h (fun r s1 h => by obtain ⟨x, rfl, h2⟩ := h; exact k' x s1 h2)
theorem gf_Cg_69 {M : Mth} {F : Option Value → Sto → Prop} {pc npc : Nat} {l : List (Nat × Value)} {st : List Value} {s : Sto} (hd : decode M.1 pc = .ok (.getfield 69, 3)) (hM : M.2.1 = RX10) (hn : pc + 3 = npc) (k' : Go SC M F npc l (.ref 8 :: st) s) : Go SC M F pc l (.ref 0 :: st) s := g_get (f := 7) hd hn ⟨by decide, rfl, rfl⟩ rfl inw_X10 (by decide) (by rw [hM]; exact tw_318) rfl (Or.inr ⟨_, rfl, rfl⟩) k'
theorem iv_Cg_241 {M : Mth} {F : Option Value → Sto → Prop} {pc npc : Nat} {l : List (Nat × Value)} {st : List Value} {s : Sto} {x1 : Int} {x2 : Int} {Q : Int → Sto → Prop} (hd : decode M.1 pc = .ok (.invokevirtual 241, 3)) (hM : M.2.1 = RX10) (hn : pc + 3 = npc) (hcat : (st.map (fun v => v.category)).sum ≤ 8) (hR : 4 + 1 ≤ M.2.2.2.2.frames ∧ 8 + (3 + 11) + 88 ≤ M.2.2.2.2.locals) (h : K_Tr_count x1 x2 s Q) (k' : ∀ r s1, Q r s1 → Go SC M F npc l (jV r :: st) s1) : Go SC M F pc l (iV x2 :: iV x1 :: .ref 8 :: st) s := g_callV (k := 8) (as := [iV x1, iV x2]) (st := st) hd hn rfl ⟨by decide, rfl⟩ rfl rfl (show okV M 241 RX9 yX9_count cX9_count 3 (some .long) 2 from ⟨⟨by rw [hM]; exact tw_714, tw_715, tw_716, tw_73, tw_717⟩, rfl, by decide, by decide, by decide +kernel⟩) rfl hcat ⟨rfl, rfl⟩ hR h (fun r s1 h => by obtain ⟨x, rfl, h2⟩ := h; exact k' x s1 h2)
theorem iv_Ma_63 {M : Mth} {F : Option Value → Sto → Prop} {pc npc : Nat} {l : List (Nat × Value)} {st : List Value} {s : Sto} {x1 : Int} {Q : Int → Sto → Prop} (hd : decode M.1 pc = .ok (.invokevirtual 63, 3)) (hM : M.2.1 = RX5) (hn : pc + 3 = npc) (hcat : (st.map (fun v => v.category)).sum ≤ 8) (hR : 1 + 1 ≤ M.2.2.2.2.frames ∧ 8 + (6 + 11) + 23 ≤ M.2.2.2.2.locals) (h : K_Gr_findParts x1 s Q) (k' : ∀ r s1, Q r s1 → Go SC M F npc l (iV r :: st) s1) : Go SC M F pc l (iV x1 :: .ref 1 :: st) s := g_callV (k := 1) (as := [iV x1]) (st := st) hd hn rfl ⟨by decide, rfl⟩ rfl rfl (show okV M 63 RX2 yX2_findParts cX2_findParts 6 (some .int) 1 from ⟨⟨by rw [hM]; exact tw_756, tw_509, tw_510, tw_66, tw_511⟩, rfl, by decide, by decide, by decide +kernel⟩) rfl hcat ⟨rfl, rfl⟩ hR h (fun r s1 h => by obtain ⟨x, rfl, h2⟩ := h; exact k' x s1 h2)
theorem iv_Ma_67 {M : Mth} {F : Option Value → Sto → Prop} {pc npc : Nat} {l : List (Nat × Value)} {st : List Value} {s : Sto} {x1 : Int} {Q : Sto → Prop} (hd : decode M.1 pc = .ok (.invokevirtual 67, 3)) (hM : M.2.1 = RX5) (hn : pc + 3 = npc) (hcat : (st.map (fun v => v.category)).sum ≤ 8) (hR : 3 + 1 ≤ M.2.2.2.2.frames ∧ 8 + (5 + 11) + 64 ≤ M.2.2.2.2.locals) (h : K_Ma_fill x1 s Q) (k' : ∀ s1, Q s1 → Go SC M F npc l st s1) : Go SC M F pc l (iV x1 :: .ref 7 :: st) s := g_callV (k := 7) (as := [iV x1]) (st := st) hd hn rfl ⟨by decide, rfl⟩ rfl rfl (show okV M 67 RX5 yX5_fill cX5_fill 5 none 1 from ⟨⟨by rw [hM]; exact tw_757, tw_720, tw_721, tw_72, tw_722⟩, rfl, by decide, by decide, by decide +kernel⟩) rfl hcat ⟨rfl, rfl⟩ hR h (fun r s1 h => by obtain ⟨rfl, h2⟩ := h; exact k' s1 h2)
theorem iv_Ma_122 {M : Mth} {F : Option Value → Sto → Prop} {pc npc : Nat} {l : List (Nat × Value)} {st : List Value} {s : Sto} {x0 : Int} {Q : Int → Sto → Prop} (hd : decode M.1 pc = .ok (.invokestatic 122, 3)) (hM : M.2.1 = RX5) (hn : pc + 3 = npc) (hcat : (st.map (fun v => v.category)).sum ≤ 8) (hR : 0 + 1 ≤ M.2.2.2.2.frames ∧ 8 + (2 + 11) + 0 ≤ M.2.2.2.2.locals) (h : K_JM_abs x0 s Q) (k' : ∀ r s1, Q r s1 → Go SC M F npc l (jV r :: st) s1) : Go SC M F pc l (jV x0 :: st) s := g_callS (as := [jV x0]) (st := st) hd hn rfl (show okS M 122 yJ9_abs_067f4 cJ9_abs_067f4 2 (some .long) 1 from ⟨⟨by rw [hM]; exact tw_762, tw_763, tw_81, tw_764⟩, by decide, by decide, by decide +kernel⟩) rfl hcat ⟨rfl, rfl⟩ hR h (fun r s1 h => by obtain ⟨x, rfl, h2⟩ := h; exact k' x s1 h2)
theorem iv_Ma_75 {M : Mth} {F : Option Value → Sto → Prop} {pc npc : Nat} {l : List (Nat × Value)} {st : List Value} {s : Sto} {Q : Sto → Prop} (hd : decode M.1 pc = .ok (.invokevirtual 75, 3)) (hM : M.2.1 = RX5) (hn : pc + 3 = npc) (hcat : (st.map (fun v => v.category)).sum ≤ 8) (hR : 4 + 1 ≤ M.2.2.2.2.frames ∧ 8 + (1 + 11) + 88 ≤ M.2.2.2.2.locals) (h : K_Ma_fillWhole s Q) (k' : ∀ s1, Q s1 → Go SC M F npc l st s1) : Go SC M F pc l (.ref 7 :: st) s := g_callV (k := 7) (as := []) (st := st) hd hn rfl ⟨by decide, rfl⟩ rfl rfl (show okV M 75 RX5 yX5_fillWhole cX5_fillWhole 1 none 0 from ⟨⟨by rw [hM]; exact tw_752, tw_754, tw_16, tw_72, tw_755⟩, rfl, by decide, by decide, by decide +kernel⟩) rfl hcat ⟨rfl, rfl⟩ hR h (fun r s1 h => by obtain ⟨rfl, h2⟩ := h; exact k' s1 h2)
theorem iv_Ma_78 {M : Mth} {F : Option Value → Sto → Prop} {pc npc : Nat} {l : List (Nat × Value)} {st : List Value} {s : Sto} {Q : Int → Sto → Prop} (hd : decode M.1 pc = .ok (.invokevirtual 78, 3)) (hM : M.2.1 = RX5) (hn : pc + 3 = npc) (hcat : (st.map (fun v => v.category)).sum ≤ 8) (hR : 1 + 1 ≤ M.2.2.2.2.frames ∧ 8 + (7 + 11) + 29 ≤ M.2.2.2.2.locals) (h : K_Ma_eliminate s Q) (k' : ∀ r s1, Q r s1 → Go SC M F npc l (jV r :: st) s1) : Go SC M F pc l (.ref 7 :: st) s := g_callV (k := 7) (as := []) (st := st) hd hn rfl ⟨by decide, rfl⟩ rfl rfl (show okV M 78 RX5 yX5_eliminate cX5_eliminate 7 (some .long) 0 from ⟨⟨by rw [hM]; exact tw_758, tw_733, tw_734, tw_72, tw_735⟩, rfl, by decide, by decide, by decide +kernel⟩) rfl hcat ⟨rfl, rfl⟩ hR h (fun r s1 h => by obtain ⟨x, rfl, h2⟩ := h; exact k' x s1 h2)
theorem iv_Ma_82 {M : Mth} {F : Option Value → Sto → Prop} {pc npc : Nat} {l : List (Nat × Value)} {st : List Value} {s : Sto} {x0 : Int} {x2 : Int} {Q : Int → Sto → Prop} (hd : decode M.1 pc = .ok (.invokestatic 82, 3)) (hM : M.2.1 = RX5) (hn : pc + 3 = npc) (hcat : (st.map (fun v => v.category)).sum ≤ 8) (hR : 1 + 1 ≤ M.2.2.2.2.frames ∧ 8 + (11 + 11) + 21 ≤ M.2.2.2.2.locals) (h : K_Ma_commonDivisor x0 x2 s Q) (k' : ∀ r s1, Q r s1 → Go SC M F npc l (jV r :: st) s1) : Go SC M F pc l (jV x2 :: jV x0 :: st) s := g_callS (as := [jV x0, jV x2]) (st := st) hd hn rfl (show okS M 82 yX5_commonDivisor cX5_commonDivisor 11 (some .long) 2 from ⟨⟨by rw [hM]; exact tw_759, tw_760, tw_72, tw_761⟩, by decide, by decide, by decide +kernel⟩) rfl hcat ⟨rfl, rfl⟩ hR h (fun r s1 h => by obtain ⟨x, rfl, h2⟩ := h; exact k' x s1 h2)
theorem gf_Cg_60 {M : Mth} {F : Option Value → Sto → Prop} {pc npc : Nat} {l : List (Nat × Value)} {st : List Value} {s : Sto} (hd : decode M.1 pc = .ok (.getfield 60, 3)) (hM : M.2.1 = RX10) (hn : pc + 3 = npc) (k' : Go SC M F npc l (.ref 7 :: st) s) : Go SC M F pc l (.ref 0 :: st) s := g_get (f := 6) hd hn ⟨by decide, rfl, rfl⟩ rfl inw_X10 (by decide) (by rw [hM]; exact tw_317) rfl (Or.inr ⟨_, rfl, rfl⟩) k'
theorem iv_Cg_247 {M : Mth} {F : Option Value → Sto → Prop} {pc npc : Nat} {l : List (Nat × Value)} {st : List Value} {s : Sto} {k1 : Nat} {Q : Int → Sto → Prop} (hd : decode M.1 pc = .ok (.invokevirtual 247, 3)) (hM : M.2.1 = RX10) (hn : pc + 3 = npc) (hcat : (st.map (fun v => v.category)).sum ≤ 8) (hR : 5 + 1 ≤ M.2.2.2.2.frames ∧ 8 + (7 + 11) + 108 ≤ M.2.2.2.2.locals) (h : K_Ma_orderOf k1 s Q) (k' : ∀ r s1, Q r s1 → Go SC M F npc l (jV r :: st) s1) : Go SC M F pc l (.ref k1 :: .ref 7 :: st) s := g_callV (k := 7) (as := [.ref k1]) (st := st) hd hn rfl ⟨by decide, rfl⟩ rfl rfl (show okV M 247 RX5 yX5_orderOf cX5_orderOf 7 (some .long) 1 from ⟨⟨by rw [hM]; exact tw_748, tw_749, tw_750, tw_72, tw_751⟩, rfl, by decide, by decide, by decide +kernel⟩) rfl hcat ⟨rfl, rfl⟩ hR h (fun r s1 h => by obtain ⟨x, rfl, h2⟩ := h; exact k' x s1 h2)
theorem iv_Ma_109 {M : Mth} {F : Option Value → Sto → Prop} {pc npc : Nat} {l : List (Nat × Value)} {st : List Value} {s : Sto} {x1 : Int} {x2 : Int} {Q : Sto → Prop} (hd : decode M.1 pc = .ok (.invokevirtual 109, 3)) (hM : M.2.1 = RX5) (hn : pc + 3 = npc) (hcat : (st.map (fun v => v.category)).sum ≤ 8) (hR : 0 + 1 ≤ M.2.2.2.2.frames ∧ 8 + (6 + 11) + 0 ≤ M.2.2.2.2.locals) (h : K_Ma_swapRows x1 x2 s Q) (k' : ∀ s1, Q s1 → Go SC M F npc l st s1) : Go SC M F pc l (iV x2 :: iV x1 :: .ref 7 :: st) s := g_callV (k := 7) (as := [iV x1, iV x2]) (st := st) hd hn rfl ⟨by decide, rfl⟩ rfl rfl (show okV M 109 RX5 yX5_swapRows cX5_swapRows 6 none 2 from ⟨⟨by rw [hM]; exact tw_786, tw_788, tw_19, tw_72, tw_789⟩, rfl, by decide, by decide, by decide +kernel⟩) rfl hcat ⟨rfl, rfl⟩ hR h (fun r s1 h => by obtain ⟨rfl, h2⟩ := h; exact k' s1 h2)
theorem iv_Ma_112 {M : Mth} {F : Option Value → Sto → Prop} {pc npc : Nat} {l : List (Nat × Value)} {st : List Value} {s : Sto} {x1 : Int} {x2 : Int} {Q : Sto → Prop} (hd : decode M.1 pc = .ok (.invokevirtual 112, 3)) (hM : M.2.1 = RX5) (hn : pc + 3 = npc) (hcat : (st.map (fun v => v.category)).sum ≤ 8) (hR : 0 + 1 ≤ M.2.2.2.2.frames ∧ 8 + (6 + 11) + 0 ≤ M.2.2.2.2.locals) (h : K_Ma_swapColumns x1 x2 s Q) (k' : ∀ s1, Q s1 → Go SC M F npc l st s1) : Go SC M F pc l (iV x2 :: iV x1 :: .ref 7 :: st) s := g_callV (k := 7) (as := [iV x1, iV x2]) (st := st) hd hn rfl ⟨by decide, rfl⟩ rfl rfl (show okV M 112 RX5 yX5_swapColumns cX5_swapColumns 6 none 2 from ⟨⟨by rw [hM]; exact tw_790, tw_792, tw_20, tw_72, tw_793⟩, rfl, by decide, by decide, by decide +kernel⟩) rfl hcat ⟨rfl, rfl⟩ hR h (fun r s1 h => by obtain ⟨rfl, h2⟩ := h; exact k' s1 h2)
theorem iv_Ma_86 {M : Mth} {F : Option Value → Sto → Prop} {pc npc : Nat} {l : List (Nat × Value)} {st : List Value} {s : Sto} {x0 : Int} {x2 : Int} {Q : Int → Sto → Prop} (hd : decode M.1 pc = .ok (.invokestatic 86, 3)) (hM : M.2.1 = RX5) (hn : pc + 3 = npc) (hcat : (st.map (fun v => v.category)).sum ≤ 8) (hR : 0 + 1 ≤ M.2.2.2.2.frames ∧ 8 + (6 + 11) + 0 ≤ M.2.2.2.2.locals) (h : K_JM_floorMod x0 x2 s Q) (k' : ∀ r s1, Q r s1 → Go SC M F npc l (jV r :: st) s1) : Go SC M F pc l (jV x2 :: jV x0 :: st) s := g_callS (as := [jV x0, jV x2]) (st := st) hd hn rfl (show okS M 86 yJ9_floorMod_f86c9 cJ9_floorMod_f86c9 6 (some .long) 2 from ⟨⟨by rw [hM]; exact tw_775, tw_776, tw_81, tw_777⟩, by decide, by decide, by decide +kernel⟩) rfl hcat ⟨rfl, rfl⟩ hR h (fun r s1 h => by obtain ⟨x, rfl, h2⟩ := h; exact k' x s1 h2)
theorem iv_Ma_115 {M : Mth} {F : Option Value → Sto → Prop} {pc npc : Nat} {l : List (Nat × Value)} {st : List Value} {s : Sto} {x1 : Int} {x2 : Int} {x3 : Int} {x5 : Int} {Q : Sto → Prop} (hd : decode M.1 pc = .ok (.invokevirtual 115, 3)) (hM : M.2.1 = RX5) (hn : pc + 3 = npc) (hcat : (st.map (fun v => v.category)).sum ≤ 8) (hR : 1 + 1 ≤ M.2.2.2.2.frames ∧ 8 + (8 + 11) + 25 ≤ M.2.2.2.2.locals) (h : K_Ma_addRow x1 x2 x3 x5 s Q) (k' : ∀ s1, Q s1 → Go SC M F npc l st s1) : Go SC M F pc l (jV x5 :: jV x3 :: iV x2 :: iV x1 :: .ref 7 :: st) s := g_callV (k := 7) (as := [iV x1, iV x2, jV x3, jV x5]) (st := st) hd hn rfl ⟨by decide, rfl⟩ rfl rfl (show okV M 115 RX5 yX5_addRow cX5_addRow 8 none 4 from ⟨⟨by rw [hM]; exact tw_798, tw_800, tw_22, tw_72, tw_801⟩, rfl, by decide, by decide, by decide +kernel⟩) rfl hcat ⟨rfl, rfl⟩ hR h (fun r s1 h => by obtain ⟨rfl, h2⟩ := h; exact k' s1 h2)
theorem iv_Ma_119 {M : Mth} {F : Option Value → Sto → Prop} {pc npc : Nat} {l : List (Nat × Value)} {st : List Value} {s : Sto} {x1 : Int} {x2 : Int} {x3 : Int} {x5 : Int} {Q : Sto → Prop} (hd : decode M.1 pc = .ok (.invokevirtual 119, 3)) (hM : M.2.1 = RX5) (hn : pc + 3 = npc) (hcat : (st.map (fun v => v.category)).sum ≤ 8) (hR : 1 + 1 ≤ M.2.2.2.2.frames ∧ 8 + (8 + 11) + 25 ≤ M.2.2.2.2.locals) (h : K_Ma_addColumn x1 x2 x3 x5 s Q) (k' : ∀ s1, Q s1 → Go SC M F npc l st s1) : Go SC M F pc l (jV x5 :: jV x3 :: iV x2 :: iV x1 :: .ref 7 :: st) s := g_callV (k := 7) (as := [iV x1, iV x2, jV x3, jV x5]) (st := st) hd hn rfl ⟨by decide, rfl⟩ rfl rfl (show okV M 119 RX5 yX5_addColumn cX5_addColumn 8 none 4 from ⟨⟨by rw [hM]; exact tw_806, tw_808, tw_24, tw_72, tw_809⟩, rfl, by decide, by decide, by decide +kernel⟩) rfl hcat ⟨rfl, rfl⟩ hR h (fun r s1 h => by obtain ⟨rfl, h2⟩ := h; exact k' s1 h2)
theorem iv_Ma_96 {M : Mth} {F : Option Value → Sto → Prop} {pc npc : Nat} {l : List (Nat × Value)} {st : List Value} {s : Sto} {x1 : Int} {Q : Int → Sto → Prop} (hd : decode M.1 pc = .ok (.invokevirtual 96, 3)) (hM : M.2.1 = RX5) (hn : pc + 3 = npc) (hcat : (st.map (fun v => v.category)).sum ≤ 8) (hR : 1 + 1 ≤ M.2.2.2.2.frames ∧ 8 + (7 + 11) + 25 ≤ M.2.2.2.2.locals) (h : K_Ma_bringLeastToCorner x1 s Q) (k' : ∀ r s1, Q r s1 → Go SC M F npc l (iV r :: st) s1) : Go SC M F pc l (iV x1 :: .ref 7 :: st) s := g_callV (k := 7) (as := [iV x1]) (st := st) hd hn rfl ⟨by decide, rfl⟩ rfl rfl (show okV M 96 RX5 yX5_bringLeastToCorner cX5_bringLeastToCorner 7 (some .boolean) 1 from ⟨⟨by rw [hM]; exact tw_782, tw_784, tw_18, tw_72, tw_785⟩, rfl, by decide, by decide, by decide +kernel⟩) rfl hcat ⟨rfl, rfl⟩ hR h (fun r s1 h => by obtain ⟨x, rfl, h2⟩ := h; exact k' x s1 h2)
theorem iv_Ma_99 {M : Mth} {F : Option Value → Sto → Prop} {pc npc : Nat} {l : List (Nat × Value)} {st : List Value} {s : Sto} {x1 : Int} {x2 : Int} {Q : Int → Sto → Prop} (hd : decode M.1 pc = .ok (.invokevirtual 99, 3)) (hM : M.2.1 = RX5) (hn : pc + 3 = npc) (hcat : (st.map (fun v => v.category)).sum ≤ 8) (hR : 2 + 1 ≤ M.2.2.2.2.frames ∧ 8 + (8 + 11) + 52 ≤ M.2.2.2.2.locals) (h : K_Ma_clearColumn x1 x2 s Q) (k' : ∀ r s1, Q r s1 → Go SC M F npc l (iV r :: st) s1) : Go SC M F pc l (jV x2 :: iV x1 :: .ref 7 :: st) s := g_callV (k := 7) (as := [iV x1, jV x2]) (st := st) hd hn rfl ⟨by decide, rfl⟩ rfl rfl (show okV M 99 RX5 yX5_clearColumn cX5_clearColumn 8 (some .boolean) 2 from ⟨⟨by rw [hM]; exact tw_794, tw_796, tw_21, tw_72, tw_797⟩, rfl, by decide, by decide, by decide +kernel⟩) rfl hcat ⟨rfl, rfl⟩ hR h (fun r s1 h => by obtain ⟨x, rfl, h2⟩ := h; exact k' x s1 h2)
theorem iv_Ma_103 {M : Mth} {F : Option Value → Sto → Prop} {pc npc : Nat} {l : List (Nat × Value)} {st : List Value} {s : Sto} {x1 : Int} {x2 : Int} {Q : Int → Sto → Prop} (hd : decode M.1 pc = .ok (.invokevirtual 103, 3)) (hM : M.2.1 = RX5) (hn : pc + 3 = npc) (hcat : (st.map (fun v => v.category)).sum ≤ 8) (hR : 2 + 1 ≤ M.2.2.2.2.frames ∧ 8 + (8 + 11) + 52 ≤ M.2.2.2.2.locals) (h : K_Ma_clearRow x1 x2 s Q) (k' : ∀ r s1, Q r s1 → Go SC M F npc l (iV r :: st) s1) : Go SC M F pc l (jV x2 :: iV x1 :: .ref 7 :: st) s := g_callV (k := 7) (as := [iV x1, jV x2]) (st := st) hd hn rfl ⟨by decide, rfl⟩ rfl rfl (show okV M 103 RX5 yX5_clearRow cX5_clearRow 8 (some .boolean) 2 from ⟨⟨by rw [hM]; exact tw_802, tw_804, tw_23, tw_72, tw_805⟩, rfl, by decide, by decide, by decide +kernel⟩) rfl hcat ⟨rfl, rfl⟩ hR h (fun r s1 h => by obtain ⟨x, rfl, h2⟩ := h; exact k' x s1 h2)
theorem iv_Ma_106 {M : Mth} {F : Option Value → Sto → Prop} {pc npc : Nat} {l : List (Nat × Value)} {st : List Value} {s : Sto} {x1 : Int} {x2 : Int} {Q : Int → Sto → Prop} (hd : decode M.1 pc = .ok (.invokevirtual 106, 3)) (hM : M.2.1 = RX5) (hn : pc + 3 = npc) (hcat : (st.map (fun v => v.category)).sum ≤ 8) (hR : 2 + 1 ≤ M.2.2.2.2.frames ∧ 8 + (8 + 11) + 52 ≤ M.2.2.2.2.locals) (h : K_Ma_addUndividedRow x1 x2 s Q) (k' : ∀ r s1, Q r s1 → Go SC M F npc l (iV r :: st) s1) : Go SC M F pc l (jV x2 :: iV x1 :: .ref 7 :: st) s := g_callV (k := 7) (as := [iV x1, jV x2]) (st := st) hd hn rfl ⟨by decide, rfl⟩ rfl rfl (show okV M 106 RX5 yX5_addUndividedRow cX5_addUndividedRow 8 (some .boolean) 2 from ⟨⟨by rw [hM]; exact tw_810, tw_812, tw_25, tw_72, tw_813⟩, rfl, by decide, by decide, by decide +kernel⟩) rfl hcat ⟨rfl, rfl⟩ hR h (fun r s1 h => by obtain ⟨x, rfl, h2⟩ := h; exact k' x s1 h2)
theorem pf_Ma_15 {M : Mth} {F : Option Value → Sto → Prop} {pc npc : Nat} {l : List (Nat × Value)} {st : List Value} {s : Sto} {x : Int} (hd : decode M.1 pc = .ok (.putfield 15, 3)) (hM : M.2.1 = RX5) (hn : pc + 3 = npc) (k' : Go SC M F npc l st (up s 7 1 x)) : Go SC M F pc l (iV x :: .ref 7 :: st) s := g_put (f := 1) tyX5 hd hn ⟨by decide, rfl, rfl⟩ rfl inw_X5 tyX5_ok nmX5 (by decide) (by rw [hM]; exact tw_242) rfl rfl rfl ⟨rfl, rfl⟩ k'
theorem iv_Ma_91 {M : Mth} {F : Option Value → Sto → Prop} {pc npc : Nat} {l : List (Nat × Value)} {st : List Value} {s : Sto} {x1 : Int} {x2 : Int} {Q : Sto → Prop} (hd : decode M.1 pc = .ok (.invokevirtual 91, 3)) (hM : M.2.1 = RX5) (hn : pc + 3 = npc) (hcat : (st.map (fun v => v.category)).sum ≤ 8) (hR : 3 + 1 ≤ M.2.2.2.2.frames ∧ 8 + (7 + 11) + 79 ≤ M.2.2.2.2.locals) (h : K_Ma_clearAround x1 x2 s Q) (k' : ∀ s1, Q s1 → Go SC M F npc l st s1) : Go SC M F pc l (jV x2 :: iV x1 :: .ref 7 :: st) s := g_callV (k := 7) (as := [iV x1, jV x2]) (st := st) hd hn rfl ⟨by decide, rfl⟩ rfl rfl (show okV M 91 RX5 yX5_clearAround cX5_clearAround 7 none 2 from ⟨⟨by rw [hM]; exact tw_778, tw_780, tw_17, tw_72, tw_781⟩, rfl, by decide, by decide, by decide +kernel⟩) rfl hcat ⟨rfl, rfl⟩ hR h (fun r s1 h => by obtain ⟨rfl, h2⟩ := h; exact k' s1 h2)
theorem gf_Ma_9 {M : Mth} {F : Option Value → Sto → Prop} {pc npc : Nat} {l : List (Nat × Value)} {st : List Value} {s : Sto} (hd : decode M.1 pc = .ok (.getfield 9, 3)) (hM : M.2.1 = RX5) (hn : pc + 3 = npc) (k' : Go SC M F npc l (.ref 48 :: st) s) : Go SC M F pc l (.ref 7 :: st) s := g_get (f := 0) hd hn ⟨by decide, rfl, rfl⟩ rfl inw_X5 (by decide) (by rw [hM]; exact tw_240) rfl (Or.inr ⟨_, rfl, rfl⟩) k'
theorem gf_Ma_15 {M : Mth} {F : Option Value → Sto → Prop} {pc npc : Nat} {l : List (Nat × Value)} {st : List Value} {s : Sto} (hd : decode M.1 pc = .ok (.getfield 15, 3)) (hM : M.2.1 = RX5) (hn : pc + 3 = npc) (k' : Go SC M F npc l (iV (s 7 1) :: st) s) : Go SC M F pc l (.ref 7 :: st) s := g_get (f := 1) hd hn ⟨by decide, rfl, rfl⟩ rfl inw_X5 (by decide) (by rw [hM]; exact tw_242) rfl (Or.inl ⟨rfl, rfl⟩) k'
theorem iv_Cg_253 {M : Mth} {F : Option Value → Sto → Prop} {pc npc : Nat} {l : List (Nat × Value)} {st : List Value} {s : Sto} {Q : Sto → Prop} (hd : decode M.1 pc = .ok (.invokevirtual 253, 3)) (hM : M.2.1 = RX10) (hn : pc + 3 = npc) (hcat : (st.map (fun v => v.category)).sum ≤ 8) (hR : 5 + 1 ≤ M.2.2.2.2.frames ∧ 8 + (6 + 11) + 108 ≤ M.2.2.2.2.locals) (h : K_Ma_findFactors s Q) (k' : ∀ s1, Q s1 → Go SC M F npc l st s1) : Go SC M F pc l (.ref 7 :: st) s := g_callV (k := 7) (as := []) (st := st) hd hn rfl ⟨by decide, rfl⟩ rfl rfl (show okV M 253 RX5 yX5_findFactors cX5_findFactors 6 none 0 from ⟨⟨by rw [hM]; exact tw_771, tw_772, tw_773, tw_72, tw_774⟩, rfl, by decide, by decide, by decide +kernel⟩) rfl hcat ⟨rfl, rfl⟩ hR h (fun r s1 h => by obtain ⟨rfl, h2⟩ := h; exact k' s1 h2)
theorem gf_Cg_256 {M : Mth} {F : Option Value → Sto → Prop} {pc npc : Nat} {l : List (Nat × Value)} {st : List Value} {s : Sto} (hd : decode M.1 pc = .ok (.getfield 256, 3)) (hM : M.2.1 = RX10) (hn : pc + 3 = npc) (k' : Go SC M F npc l (iV (s 7 1) :: st) s) : Go SC M F pc l (.ref 7 :: st) s := g_get (f := 1) hd hn ⟨by decide, rfl, rfl⟩ rfl inw_X5 (by decide) (by rw [hM]; exact tw_243) rfl (Or.inl ⟨rfl, rfl⟩) k'
theorem gf_Cg_259 {M : Mth} {F : Option Value → Sto → Prop} {pc npc : Nat} {l : List (Nat × Value)} {st : List Value} {s : Sto} (hd : decode M.1 pc = .ok (.getfield 259, 3)) (hM : M.2.1 = RX10) (hn : pc + 3 = npc) (k' : Go SC M F npc l (.ref 48 :: st) s) : Go SC M F pc l (.ref 7 :: st) s := g_get (f := 0) hd hn ⟨by decide, rfl, rfl⟩ rfl inw_X5 (by decide) (by rw [hM]; exact tw_241) rfl (Or.inr ⟨_, rfl, rfl⟩) k'
theorem gf_Le_24 {M : Mth} {F : Option Value → Sto → Prop} {pc npc : Nat} {l : List (Nat × Value)} {st : List Value} {s : Sto} (hd : decode M.1 pc = .ok (.getfield 24, 3)) (hM : M.2.1 = RX4) (hn : pc + 3 = npc) (k' : Go SC M F npc l (.ref 1 :: st) s) : Go SC M F pc l (.ref 9 :: st) s := g_get (f := 0) hd hn ⟨by decide, rfl, rfl⟩ rfl inw_X4 (by decide) (by rw [hM]; exact tw_282) rfl (Or.inr ⟨_, rfl, rfl⟩) k'
theorem gf_Le_31 {M : Mth} {F : Option Value → Sto → Prop} {pc npc : Nat} {l : List (Nat × Value)} {st : List Value} {s : Sto} (hd : decode M.1 pc = .ok (.getfield 31, 3)) (hM : M.2.1 = RX4) (hn : pc + 3 = npc) (k' : Go SC M F npc l (iV (s 1 0) :: st) s) : Go SC M F pc l (.ref 1 :: st) s := g_get (f := 0) hd hn ⟨by decide, rfl, rfl⟩ rfl inw_X2 (by decide) (by rw [hM]; exact tw_102) rfl (Or.inl ⟨rfl, rfl⟩) k'
theorem gf_Le_11 {M : Mth} {F : Option Value → Sto → Prop} {pc npc : Nat} {l : List (Nat × Value)} {st : List Value} {s : Sto} (hd : decode M.1 pc = .ok (.getfield 11, 3)) (hM : M.2.1 = RX4) (hn : pc + 3 = npc) (k' : Go SC M F npc l (.ref 59 :: st) s) : Go SC M F pc l (.ref 9 :: st) s := g_get (f := 1) hd hn ⟨by decide, rfl, rfl⟩ rfl inw_X4 (by decide) (by rw [hM]; exact tw_283) rfl (Or.inr ⟨_, rfl, rfl⟩) k'
theorem gf_Le_44 {M : Mth} {F : Option Value → Sto → Prop} {pc npc : Nat} {l : List (Nat × Value)} {st : List Value} {s : Sto} (hd : decode M.1 pc = .ok (.getfield 44, 3)) (hM : M.2.1 = RX4) (hn : pc + 3 = npc) (k' : Go SC M F npc l (iV (s 1 1) :: st) s) : Go SC M F pc l (.ref 1 :: st) s := g_get (f := 1) hd hn ⟨by decide, rfl, rfl⟩ rfl inw_X2 (by decide) (by rw [hM]; exact tw_108) rfl (Or.inl ⟨rfl, rfl⟩) k'
theorem gf_Le_47 {M : Mth} {F : Option Value → Sto → Prop} {pc npc : Nat} {l : List (Nat × Value)} {st : List Value} {s : Sto} (hd : decode M.1 pc = .ok (.getfield 47, 3)) (hM : M.2.1 = RX4) (hn : pc + 3 = npc) (k' : Go SC M F npc l (.ref 13 :: st) s) : Go SC M F pc l (.ref 1 :: st) s := g_get (f := 3) hd hn ⟨by decide, rfl, rfl⟩ rfl inw_X2 (by decide) (by rw [hM]; exact tw_118) rfl (Or.inr ⟨_, rfl, rfl⟩) k'
theorem gf_Le_50 {M : Mth} {F : Option Value → Sto → Prop} {pc npc : Nat} {l : List (Nat × Value)} {st : List Value} {s : Sto} (hd : decode M.1 pc = .ok (.getfield 50, 3)) (hM : M.2.1 = RX4) (hn : pc + 3 = npc) (k' : Go SC M F npc l (.ref 14 :: st) s) : Go SC M F pc l (.ref 1 :: st) s := g_get (f := 4) hd hn ⟨by decide, rfl, rfl⟩ rfl inw_X2 (by decide) (by rw [hM]; exact tw_123) rfl (Or.inr ⟨_, rfl, rfl⟩) k'
theorem gf_Le_17 {M : Mth} {F : Option Value → Sto → Prop} {pc npc : Nat} {l : List (Nat × Value)} {st : List Value} {s : Sto} (hd : decode M.1 pc = .ok (.getfield 17, 3)) (hM : M.2.1 = RX4) (hn : pc + 3 = npc) (k' : Go SC M F npc l (.ref 60 :: st) s) : Go SC M F pc l (.ref 9 :: st) s := g_get (f := 2) hd hn ⟨by decide, rfl, rfl⟩ rfl inw_X4 (by decide) (by rw [hM]; exact tw_284) rfl (Or.inr ⟨_, rfl, rfl⟩) k'
theorem iv_Le_53 {M : Mth} {F : Option Value → Sto → Prop} {pc npc : Nat} {l : List (Nat × Value)} {st : List Value} {s : Sto} {k0 : Nat} {k1 : Nat} {x2 : Int} {Q : Sto → Prop} (hd : decode M.1 pc = .ok (.invokestatic 53, 3)) (hM : M.2.1 = RX4) (hn : pc + 3 = npc) (hcat : (st.map (fun v => v.category)).sum ≤ 8) (hR : 0 + 1 ≤ M.2.2.2.2.frames ∧ 8 + (4 + 11) + 0 ≤ M.2.2.2.2.locals) (h : K_Le_subtractShifted k0 k1 x2 s Q) (k' : ∀ s1, Q s1 → Go SC M F npc l st s1) : Go SC M F pc l (iV x2 :: .ref k1 :: .ref k0 :: st) s := g_callS (as := [.ref k0, .ref k1, iV x2]) (st := st) hd hn rfl (show okS M 53 yX4_subtractShifted cX4_subtractShifted 4 none 3 from ⟨⟨by rw [hM]; exact tw_834, tw_835, tw_74, tw_836⟩, by decide, by decide, by decide +kernel⟩) rfl hcat ⟨rfl, rfl⟩ hR h (fun r s1 h => by obtain ⟨rfl, h2⟩ := h; exact k' s1 h2)
theorem gf_Le_20 {M : Mth} {F : Option Value → Sto → Prop} {pc npc : Nat} {l : List (Nat × Value)} {st : List Value} {s : Sto} (hd : decode M.1 pc = .ok (.getfield 20, 3)) (hM : M.2.1 = RX4) (hn : pc + 3 = npc) (k' : Go SC M F npc l (.ref 189 :: st) s) : Go SC M F pc l (.ref 9 :: st) s := g_get (f := 3) hd hn ⟨by decide, rfl, rfl⟩ rfl inw_X4 (by decide) (by rw [hM]; exact tw_285) rfl (Or.inr ⟨_, rfl, rfl⟩) k'
theorem iv_Le_28 {M : Mth} {F : Option Value → Sto → Prop} {pc npc : Nat} {l : List (Nat × Value)} {st : List Value} {s : Sto} {Q : Sto → Prop} (hd : decode M.1 pc = .ok (.invokevirtual 28, 3)) (hM : M.2.1 = RX4) (hn : pc + 3 = npc) (hcat : (st.map (fun v => v.category)).sum ≤ 8) (hR : 0 + 1 ≤ M.2.2.2.2.frames ∧ 8 + (4 + 11) + 0 ≤ M.2.2.2.2.locals) (h : K_Le_countEdgesInside s Q) (k' : ∀ s1, Q s1 → Go SC M F npc l st s1) : Go SC M F pc l (.ref 9 :: st) s := g_callV (k := 9) (as := []) (st := st) hd hn rfl ⟨by decide, rfl⟩ rfl rfl (show okV M 28 RX4 yX4_countEdgesInside cX4_countEdgesInside 4 none 0 from ⟨⟨by rw [hM]; exact tw_826, tw_828, tw_26, tw_74, tw_829⟩, rfl, by decide, by decide, by decide +kernel⟩) rfl hcat ⟨rfl, rfl⟩ hR h (fun r s1 h => by obtain ⟨rfl, h2⟩ := h; exact k' s1 h2)
theorem iv_Le_37 {M : Mth} {F : Option Value → Sto → Prop} {pc npc : Nat} {l : List (Nat × Value)} {st : List Value} {s : Sto} {x1 : Int} {Q : Sto → Prop} (hd : decode M.1 pc = .ok (.invokevirtual 37, 3)) (hM : M.2.1 = RX4) (hn : pc + 3 = npc) (hcat : (st.map (fun v => v.category)).sum ≤ 8) (hR : 1 + 1 ≤ M.2.2.2.2.frames ∧ 8 + (4 + 11) + 23 ≤ M.2.2.2.2.locals) (h : K_Le_sumConnected x1 s Q) (k' : ∀ s1, Q s1 → Go SC M F npc l st s1) : Go SC M F pc l (iV x1 :: .ref 9 :: st) s := g_callV (k := 9) (as := [iV x1]) (st := st) hd hn rfl ⟨by decide, rfl⟩ rfl rfl (show okV M 37 RX4 yX4_sumConnected cX4_sumConnected 4 none 1 from ⟨⟨by rw [hM]; exact tw_830, tw_832, tw_27, tw_74, tw_833⟩, rfl, by decide, by decide, by decide +kernel⟩) rfl hcat ⟨rfl, rfl⟩ hR h (fun r s1 h => by obtain ⟨rfl, h2⟩ := h; exact k' s1 h2)
theorem iv_Le_41 {M : Mth} {F : Option Value → Sto → Prop} {pc npc : Nat} {l : List (Nat × Value)} {st : List Value} {s : Sto} {Q : Sto → Prop} (hd : decode M.1 pc = .ok (.invokevirtual 41, 3)) (hM : M.2.1 = RX4) (hn : pc + 3 = npc) (hcat : (st.map (fun v => v.category)).sum ≤ 8) (hR : 0 + 1 ≤ M.2.2.2.2.frames ∧ 8 + (6 + 11) + 0 ≤ M.2.2.2.2.locals) (h : K_Le_divideByYMinusOne s Q) (k' : ∀ s1, Q s1 → Go SC M F npc l st s1) : Go SC M F pc l (.ref 9 :: st) s := g_callV (k := 9) (as := []) (st := st) hd hn rfl ⟨by decide, rfl⟩ rfl rfl (show okV M 41 RX4 yX4_divideByYMinusOne cX4_divideByYMinusOne 6 none 0 from ⟨⟨by rw [hM]; exact tw_837, tw_839, tw_28, tw_74, tw_840⟩, rfl, by decide, by decide, by decide +kernel⟩) rfl hcat ⟨rfl, rfl⟩ hR h (fun r s1 h => by obtain ⟨rfl, h2⟩ := h; exact k' s1 h2)
theorem gf_Cg_76 {M : Mth} {F : Option Value → Sto → Prop} {pc npc : Nat} {l : List (Nat × Value)} {st : List Value} {s : Sto} (hd : decode M.1 pc = .ok (.getfield 76, 3)) (hM : M.2.1 = RX10) (hn : pc + 3 = npc) (k' : Go SC M F npc l (.ref 9 :: st) s) : Go SC M F pc l (.ref 0 :: st) s := g_get (f := 8) hd hn ⟨by decide, rfl, rfl⟩ rfl inw_X10 (by decide) (by rw [hM]; exact tw_319) rfl (Or.inr ⟨_, rfl, rfl⟩) k'
theorem iv_Cg_263 {M : Mth} {F : Option Value → Sto → Prop} {pc npc : Nat} {l : List (Nat × Value)} {st : List Value} {s : Sto} {x1 : Int} {Q : Int → Sto → Prop} (hd : decode M.1 pc = .ok (.invokevirtual 263, 3)) (hM : M.2.1 = RX10) (hn : pc + 3 = npc) (hcat : (st.map (fun v => v.category)).sum ≤ 8) (hR : 2 + 1 ≤ M.2.2.2.2.frames ∧ 8 + (5 + 11) + 46 ≤ M.2.2.2.2.locals) (h : K_Le_countAt x1 s Q) (k' : ∀ r s1, Q r s1 → Go SC M F npc l (jV r :: st) s1) : Go SC M F pc l (iV x1 :: .ref 9 :: st) s := g_callV (k := 9) (as := [iV x1]) (st := st) hd hn rfl ⟨by decide, rfl⟩ rfl rfl (show okV M 263 RX4 yX4_countAt cX4_countAt 5 (some .long) 1 from ⟨⟨by rw [hM]; exact tw_822, tw_823, tw_824, tw_74, tw_825⟩, rfl, by decide, by decide, by decide +kernel⟩) rfl hcat ⟨rfl, rfl⟩ hR h (fun r s1 h => by obtain ⟨x, rfl, h2⟩ := h; exact k' x s1 h2)
theorem gf_Tr_39 {M : Mth} {F : Option Value → Sto → Prop} {pc npc : Nat} {l : List (Nat × Value)} {st : List Value} {s : Sto} (hd : decode M.1 pc = .ok (.getfield 39, 3)) (hM : M.2.1 = RX9) (hn : pc + 3 = npc) (k' : Go SC M F npc l (iV (s 1 1) :: st) s) : Go SC M F pc l (.ref 1 :: st) s := g_get (f := 1) hd hn ⟨by decide, rfl, rfl⟩ rfl inw_X2 (by decide) (by rw [hM]; exact tw_107) rfl (Or.inl ⟨rfl, rfl⟩) k'
theorem gf_Tr_68 {M : Mth} {F : Option Value → Sto → Prop} {pc npc : Nat} {l : List (Nat × Value)} {st : List Value} {s : Sto} (hd : decode M.1 pc = .ok (.getfield 68, 3)) (hM : M.2.1 = RX9) (hn : pc + 3 = npc) (k' : Go SC M F npc l (.ref 13 :: st) s) : Go SC M F pc l (.ref 1 :: st) s := g_get (f := 3) hd hn ⟨by decide, rfl, rfl⟩ rfl inw_X2 (by decide) (by rw [hM]; exact tw_119) rfl (Or.inr ⟨_, rfl, rfl⟩) k'
theorem iv_Tr_71 {M : Mth} {F : Option Value → Sto → Prop} {pc npc : Nat} {l : List (Nat × Value)} {st : List Value} {s : Sto} {x0 : Int} {x1 : Int} {Q : Int → Sto → Prop} (hd : decode M.1 pc = .ok (.invokestatic 71, 3)) (hM : M.2.1 = RX9) (hn : pc + 3 = npc) (hcat : (st.map (fun v => v.category)).sum ≤ 8) (hR : 0 + 1 ≤ M.2.2.2.2.frames ∧ 8 + (2 + 11) + 0 ≤ M.2.2.2.2.locals) (h : K_Tr_isIn x0 x1 s Q) (k' : ∀ r s1, Q r s1 → Go SC M F npc l (iV r :: st) s1) : Go SC M F pc l (iV x1 :: iV x0 :: st) s := g_callS (as := [iV x0, iV x1]) (st := st) hd hn rfl (show okS M 71 yX9_isIn cX9_isIn 2 (some .boolean) 2 from ⟨⟨by rw [hM]; exact tw_854, tw_855, tw_73, tw_856⟩, by decide, by decide, by decide +kernel⟩) rfl hcat ⟨rfl, rfl⟩ hR h (fun r s1 h => by obtain ⟨x, rfl, h2⟩ := h; exact k' x s1 h2)
theorem gf_Tr_75 {M : Mth} {F : Option Value → Sto → Prop} {pc npc : Nat} {l : List (Nat × Value)} {st : List Value} {s : Sto} (hd : decode M.1 pc = .ok (.getfield 75, 3)) (hM : M.2.1 = RX9) (hn : pc + 3 = npc) (k' : Go SC M F npc l (.ref 14 :: st) s) : Go SC M F pc l (.ref 1 :: st) s := g_get (f := 4) hd hn ⟨by decide, rfl, rfl⟩ rfl inw_X2 (by decide) (by rw [hM]; exact tw_124) rfl (Or.inr ⟨_, rfl, rfl⟩) k'
theorem gf_Tr_9 {M : Mth} {F : Option Value → Sto → Prop} {pc npc : Nat} {l : List (Nat × Value)} {st : List Value} {s : Sto} (hd : decode M.1 pc = .ok (.getfield 9, 3)) (hM : M.2.1 = RX9) (hn : pc + 3 = npc) (k' : Go SC M F npc l (.ref 58 :: st) s) : Go SC M F pc l (.ref 8 :: st) s := g_get (f := 2) hd hn ⟨by decide, rfl, rfl⟩ rfl inw_X9 (by decide) (by rw [hM]; exact tw_267) rfl (Or.inr ⟨_, rfl, rfl⟩) k'
theorem iv_Tr_47 {M : Mth} {F : Option Value → Sto → Prop} {pc npc : Nat} {l : List (Nat × Value)} {st : List Value} {s : Sto} {k0 : Nat} {Q : Sto → Prop} (hd : decode M.1 pc = .ok (.invokestatic 47, 3)) (hM : M.2.1 = RX9) (hn : pc + 3 = npc) (hcat : (st.map (fun v => v.category)).sum ≤ 8) (hR : 0 + 1 ≤ M.2.2.2.2.frames ∧ 8 + (2 + 11) + 0 ≤ M.2.2.2.2.locals) (h : K_Cg_clearChips k0 s Q) (k' : ∀ s1, Q s1 → Go SC M F npc l st s1) : Go SC M F pc l (.ref k0 :: st) s := g_callN (as := [.ref k0]) (st := st) hd hn rfl (show okN M 47 yX10_clearChips cX10_clearChips 2 none 1 from ⟨⟨by rw [hM]; decide +kernel, tw_357, tw_65, tw_358⟩, by decide, by decide, by decide +kernel⟩) rfl hcat ⟨rfl, rfl⟩ hR h (fun r s1 h => by obtain ⟨rfl, h2⟩ := h; exact k' s1 h2)
theorem gf_Tr_51 {M : Mth} {F : Option Value → Sto → Prop} {pc npc : Nat} {l : List (Nat × Value)} {st : List Value} {s : Sto} (hd : decode M.1 pc = .ok (.getfield 51, 3)) (hM : M.2.1 = RX9) (hn : pc + 3 = npc) (k' : Go SC M F npc l (iV (s 1 2) :: st) s) : Go SC M F pc l (.ref 1 :: st) s := g_get (f := 2) hd hn ⟨by decide, rfl, rfl⟩ rfl inw_X2 (by decide) (by rw [hM]; exact tw_111) rfl (Or.inl ⟨rfl, rfl⟩) k'
theorem iv_Tr_54 {M : Mth} {F : Option Value → Sto → Prop} {pc npc : Nat} {l : List (Nat × Value)} {st : List Value} {s : Sto} {x1 : Int} {x2 : Int} {Q : Int → Sto → Prop} (hd : decode M.1 pc = .ok (.invokevirtual 54, 3)) (hM : M.2.1 = RX9) (hn : pc + 3 = npc) (hcat : (st.map (fun v => v.category)).sum ≤ 8) (hR : 1 + 1 ≤ M.2.2.2.2.frames ∧ 8 + (5 + 11) + 21 ≤ M.2.2.2.2.locals) (h : K_Tr_lowestBorderEdge x1 x2 s Q) (k' : ∀ r s1, Q r s1 → Go SC M F npc l (iV r :: st) s1) : Go SC M F pc l (iV x2 :: iV x1 :: .ref 8 :: st) s := g_callV (k := 8) (as := [iV x1, iV x2]) (st := st) hd hn rfl ⟨by decide, rfl⟩ rfl rfl (show okV M 54 RX9 yX9_lowestBorderEdge cX9_lowestBorderEdge 5 (some .int) 2 from ⟨⟨by rw [hM]; exact tw_850, tw_852, tw_29, tw_73, tw_853⟩, rfl, by decide, by decide, by decide +kernel⟩) rfl hcat ⟨rfl, rfl⟩ hR h (fun r s1 h => by obtain ⟨x, rfl, h2⟩ := h; exact k' x s1 h2)
theorem iv_Tr_58 {M : Mth} {F : Option Value → Sto → Prop} {pc npc : Nat} {l : List (Nat × Value)} {st : List Value} {s : Sto} {x1 : Int} {Q : Int → Sto → Prop} (hd : decode M.1 pc = .ok (.invokevirtual 58, 3)) (hM : M.2.1 = RX9) (hn : pc + 3 = npc) (hcat : (st.map (fun v => v.category)).sum ≤ 8) (hR : 0 + 1 ≤ M.2.2.2.2.frames ∧ 8 + (2 + 11) + 0 ≤ M.2.2.2.2.locals) (h : K_Gr_hasEdge x1 s Q) (k' : ∀ r s1, Q r s1 → Go SC M F npc l (iV r :: st) s1) : Go SC M F pc l (iV x1 :: .ref 1 :: st) s := g_callV (k := 1) (as := [iV x1]) (st := st) hd hn rfl ⟨by decide, rfl⟩ rfl rfl (show okV M 58 RX2 yX2_hasEdge cX2_hasEdge 2 (some .boolean) 1 from ⟨⟨by rw [hM]; exact tw_857, tw_381, tw_382, tw_66, tw_383⟩, rfl, by decide, by decide, by decide +kernel⟩) rfl hcat ⟨rfl, rfl⟩ hR h (fun r s1 h => by obtain ⟨x, rfl, h2⟩ := h; exact k' x s1 h2)
theorem iv_Tr_62 {M : Mth} {F : Option Value → Sto → Prop} {pc npc : Nat} {l : List (Nat × Value)} {st : List Value} {s : Sto} {x1 : Int} {x2 : Int} {Q : Int → Sto → Prop} (hd : decode M.1 pc = .ok (.invokevirtual 62, 3)) (hM : M.2.1 = RX9) (hn : pc + 3 = npc) (hcat : (st.map (fun v => v.category)).sum ≤ 8) (hR : 1 + 1 ≤ M.2.2.2.2.frames ∧ 8 + (3 + 11) + 21 ≤ M.2.2.2.2.locals) (h : K_Tr_unmarkedEnd x1 x2 s Q) (k' : ∀ r s1, Q r s1 → Go SC M F npc l (iV r :: st) s1) : Go SC M F pc l (iV x2 :: iV x1 :: .ref 8 :: st) s := g_callV (k := 8) (as := [iV x1, iV x2]) (st := st) hd hn rfl ⟨by decide, rfl⟩ rfl rfl (show okV M 62 RX9 yX9_unmarkedEnd cX9_unmarkedEnd 3 (some .int) 2 from ⟨⟨by rw [hM]; exact tw_858, tw_860, tw_30, tw_73, tw_861⟩, rfl, by decide, by decide, by decide +kernel⟩) rfl hcat ⟨rfl, rfl⟩ hR h (fun r s1 h => by obtain ⟨x, rfl, h2⟩ := h; exact k' x s1 h2)
theorem iv_Tr_65 {M : Mth} {F : Option Value → Sto → Prop} {pc npc : Nat} {l : List (Nat × Value)} {st : List Value} {s : Sto} {x1 : Int} {Q : Int → Sto → Prop} (hd : decode M.1 pc = .ok (.invokevirtual 65, 3)) (hM : M.2.1 = RX9) (hn : pc + 3 = npc) (hcat : (st.map (fun v => v.category)).sum ≤ 8) (hR : 1 + 1 ≤ M.2.2.2.2.frames ∧ 8 + (2 + 11) + 21 ≤ M.2.2.2.2.locals) (h : K_Gr_degreeOf x1 s Q) (k' : ∀ r s1, Q r s1 → Go SC M F npc l (iV r :: st) s1) : Go SC M F pc l (iV x1 :: .ref 1 :: st) s := g_callV (k := 1) (as := [iV x1]) (st := st) hd hn rfl ⟨by decide, rfl⟩ rfl rfl (show okV M 65 RX2 yX2_degreeOf cX2_degreeOf 2 (some .int) 1 from ⟨⟨by rw [hM]; exact tw_862, tw_524, tw_525, tw_66, tw_526⟩, rfl, by decide, by decide, by decide +kernel⟩) rfl hcat ⟨rfl, rfl⟩ hR h (fun r s1 h => by obtain ⟨x, rfl, h2⟩ := h; exact k' x s1 h2)
theorem iv_Cg_267 {M : Mth} {F : Option Value → Sto → Prop} {pc npc : Nat} {l : List (Nat × Value)} {st : List Value} {s : Sto} {k1 : Nat} {Q : Int → Sto → Prop} (hd : decode M.1 pc = .ok (.invokevirtual 267, 3)) (hM : M.2.1 = RX10) (hn : pc + 3 = npc) (hcat : (st.map (fun v => v.category)).sum ≤ 8) (hR : 2 + 1 ≤ M.2.2.2.2.frames ∧ 8 + (8 + 11) + 45 ≤ M.2.2.2.2.locals) (h : K_Tr_treeOf k1 s Q) (k' : ∀ r s1, Q r s1 → Go SC M F npc l (iV r :: st) s1) : Go SC M F pc l (.ref k1 :: .ref 8 :: st) s := g_callV (k := 8) (as := [.ref k1]) (st := st) hd hn rfl ⟨by decide, rfl⟩ rfl rfl (show okV M 267 RX9 yX9_treeOf cX9_treeOf 8 (some .int) 1 from ⟨⟨by rw [hM]; exact tw_845, tw_846, tw_847, tw_73, tw_848⟩, rfl, by decide, by decide, by decide +kernel⟩) rfl hcat ⟨rfl, rfl⟩ hR h (fun r s1 h => by obtain ⟨x, rfl, h2⟩ := h; exact k' x s1 h2)
theorem iv_Gr_61 {M : Mth} {F : Option Value → Sto → Prop} {pc npc : Nat} {l : List (Nat × Value)} {st : List Value} {s : Sto} {x0 : Int} {Q : Int → Sto → Prop} (hd : decode M.1 pc = .ok (.invokestatic 61, 3)) (hM : M.2.1 = RX2) (hn : pc + 3 = npc) (hcat : (st.map (fun v => v.category)).sum ≤ 8) (hR : 0 + 1 ≤ M.2.2.2.2.frames ∧ 8 + (1 + 11) + 0 ≤ M.2.2.2.2.locals) (h : K_JI_bitCount x0 s Q) (k' : ∀ r s1, Q r s1 → Go SC M F npc l (iV r :: st) s1) : Go SC M F pc l (iV x0 :: st) s := g_callS (as := [iV x0]) (st := st) hd hn rfl (show okS M 61 yJ6_bitCount_0f7a4 cJ6_bitCount_0f7a4 1 (some .int) 1 from ⟨⟨by rw [hM]; exact tw_871, tw_872, tw_82, tw_873⟩, by decide, by decide, by decide +kernel⟩) rfl hcat ⟨rfl, rfl⟩ hR h (fun r s1 h => by obtain ⟨x, rfl, h2⟩ := h; exact k' x s1 h2)
theorem iv_Cg_270 {M : Mth} {F : Option Value → Sto → Prop} {pc npc : Nat} {l : List (Nat × Value)} {st : List Value} {s : Sto} {x1 : Int} {Q : Int → Sto → Prop} (hd : decode M.1 pc = .ok (.invokevirtual 270, 3)) (hM : M.2.1 = RX10) (hn : pc + 3 = npc) (hcat : (st.map (fun v => v.category)).sum ≤ 8) (hR : 2 + 1 ≤ M.2.2.2.2.frames ∧ 8 + (2 + 11) + 48 ≤ M.2.2.2.2.locals) (h : K_Gr_isSpanningTree x1 s Q) (k' : ∀ r s1, Q r s1 → Go SC M F npc l (iV r :: st) s1) : Go SC M F pc l (iV x1 :: .ref 1 :: st) s := g_callV (k := 1) (as := [iV x1]) (st := st) hd hn rfl ⟨by decide, rfl⟩ rfl rfl (show okV M 270 RX2 yX2_isSpanningTree cX2_isSpanningTree 2 (some .boolean) 1 from ⟨⟨by rw [hM]; exact tw_867, tw_868, tw_869, tw_66, tw_870⟩, rfl, by decide, by decide, by decide +kernel⟩) rfl hcat ⟨rfl, rfl⟩ hR h (fun r s1 h => by obtain ⟨x, rfl, h2⟩ := h; exact k' x s1 h2)
theorem iv_Cg_273 {M : Mth} {F : Option Value → Sto → Prop} {pc npc : Nat} {l : List (Nat × Value)} {st : List Value} {s : Sto} {x1 : Int} {k2 : Nat} {Q : Sto → Prop} (hd : decode M.1 pc = .ok (.invokevirtual 273, 3)) (hM : M.2.1 = RX10) (hn : pc + 3 = npc) (hcat : (st.map (fun v => v.category)).sum ≤ 8) (hR : 2 + 1 ≤ M.2.2.2.2.frames ∧ 8 + (8 + 11) + 45 ≤ M.2.2.2.2.locals) (h : K_Tr_toStateOf x1 k2 s Q) (k' : ∀ s1, Q s1 → Go SC M F npc l st s1) : Go SC M F pc l (.ref k2 :: iV x1 :: .ref 8 :: st) s := g_callV (k := 8) (as := [iV x1, .ref k2]) (st := st) hd hn rfl ⟨by decide, rfl⟩ rfl rfl (show okV M 273 RX9 yX9_toStateOf cX9_toStateOf 8 none 2 from ⟨⟨by rw [hM]; exact tw_877, tw_878, tw_879, tw_73, tw_880⟩, rfl, by decide, by decide, by decide +kernel⟩) rfl hcat ⟨rfl, rfl⟩ hR h (fun r s1 h => by obtain ⟨rfl, h2⟩ := h; exact k' s1 h2)
theorem iv_Tr_43 {M : Mth} {F : Option Value → Sto → Prop} {pc npc : Nat} {l : List (Nat × Value)} {st : List Value} {s : Sto} {x1 : Int} {x2 : Int} {Q : Int → Sto → Prop} (hd : decode M.1 pc = .ok (.invokevirtual 43, 3)) (hM : M.2.1 = RX9) (hn : pc + 3 = npc) (hcat : (st.map (fun v => v.category)).sum ≤ 8) (hR : 4 + 1 ≤ M.2.2.2.2.frames ∧ 8 + (3 + 11) + 88 ≤ M.2.2.2.2.locals) (h : K_Tr_count x1 x2 s Q) (k' : ∀ r s1, Q r s1 → Go SC M F npc l (jV r :: st) s1) : Go SC M F pc l (iV x2 :: iV x1 :: .ref 8 :: st) s := g_callV (k := 8) (as := [iV x1, iV x2]) (st := st) hd hn rfl ⟨by decide, rfl⟩ rfl rfl (show okV M 43 RX9 yX9_count cX9_count 3 (some .long) 2 from ⟨⟨by rw [hM]; exact tw_889, tw_715, tw_716, tw_73, tw_717⟩, rfl, by decide, by decide, by decide +kernel⟩) rfl hcat ⟨rfl, rfl⟩ hR h (fun r s1 h => by obtain ⟨x, rfl, h2⟩ := h; exact k' x s1 h2)
theorem iv_Cg_276 {M : Mth} {F : Option Value → Sto → Prop} {pc npc : Nat} {l : List (Nat × Value)} {st : List Value} {s : Sto} {x1 : Int} {Q : Int → Sto → Prop} (hd : decode M.1 pc = .ok (.invokevirtual 276, 3)) (hM : M.2.1 = RX10) (hn : pc + 3 = npc) (hcat : (st.map (fun v => v.category)).sum ≤ 8) (hR : 5 + 1 ≤ M.2.2.2.2.frames ∧ 8 + (10 + 11) + 110 ≤ M.2.2.2.2.locals) (h : K_Tr_treeNumbered x1 s Q) (k' : ∀ r s1, Q r s1 → Go SC M F npc l (iV r :: st) s1) : Go SC M F pc l (iV x1 :: .ref 8 :: st) s := g_callV (k := 8) (as := [iV x1]) (st := st) hd hn rfl ⟨by decide, rfl⟩ rfl rfl (show okV M 276 RX9 yX9_treeNumbered cX9_treeNumbered 10 (some .int) 1 from ⟨⟨by rw [hM]; exact tw_885, tw_886, tw_887, tw_73, tw_888⟩, rfl, by decide, by decide, by decide +kernel⟩) rfl hcat ⟨rfl, rfl⟩ hR h (fun r s1 h => by obtain ⟨x, rfl, h2⟩ := h; exact k' x s1 h2)
theorem gf_Mo_16 {M : Mth} {F : Option Value → Sto → Prop} {pc npc : Nat} {l : List (Nat × Value)} {st : List Value} {s : Sto} (hd : decode M.1 pc = .ok (.getfield 16, 3)) (hM : M.2.1 = RX11) (hn : pc + 3 = npc) (k' : Go SM M F npc l (.ref 3 :: st) s) : Go SM M F pc l (.ref 0 :: st) s := g_get (f := 5) hd hn ⟨by decide, rfl, rfl⟩ rfl inw_X11 (by decide) (by rw [hM]; exact tw_913) rfl (Or.inr ⟨_, rfl, rfl⟩) k'
theorem gf_Mo_19 {M : Mth} {F : Option Value → Sto → Prop} {pc npc : Nat} {l : List (Nat × Value)} {st : List Value} {s : Sto} (hd : decode M.1 pc = .ok (.getfield 19, 3)) (hM : M.2.1 = RX11) (hn : pc + 3 = npc) (k' : Go SM M F npc l (.ref 4 :: st) s) : Go SM M F pc l (.ref 0 :: st) s := g_get (f := 6) hd hn ⟨by decide, rfl, rfl⟩ rfl inw_X11 (by decide) (by rw [hM]; exact tw_914) rfl (Or.inr ⟨_, rfl, rfl⟩) k'
theorem gf_Mo_81 {M : Mth} {F : Option Value → Sto → Prop} {pc npc : Nat} {l : List (Nat × Value)} {st : List Value} {s : Sto} (hd : decode M.1 pc = .ok (.getfield 81, 3)) (hM : M.2.1 = RX11) (hn : pc + 3 = npc) (k' : Go SM M F npc l (iV (s 0 1) :: st) s) : Go SM M F pc l (.ref 0 :: st) s := g_get (f := 1) hd hn ⟨by decide, rfl, rfl⟩ rfl inw_X11 (by decide) (by rw [hM]; exact tw_909) rfl (Or.inl ⟨rfl, rfl⟩) k'
theorem pf_Mo_90 {M : Mth} {F : Option Value → Sto → Prop} {pc npc : Nat} {l : List (Nat × Value)} {st : List Value} {s : Sto} {x : Int} (hd : decode M.1 pc = .ok (.putfield 90, 3)) (hM : M.2.1 = RX11) (hn : pc + 3 = npc) (k' : Go SM M F npc l st (up s 0 11 x)) : Go SM M F pc l (iV x :: .ref 0 :: st) s := g_put (f := 11) tyX11 hd hn ⟨by decide, rfl, rfl⟩ rfl inw_X11 tyX11_ok nmX11 (by decide) (by rw [hM]; exact tw_919) rfl rfl rfl ⟨rfl, rfl⟩ k'
theorem gf_Mo_7 {M : Mth} {F : Option Value → Sto → Prop} {pc npc : Nat} {l : List (Nat × Value)} {st : List Value} {s : Sto} (hd : decode M.1 pc = .ok (.getfield 7, 3)) (hM : M.2.1 = RX11) (hn : pc + 3 = npc) (k' : Go SM M F npc l (.ref 1 :: st) s) : Go SM M F pc l (.ref 0 :: st) s := g_get (f := 3) hd hn ⟨by decide, rfl, rfl⟩ rfl inw_X11 (by decide) (by rw [hM]; exact tw_911) rfl (Or.inr ⟨_, rfl, rfl⟩) k'
theorem gf_Mo_13 {M : Mth} {F : Option Value → Sto → Prop} {pc npc : Nat} {l : List (Nat × Value)} {st : List Value} {s : Sto} (hd : decode M.1 pc = .ok (.getfield 13, 3)) (hM : M.2.1 = RX11) (hn : pc + 3 = npc) (k' : Go SM M F npc l (.ref 2 :: st) s) : Go SM M F pc l (.ref 0 :: st) s := g_get (f := 4) hd hn ⟨by decide, rfl, rfl⟩ rfl inw_X11 (by decide) (by rw [hM]; exact tw_912) rfl (Or.inr ⟨_, rfl, rfl⟩) k'
theorem pf_Mo_93 {M : Mth} {F : Option Value → Sto → Prop} {pc npc : Nat} {l : List (Nat × Value)} {st : List Value} {s : Sto} {x : Int} (hd : decode M.1 pc = .ok (.putfield 93, 3)) (hM : M.2.1 = RX11) (hn : pc + 3 = npc) (hx : narrow (tyX11 21) (iV x) = iV x ∧ fits (tyX11 21) (iV x) = true) (k' : Go SM M F npc l st (up s 0 21 x)) : Go SM M F pc l (iV x :: .ref 0 :: st) s := g_put (f := 21) tyX11 hd hn ⟨by decide, rfl, rfl⟩ rfl inw_X11 tyX11_ok nmX11 (by decide) (by rw [hM]; exact tw_929) rfl rfl rfl hx k'
theorem gf_Mo_35 {M : Mth} {F : Option Value → Sto → Prop} {pc npc : Nat} {l : List (Nat × Value)} {st : List Value} {s : Sto} (hd : decode M.1 pc = .ok (.getfield 35, 3)) (hM : M.2.1 = RX11) (hn : pc + 3 = npc) (k' : Go SM M F npc l (.ref 9 :: st) s) : Go SM M F pc l (.ref 0 :: st) s := g_get (f := 13) hd hn ⟨by decide, rfl, rfl⟩ rfl inw_X11 (by decide) (by rw [hM]; exact tw_921) rfl (Or.inr ⟨_, rfl, rfl⟩) k'
theorem pf_Mo_77 {M : Mth} {F : Option Value → Sto → Prop} {pc npc : Nat} {l : List (Nat × Value)} {st : List Value} {s : Sto} {x : Int} (hd : decode M.1 pc = .ok (.putfield 77, 3)) (hM : M.2.1 = RX11) (hn : pc + 3 = npc) (k' : Go SM M F npc l st (up s 0 0 x)) : Go SM M F pc l (iV x :: .ref 0 :: st) s := g_put (f := 0) tyX11 hd hn ⟨by decide, rfl, rfl⟩ rfl inw_X11 tyX11_ok nmX11 (by decide) (by rw [hM]; exact tw_908) rfl rfl rfl ⟨rfl, rfl⟩ k'
theorem pf_Mo_81 {M : Mth} {F : Option Value → Sto → Prop} {pc npc : Nat} {l : List (Nat × Value)} {st : List Value} {s : Sto} {x : Int} (hd : decode M.1 pc = .ok (.putfield 81, 3)) (hM : M.2.1 = RX11) (hn : pc + 3 = npc) (k' : Go SM M F npc l st (up s 0 1 x)) : Go SM M F pc l (iV x :: .ref 0 :: st) s := g_put (f := 1) tyX11 hd hn ⟨by decide, rfl, rfl⟩ rfl inw_X11 tyX11_ok nmX11 (by decide) (by rw [hM]; exact tw_909) rfl rfl rfl ⟨rfl, rfl⟩ k'
theorem pf_Mo_84 {M : Mth} {F : Option Value → Sto → Prop} {pc npc : Nat} {l : List (Nat × Value)} {st : List Value} {s : Sto} {x : Int} (hd : decode M.1 pc = .ok (.putfield 84, 3)) (hM : M.2.1 = RX11) (hn : pc + 3 = npc) (k' : Go SM M F npc l st (up s 0 2 x)) : Go SM M F pc l (iV x :: .ref 0 :: st) s := g_put (f := 2) tyX11 hd hn ⟨by decide, rfl, rfl⟩ rfl inw_X11 tyX11_ok nmX11 (by decide) (by rw [hM]; exact tw_910) rfl rfl rfl ⟨rfl, rfl⟩ k'
theorem iv_Mo_87 {M : Mth} {F : Option Value → Sto → Prop} {pc npc : Nat} {l : List (Nat × Value)} {st : List Value} {s : Sto} {Q : Sto → Prop} (hd : decode M.1 pc = .ok (.invokevirtual 87, 3)) (hM : M.2.1 = RX11) (hn : pc + 3 = npc) (hcat : (st.map (fun v => v.category)).sum ≤ 8) (hR : 0 + 1 ≤ M.2.2.2.2.frames ∧ 8 + (2 + 11) + 0 ≤ M.2.2.2.2.locals) (h : K_Mo_changed s Q) (k' : ∀ s1, Q s1 → Go SM M F npc l st s1) : Go SM M F pc l (.ref 0 :: st) s := g_callV (k := 0) (as := []) (st := st) hd hn rfl ⟨by decide, rfl⟩ rfl rfl (show okV M 87 RX11 yX11_changed cX11_changed 2 none 0 from ⟨⟨by rw [hM]; exact tw_900, tw_902, tw_32, tw_75, tw_903⟩, rfl, by decide, by decide, by decide +kernel⟩) rfl hcat ⟨rfl, rfl⟩ hR h (fun r s1 h => by obtain ⟨rfl, h2⟩ := h; exact k' s1 h2)
theorem gf_Mo_22 {M : Mth} {F : Option Value → Sto → Prop} {pc npc : Nat} {l : List (Nat × Value)} {st : List Value} {s : Sto} (hd : decode M.1 pc = .ok (.getfield 22, 3)) (hM : M.2.1 = RX11) (hn : pc + 3 = npc) (k' : Go SM M F npc l (.ref 5 :: st) s) : Go SM M F pc l (.ref 0 :: st) s := g_get (f := 7) hd hn ⟨by decide, rfl, rfl⟩ rfl inw_X11 (by decide) (by rw [hM]; exact tw_915) rfl (Or.inr ⟨_, rfl, rfl⟩) k'
theorem iv_Mo_97 {M : Mth} {F : Option Value → Sto → Prop} {pc npc : Nat} {l : List (Nat × Value)} {st : List Value} {s : Sto} {x0 : Int} {x1 : Int} {x2 : Int} {Q : Int → Sto → Prop} (hd : decode M.1 pc = .ok (.invokestatic 97, 3)) (hM : M.2.1 = RX11) (hn : pc + 3 = npc) (hcat : (st.map (fun v => v.category)).sum ≤ 8) (hR : 0 + 1 ≤ M.2.2.2.2.frames ∧ 8 + (3 + 11) + 0 ≤ M.2.2.2.2.locals) (h : K_Mo_in x0 x1 x2 s Q) (k' : ∀ r s1, Q r s1 → Go SM M F npc l (iV r :: st) s1) : Go SM M F pc l (iV x2 :: iV x1 :: iV x0 :: st) s := g_callS (as := [iV x0, iV x1, iV x2]) (st := st) hd hn rfl (show okS M 97 yX11_in cX11_in 3 (some .boolean) 3 from ⟨⟨by rw [hM]; exact tw_985, tw_986, tw_75, tw_987⟩, by decide, by decide, by decide +kernel⟩) rfl hcat ⟨rfl, rfl⟩ hR h (fun r s1 h => by obtain ⟨x, rfl, h2⟩ := h; exact k' x s1 h2)
theorem gf_Mo_77 {M : Mth} {F : Option Value → Sto → Prop} {pc npc : Nat} {l : List (Nat × Value)} {st : List Value} {s : Sto} (hd : decode M.1 pc = .ok (.getfield 77, 3)) (hM : M.2.1 = RX11) (hn : pc + 3 = npc) (k' : Go SM M F npc l (iV (s 0 0) :: st) s) : Go SM M F pc l (.ref 0 :: st) s := g_get (f := 0) hd hn ⟨by decide, rfl, rfl⟩ rfl inw_X11 (by decide) (by rw [hM]; exact tw_908) rfl (Or.inl ⟨rfl, rfl⟩) k'
theorem iv_Mo_67 {M : Mth} {F : Option Value → Sto → Prop} {pc npc : Nat} {l : List (Nat × Value)} {st : List Value} {s : Sto} {x1 : Int} {Q : Sto → Prop} (hd : decode M.1 pc = .ok (.invokevirtual 67, 3)) (hM : M.2.1 = RX11) (hn : pc + 3 = npc) (hcat : (st.map (fun v => v.category)).sum ≤ 8) (hR : 1 + 1 ≤ M.2.2.2.2.frames ∧ 8 + (3 + 11) + 21 ≤ M.2.2.2.2.locals) (h : K_Mo_begin x1 s Q) (k' : ∀ s1, Q s1 → Go SM M F npc l st s1) : Go SM M F pc l (iV x1 :: .ref 0 :: st) s := g_callV (k := 0) (as := [iV x1]) (st := st) hd hn rfl ⟨by decide, rfl⟩ rfl rfl (show okV M 67 RX11 yX11_begin cX11_begin 3 none 1 from ⟨⟨by rw [hM]; exact tw_896, tw_898, tw_31, tw_75, tw_899⟩, rfl, by decide, by decide, by decide +kernel⟩) rfl hcat ⟨rfl, rfl⟩ hR h (fun r s1 h => by obtain ⟨rfl, h2⟩ := h; exact k' s1 h2)
theorem iv_Mo_101 {M : Mth} {F : Option Value → Sto → Prop} {pc npc : Nat} {l : List (Nat × Value)} {st : List Value} {s : Sto} {x1 : Int} {Q : Int → Sto → Prop} (hd : decode M.1 pc = .ok (.invokevirtual 101, 3)) (hM : M.2.1 = RX11) (hn : pc + 3 = npc) (hcat : (st.map (fun v => v.category)).sum ≤ 8) (hR : 1 + 1 ≤ M.2.2.2.2.frames ∧ 8 + (2 + 11) + 22 ≤ M.2.2.2.2.locals) (h : K_Mo_isNode x1 s Q) (k' : ∀ r s1, Q r s1 → Go SM M F npc l (iV r :: st) s1) : Go SM M F pc l (iV x1 :: .ref 0 :: st) s := g_callV (k := 0) (as := [iV x1]) (st := st) hd hn rfl ⟨by decide, rfl⟩ rfl rfl (show okV M 101 RX11 yX11_isNode cX11_isNode 2 (some .boolean) 1 from ⟨⟨by rw [hM]; exact tw_992, tw_994, tw_34, tw_75, tw_995⟩, rfl, by decide, by decide, by decide +kernel⟩) rfl hcat ⟨rfl, rfl⟩ hR h (fun r s1 h => by obtain ⟨x, rfl, h2⟩ := h; exact k' x s1 h2)
theorem iv_Mo_71 {M : Mth} {F : Option Value → Sto → Prop} {pc npc : Nat} {l : List (Nat × Value)} {st : List Value} {s : Sto} {x1 : Int} {x2 : Int} {Q : Sto → Prop} (hd : decode M.1 pc = .ok (.invokevirtual 71, 3)) (hM : M.2.1 = RX11) (hn : pc + 3 = npc) (hcat : (st.map (fun v => v.category)).sum ≤ 8) (hR : 1 + 1 ≤ M.2.2.2.2.frames ∧ 8 + (3 + 11) + 21 ≤ M.2.2.2.2.locals) (h : K_Mo_join x1 x2 s Q) (k' : ∀ s1, Q s1 → Go SM M F npc l st s1) : Go SM M F pc l (iV x2 :: iV x1 :: .ref 0 :: st) s := g_callV (k := 0) (as := [iV x1, iV x2]) (st := st) hd hn rfl ⟨by decide, rfl⟩ rfl rfl (show okV M 71 RX11 yX11_join cX11_join 3 none 2 from ⟨⟨by rw [hM]; exact tw_904, tw_906, tw_33, tw_75, tw_907⟩, rfl, by decide, by decide, by decide +kernel⟩) rfl hcat ⟨rfl, rfl⟩ hR h (fun r s1 h => by obtain ⟨rfl, h2⟩ := h; exact k' s1 h2)
theorem gf_Mo_84 {M : Mth} {F : Option Value → Sto → Prop} {pc npc : Nat} {l : List (Nat × Value)} {st : List Value} {s : Sto} (hd : decode M.1 pc = .ok (.getfield 84, 3)) (hM : M.2.1 = RX11) (hn : pc + 3 = npc) (k' : Go SM M F npc l (iV (s 0 2) :: st) s) : Go SM M F pc l (.ref 0 :: st) s := g_get (f := 2) hd hn ⟨by decide, rfl, rfl⟩ rfl inw_X11 (by decide) (by rw [hM]; exact tw_910) rfl (Or.inl ⟨rfl, rfl⟩) k'
theorem gf_Mo_105 {M : Mth} {F : Option Value → Sto → Prop} {pc npc : Nat} {l : List (Nat × Value)} {st : List Value} {s : Sto} (hd : decode M.1 pc = .ok (.getfield 105, 3)) (hM : M.2.1 = RX11) (hn : pc + 3 = npc) (k' : Go SM M F npc l (iV (s 0 8) :: st) s) : Go SM M F pc l (.ref 0 :: st) s := g_get (f := 8) hd hn ⟨by decide, rfl, rfl⟩ rfl inw_X11 (by decide) (by rw [hM]; exact tw_916) rfl (Or.inl ⟨rfl, rfl⟩) k'
theorem gf_Mo_25 {M : Mth} {F : Option Value → Sto → Prop} {pc npc : Nat} {l : List (Nat × Value)} {st : List Value} {s : Sto} (hd : decode M.1 pc = .ok (.getfield 25, 3)) (hM : M.2.1 = RX11) (hn : pc + 3 = npc) (k' : Go SM M F npc l (.ref 6 :: st) s) : Go SM M F pc l (.ref 0 :: st) s := g_get (f := 9) hd hn ⟨by decide, rfl, rfl⟩ rfl inw_X11 (by decide) (by rw [hM]; exact tw_917) rfl (Or.inr ⟨_, rfl, rfl⟩) k'
theorem pf_Mo_105 {M : Mth} {F : Option Value → Sto → Prop} {pc npc : Nat} {l : List (Nat × Value)} {st : List Value} {s : Sto} {x : Int} (hd : decode M.1 pc = .ok (.putfield 105, 3)) (hM : M.2.1 = RX11) (hn : pc + 3 = npc) (k' : Go SM M F npc l st (up s 0 8 x)) : Go SM M F pc l (iV x :: .ref 0 :: st) s := g_put (f := 8) tyX11 hd hn ⟨by decide, rfl, rfl⟩ rfl inw_X11 tyX11_ok nmX11 (by decide) (by rw [hM]; exact tw_916) rfl rfl rfl ⟨rfl, rfl⟩ k'
theorem iv_Mo_108 {M : Mth} {F : Option Value → Sto → Prop} {pc npc : Nat} {l : List (Nat × Value)} {st : List Value} {s : Sto} {x1 : Int} {x2 : Int} {Q : Int → Sto → Prop} (hd : decode M.1 pc = .ok (.invokevirtual 108, 3)) (hM : M.2.1 = RX11) (hn : pc + 3 = npc) (hcat : (st.map (fun v => v.category)).sum ≤ 8) (hR : 0 + 1 ≤ M.2.2.2.2.frames ∧ 8 + (3 + 11) + 0 ≤ M.2.2.2.2.locals) (h : K_Mo_isAt x1 x2 s Q) (k' : ∀ r s1, Q r s1 → Go SM M F npc l (iV r :: st) s1) : Go SM M F pc l (iV x2 :: iV x1 :: .ref 0 :: st) s := g_callV (k := 0) (as := [iV x1, iV x2]) (st := st) hd hn rfl ⟨by decide, rfl⟩ rfl rfl (show okV M 108 RX11 yX11_isAt cX11_isAt 3 (some .boolean) 2 from ⟨⟨by rw [hM]; exact tw_1024, tw_1026, tw_37, tw_75, tw_1027⟩, rfl, by decide, by decide, by decide +kernel⟩) rfl hcat ⟨rfl, rfl⟩ hR h (fun r s1 h => by obtain ⟨x, rfl, h2⟩ := h; exact k' x s1 h2)
theorem iv_Mo_112 {M : Mth} {F : Option Value → Sto → Prop} {pc npc : Nat} {l : List (Nat × Value)} {st : List Value} {s : Sto} {x1 : Int} {x2 : Int} {x3 : Int} {x4 : Int} {Q : Int → Sto → Prop} (hd : decode M.1 pc = .ok (.invokevirtual 112, 3)) (hM : M.2.1 = RX11) (hn : pc + 3 = npc) (hcat : (st.map (fun v => v.category)).sum ≤ 8) (hR : 1 + 1 ≤ M.2.2.2.2.frames ∧ 8 + (5 + 11) + 22 ≤ M.2.2.2.2.locals) (h : K_Mo_begins x1 x2 x3 x4 s Q) (k' : ∀ r s1, Q r s1 → Go SM M F npc l (iV r :: st) s1) : Go SM M F pc l (iV x4 :: iV x3 :: iV x2 :: iV x1 :: .ref 0 :: st) s := g_callV (k := 0) (as := [iV x1, iV x2, iV x3, iV x4]) (st := st) hd hn rfl ⟨by decide, rfl⟩ rfl rfl (show okV M 112 RX11 yX11_begins cX11_begins 5 (some .boolean) 4 from ⟨⟨by rw [hM]; exact tw_1020, tw_1022, tw_36, tw_75, tw_1023⟩, rfl, by decide, by decide, by decide +kernel⟩) rfl hcat ⟨rfl, rfl⟩ hR h (fun r s1 h => by obtain ⟨x, rfl, h2⟩ := h; exact k' x s1 h2)
theorem iv_Mo_116 {M : Mth} {F : Option Value → Sto → Prop} {pc npc : Nat} {l : List (Nat × Value)} {st : List Value} {s : Sto} {x1 : Int} {Q : Int → Sto → Prop} (hd : decode M.1 pc = .ok (.invokevirtual 116, 3)) (hM : M.2.1 = RX11) (hn : pc + 3 = npc) (hcat : (st.map (fun v => v.category)).sum ≤ 8) (hR : 2 + 1 ≤ M.2.2.2.2.frames ∧ 8 + (5 + 11) + 46 ≤ M.2.2.2.2.locals) (h : K_Mo_isNamed x1 s Q) (k' : ∀ r s1, Q r s1 → Go SM M F npc l (iV r :: st) s1) : Go SM M F pc l (iV x1 :: .ref 0 :: st) s := g_callV (k := 0) (as := [iV x1]) (st := st) hd hn rfl ⟨by decide, rfl⟩ rfl rfl (show okV M 116 RX11 yX11_isNamed cX11_isNamed 5 (some .boolean) 1 from ⟨⟨by rw [hM]; exact tw_1016, tw_1018, tw_35, tw_75, tw_1019⟩, rfl, by decide, by decide, by decide +kernel⟩) rfl hcat ⟨rfl, rfl⟩ hR h (fun r s1 h => by obtain ⟨x, rfl, h2⟩ := h; exact k' x s1 h2)
theorem iv_Mo_119 {M : Mth} {F : Option Value → Sto → Prop} {pc npc : Nat} {l : List (Nat × Value)} {st : List Value} {s : Sto} {Q : Int → Sto → Prop} (hd : decode M.1 pc = .ok (.invokevirtual 119, 3)) (hM : M.2.1 = RX11) (hn : pc + 3 = npc) (hcat : (st.map (fun v => v.category)).sum ≤ 8) (hR : 0 + 1 ≤ M.2.2.2.2.frames ∧ 8 + (6 + 11) + 0 ≤ M.2.2.2.2.locals) (h : K_Mo_isConnected s Q) (k' : ∀ r s1, Q r s1 → Go SM M F npc l (iV r :: st) s1) : Go SM M F pc l (.ref 0 :: st) s := g_callV (k := 0) (as := []) (st := st) hd hn rfl ⟨by decide, rfl⟩ rfl rfl (show okV M 119 RX11 yX11_isConnected cX11_isConnected 6 (some .boolean) 0 from ⟨⟨by rw [hM]; exact tw_1032, tw_1034, tw_38, tw_75, tw_1035⟩, rfl, by decide, by decide, by decide +kernel⟩) rfl hcat ⟨rfl, rfl⟩ hR h (fun r s1 h => by obtain ⟨x, rfl, h2⟩ := h; exact k' x s1 h2)
theorem iv_Mo_123 {M : Mth} {F : Option Value → Sto → Prop} {pc npc : Nat} {l : List (Nat × Value)} {st : List Value} {s : Sto} {Q : Int → Sto → Prop} (hd : decode M.1 pc = .ok (.invokevirtual 123, 3)) (hM : M.2.1 = RX11) (hn : pc + 3 = npc) (hcat : (st.map (fun v => v.category)).sum ≤ 8) (hR : 0 + 1 ≤ M.2.2.2.2.frames ∧ 8 + (3 + 11) + 0 ≤ M.2.2.2.2.locals) (h : K_Mo_sum s Q) (k' : ∀ r s1, Q r s1 → Go SM M F npc l (iV r :: st) s1) : Go SM M F pc l (.ref 0 :: st) s := g_callV (k := 0) (as := []) (st := st) hd hn rfl ⟨by decide, rfl⟩ rfl rfl (show okV M 123 RX11 yX11_sum cX11_sum 3 (some .int) 0 from ⟨⟨by rw [hM]; exact tw_1036, tw_1038, tw_39, tw_75, tw_1039⟩, rfl, by decide, by decide, by decide +kernel⟩) rfl hcat ⟨rfl, rfl⟩ hR h (fun r s1 h => by obtain ⟨x, rfl, h2⟩ := h; exact k' x s1 h2)
theorem gf_Mo_90 {M : Mth} {F : Option Value → Sto → Prop} {pc npc : Nat} {l : List (Nat × Value)} {st : List Value} {s : Sto} (hd : decode M.1 pc = .ok (.getfield 90, 3)) (hM : M.2.1 = RX11) (hn : pc + 3 = npc) (k' : Go SM M F npc l (iV (s 0 11) :: st) s) : Go SM M F pc l (.ref 0 :: st) s := g_get (f := 11) hd hn ⟨by decide, rfl, rfl⟩ rfl inw_X11 (by decide) (by rw [hM]; exact tw_919) rfl (Or.inl ⟨rfl, rfl⟩) k'
theorem iv_Mo_127 {M : Mth} {F : Option Value → Sto → Prop} {pc npc : Nat} {l : List (Nat × Value)} {st : List Value} {s : Sto} {Q : Int → Sto → Prop} (hd : decode M.1 pc = .ok (.invokevirtual 127, 3)) (hM : M.2.1 = RX11) (hn : pc + 3 = npc) (hcat : (st.map (fun v => v.category)).sum ≤ 8) (hR : 0 + 1 ≤ M.2.2.2.2.frames ∧ 8 + (1 + 11) + 0 ≤ M.2.2.2.2.locals) (h : K_Mo_inner s Q) (k' : ∀ r s1, Q r s1 → Go SM M F npc l (iV r :: st) s1) : Go SM M F pc l (.ref 0 :: st) s := g_callV (k := 0) (as := []) (st := st) hd hn rfl ⟨by decide, rfl⟩ rfl rfl (show okV M 127 RX11 yX11_inner cX11_inner 1 (some .int) 0 from ⟨⟨by rw [hM]; exact tw_1040, tw_1042, tw_40, tw_75, tw_1043⟩, rfl, by decide, by decide, by decide +kernel⟩) rfl hcat ⟨rfl, rfl⟩ hR h (fun r s1 h => by obtain ⟨x, rfl, h2⟩ := h; exact k' x s1 h2)
theorem gf_Mo_32 {M : Mth} {F : Option Value → Sto → Prop} {pc npc : Nat} {l : List (Nat × Value)} {st : List Value} {s : Sto} (hd : decode M.1 pc = .ok (.getfield 32, 3)) (hM : M.2.1 = RX11) (hn : pc + 3 = npc) (k' : Go SM M F npc l (.ref 8 :: st) s) : Go SM M F pc l (.ref 0 :: st) s := g_get (f := 12) hd hn ⟨by decide, rfl, rfl⟩ rfl inw_X11 (by decide) (by rw [hM]; exact tw_920) rfl (Or.inr ⟨_, rfl, rfl⟩) k'
theorem iv_Mo_130 {M : Mth} {F : Option Value → Sto → Prop} {pc npc : Nat} {l : List (Nat × Value)} {st : List Value} {s : Sto} {x1 : Int} {Q : Int → Sto → Prop} (hd : decode M.1 pc = .ok (.invokevirtual 130, 3)) (hM : M.2.1 = RX11) (hn : pc + 3 = npc) (hcat : (st.map (fun v => v.category)).sum ≤ 8) (hR : 2 + 1 ≤ M.2.2.2.2.frames ∧ 8 + (2 + 11) + 43 ≤ M.2.2.2.2.locals) (h : K_Mo_hasChips x1 s Q) (k' : ∀ r s1, Q r s1 → Go SM M F npc l (iV r :: st) s1) : Go SM M F pc l (iV x1 :: .ref 0 :: st) s := g_callV (k := 0) (as := [iV x1]) (st := st) hd hn rfl ⟨by decide, rfl⟩ rfl rfl (show okV M 130 RX11 yX11_hasChips cX11_hasChips 2 (some .boolean) 1 from ⟨⟨by rw [hM]; exact tw_1060, tw_1062, tw_41, tw_75, tw_1063⟩, rfl, by decide, by decide, by decide +kernel⟩) rfl hcat ⟨rfl, rfl⟩ hR h (fun r s1 h => by obtain ⟨x, rfl, h2⟩ := h; exact k' x s1 h2)
theorem iv_Mo_133 {M : Mth} {F : Option Value → Sto → Prop} {pc npc : Nat} {l : List (Nat × Value)} {st : List Value} {s : Sto} {Q : Sto → Prop} (hd : decode M.1 pc = .ok (.invokevirtual 133, 3)) (hM : M.2.1 = RX11) (hn : pc + 3 = npc) (hcat : (st.map (fun v => v.category)).sum ≤ 8) (hR : 0 + 1 ≤ M.2.2.2.2.frames ∧ 8 + (2 + 11) + 0 ≤ M.2.2.2.2.locals) (h : K_Mo_keepState s Q) (k' : ∀ s1, Q s1 → Go SM M F npc l st s1) : Go SM M F pc l (.ref 0 :: st) s := g_callV (k := 0) (as := []) (st := st) hd hn rfl ⟨by decide, rfl⟩ rfl rfl (show okV M 133 RX11 yX11_keepState cX11_keepState 2 none 0 from ⟨⟨by rw [hM]; exact tw_1064, tw_1066, tw_42, tw_75, tw_1067⟩, rfl, by decide, by decide, by decide +kernel⟩) rfl hcat ⟨rfl, rfl⟩ hR h (fun r s1 h => by obtain ⟨rfl, h2⟩ := h; exact k' s1 h2)
theorem iv_Mo_136 {M : Mth} {F : Option Value → Sto → Prop} {pc npc : Nat} {l : List (Nat × Value)} {st : List Value} {s : Sto} {k1 : Nat} {x2 : Int} {Q : Int → Sto → Prop} (hd : decode M.1 pc = .ok (.invokevirtual 136, 3)) (hM : M.2.1 = RX11) (hn : pc + 3 = npc) (hcat : (st.map (fun v => v.category)).sum ≤ 8) (hR : 0 + 1 ≤ M.2.2.2.2.frames ∧ 8 + (3 + 11) + 0 ≤ M.2.2.2.2.locals) (h : K_Mo_canFire k1 x2 s Q) (k' : ∀ r s1, Q r s1 → Go SM M F npc l (iV r :: st) s1) : Go SM M F pc l (iV x2 :: .ref k1 :: .ref 0 :: st) s := g_callV (k := 0) (as := [.ref k1, iV x2]) (st := st) hd hn rfl ⟨by decide, rfl⟩ rfl rfl (show okV M 136 RX11 yX11_canFire cX11_canFire 3 (some .boolean) 2 from ⟨⟨by rw [hM]; exact tw_1076, tw_1078, tw_43, tw_75, tw_1079⟩, rfl, by decide, by decide, by decide +kernel⟩) rfl hcat ⟨rfl, rfl⟩ hR h (fun r s1 h => by obtain ⟨x, rfl, h2⟩ := h; exact k' x s1 h2)
theorem iv_Mo_140 {M : Mth} {F : Option Value → Sto → Prop} {pc npc : Nat} {l : List (Nat × Value)} {st : List Value} {s : Sto} {k1 : Nat} {x2 : Int} {x3 : Int} {Q : Sto → Prop} (hd : decode M.1 pc = .ok (.invokevirtual 140, 3)) (hM : M.2.1 = RX11) (hn : pc + 3 = npc) (hcat : (st.map (fun v => v.category)).sum ≤ 8) (hR : 0 + 1 ≤ M.2.2.2.2.frames ∧ 8 + (5 + 11) + 0 ≤ M.2.2.2.2.locals) (h : K_Mo_fireTimes k1 x2 x3 s Q) (k' : ∀ s1, Q s1 → Go SM M F npc l st s1) : Go SM M F pc l (iV x3 :: iV x2 :: .ref k1 :: .ref 0 :: st) s := g_callV (k := 0) (as := [.ref k1, iV x2, iV x3]) (st := st) hd hn rfl ⟨by decide, rfl⟩ rfl rfl (show okV M 140 RX11 yX11_fireTimes cX11_fireTimes 5 none 3 from ⟨⟨by rw [hM]; exact tw_1080, tw_1082, tw_44, tw_75, tw_1083⟩, rfl, by decide, by decide, by decide +kernel⟩) rfl hcat ⟨rfl, rfl⟩ hR h (fun r s1 h => by obtain ⟨rfl, h2⟩ := h; exact k' s1 h2)
theorem gf_Mo_42 {M : Mth} {F : Option Value → Sto → Prop} {pc npc : Nat} {l : List (Nat × Value)} {st : List Value} {s : Sto} (hd : decode M.1 pc = .ok (.getfield 42, 3)) (hM : M.2.1 = RX11) (hn : pc + 3 = npc) (k' : Go SM M F npc l (.ref 11 :: st) s) : Go SM M F pc l (.ref 0 :: st) s := g_get (f := 15) hd hn ⟨by decide, rfl, rfl⟩ rfl inw_X11 (by decide) (by rw [hM]; exact tw_923) rfl (Or.inr ⟨_, rfl, rfl⟩) k'
theorem iv_Mo_144 {M : Mth} {F : Option Value → Sto → Prop} {pc npc : Nat} {l : List (Nat × Value)} {st : List Value} {s : Sto} {k1 : Nat} {Q : Int → Sto → Prop} (hd : decode M.1 pc = .ok (.invokevirtual 144, 3)) (hM : M.2.1 = RX11) (hn : pc + 3 = npc) (hcat : (st.map (fun v => v.category)).sum ≤ 8) (hR : 1 + 1 ≤ M.2.2.2.2.frames ∧ 8 + (6 + 11) + 24 ≤ M.2.2.2.2.locals) (h : K_Mo_settle k1 s Q) (k' : ∀ r s1, Q r s1 → Go SM M F npc l (iV r :: st) s1) : Go SM M F pc l (.ref k1 :: .ref 0 :: st) s := g_callV (k := 0) (as := [.ref k1]) (st := st) hd hn rfl ⟨by decide, rfl⟩ rfl rfl (show okV M 144 RX11 yX11_settle cX11_settle 6 (some .int) 1 from ⟨⟨by rw [hM]; exact tw_1088, tw_1090, tw_45, tw_75, tw_1091⟩, rfl, by decide, by decide, by decide +kernel⟩) rfl hcat ⟨rfl, rfl⟩ hR h (fun r s1 h => by obtain ⟨x, rfl, h2⟩ := h; exact k' x s1 h2)
theorem gf_Mo_45 {M : Mth} {F : Option Value → Sto → Prop} {pc npc : Nat} {l : List (Nat × Value)} {st : List Value} {s : Sto} (hd : decode M.1 pc = .ok (.getfield 45, 3)) (hM : M.2.1 = RX11) (hn : pc + 3 = npc) (k' : Go SM M F npc l (.ref 12 :: st) s) : Go SM M F pc l (.ref 0 :: st) s := g_get (f := 16) hd hn ⟨by decide, rfl, rfl⟩ rfl inw_X11 (by decide) (by rw [hM]; exact tw_924) rfl (Or.inr ⟨_, rfl, rfl⟩) k'
theorem iv_Mo_148 {M : Mth} {F : Option Value → Sto → Prop} {pc npc : Nat} {l : List (Nat × Value)} {st : List Value} {s : Sto} {k1 : Nat} {k2 : Nat} {Q : Sto → Prop} (hd : decode M.1 pc = .ok (.invokevirtual 148, 3)) (hM : M.2.1 = RX11) (hn : pc + 3 = npc) (hcat : (st.map (fun v => v.category)).sum ≤ 8) (hR : 0 + 1 ≤ M.2.2.2.2.frames ∧ 8 + (4 + 11) + 0 ≤ M.2.2.2.2.locals) (h : K_Mo_copy k1 k2 s Q) (k' : ∀ s1, Q s1 → Go SM M F npc l st s1) : Go SM M F pc l (.ref k2 :: .ref k1 :: .ref 0 :: st) s := g_callV (k := 0) (as := [.ref k1, .ref k2]) (st := st) hd hn rfl ⟨by decide, rfl⟩ rfl rfl (show okV M 148 RX11 yX11_copy cX11_copy 4 none 2 from ⟨⟨by rw [hM]; exact tw_1096, tw_1098, tw_46, tw_75, tw_1099⟩, rfl, by decide, by decide, by decide +kernel⟩) rfl hcat ⟨rfl, rfl⟩ hR h (fun r s1 h => by obtain ⟨rfl, h2⟩ := h; exact k' s1 h2)
theorem gf_Mo_29 {M : Mth} {F : Option Value → Sto → Prop} {pc npc : Nat} {l : List (Nat × Value)} {st : List Value} {s : Sto} (hd : decode M.1 pc = .ok (.getfield 29, 3)) (hM : M.2.1 = RX11) (hn : pc + 3 = npc) (k' : Go SM M F npc l (.ref 7 :: st) s) : Go SM M F pc l (.ref 0 :: st) s := g_get (f := 10) hd hn ⟨by decide, rfl, rfl⟩ rfl inw_X11 (by decide) (by rw [hM]; exact tw_918) rfl (Or.inr ⟨_, rfl, rfl⟩) k'
theorem iv_Mo_152 {M : Mth} {F : Option Value → Sto → Prop} {pc npc : Nat} {l : List (Nat × Value)} {st : List Value} {s : Sto} {k1 : Nat} {x2 : Int} {Q : Sto → Prop} (hd : decode M.1 pc = .ok (.invokevirtual 152, 3)) (hM : M.2.1 = RX11) (hn : pc + 3 = npc) (hcat : (st.map (fun v => v.category)).sum ≤ 8) (hR : 0 + 1 ≤ M.2.2.2.2.frames ∧ 8 + (8 + 11) + 0 ≤ M.2.2.2.2.locals) (h : K_Mo_burn k1 x2 s Q) (k' : ∀ s1, Q s1 → Go SM M F npc l st s1) : Go SM M F pc l (iV x2 :: .ref k1 :: .ref 0 :: st) s := g_callV (k := 0) (as := [.ref k1, iV x2]) (st := st) hd hn rfl ⟨by decide, rfl⟩ rfl rfl (show okV M 152 RX11 yX11_burn cX11_burn 8 none 2 from ⟨⟨by rw [hM]; exact tw_1108, tw_1110, tw_48, tw_75, tw_1111⟩, rfl, by decide, by decide, by decide +kernel⟩) rfl hcat ⟨rfl, rfl⟩ hR h (fun r s1 h => by obtain ⟨rfl, h2⟩ := h; exact k' s1 h2)
theorem iv_Mo_156 {M : Mth} {F : Option Value → Sto → Prop} {pc npc : Nat} {l : List (Nat × Value)} {st : List Value} {s : Sto} {Q : Int → Sto → Prop} (hd : decode M.1 pc = .ok (.invokevirtual 156, 3)) (hM : M.2.1 = RX11) (hn : pc + 3 = npc) (hcat : (st.map (fun v => v.category)).sum ≤ 8) (hR : 0 + 1 ≤ M.2.2.2.2.frames ∧ 8 + (3 + 11) + 0 ≤ M.2.2.2.2.locals) (h : K_Mo_allBurn s Q) (k' : ∀ r s1, Q r s1 → Go SM M F npc l (iV r :: st) s1) : Go SM M F pc l (.ref 0 :: st) s := g_callV (k := 0) (as := []) (st := st) hd hn rfl ⟨by decide, rfl⟩ rfl rfl (show okV M 156 RX11 yX11_allBurn cX11_allBurn 3 (some .boolean) 0 from ⟨⟨by rw [hM]; exact tw_1112, tw_1114, tw_49, tw_75, tw_1115⟩, rfl, by decide, by decide, by decide +kernel⟩) rfl hcat ⟨rfl, rfl⟩ hR h (fun r s1 h => by obtain ⟨x, rfl, h2⟩ := h; exact k' x s1 h2)
theorem iv_Mo_163 {M : Mth} {F : Option Value → Sto → Prop} {pc npc : Nat} {l : List (Nat × Value)} {st : List Value} {s : Sto} {k1 : Nat} {Q : Sto → Prop} (hd : decode M.1 pc = .ok (.invokevirtual 163, 3)) (hM : M.2.1 = RX11) (hn : pc + 3 = npc) (hcat : (st.map (fun v => v.category)).sum ≤ 8) (hR : 0 + 1 ≤ M.2.2.2.2.frames ∧ 8 + (4 + 11) + 0 ≤ M.2.2.2.2.locals) (h : K_Mo_fireSet k1 s Q) (k' : ∀ s1, Q s1 → Go SM M F npc l st s1) : Go SM M F pc l (.ref k1 :: .ref 0 :: st) s := g_callV (k := 0) (as := [.ref k1]) (st := st) hd hn rfl ⟨by decide, rfl⟩ rfl rfl (show okV M 163 RX11 yX11_fireSet cX11_fireSet 4 none 1 from ⟨⟨by rw [hM]; exact tw_1116, tw_1118, tw_50, tw_75, tw_1119⟩, rfl, by decide, by decide, by decide +kernel⟩) rfl hcat ⟨rfl, rfl⟩ hR h (fun r s1 h => by obtain ⟨rfl, h2⟩ := h; exact k' s1 h2)
theorem iv_Mo_167 {M : Mth} {F : Option Value → Sto → Prop} {pc npc : Nat} {l : List (Nat × Value)} {st : List Value} {s : Sto} {k1 : Nat} {Q : Int → Sto → Prop} (hd : decode M.1 pc = .ok (.invokevirtual 167, 3)) (hM : M.2.1 = RX11) (hn : pc + 3 = npc) (hcat : (st.map (fun v => v.category)).sum ≤ 8) (hR : 2 + 1 ≤ M.2.2.2.2.frames ∧ 8 + (3 + 11) + 49 ≤ M.2.2.2.2.locals) (h : K_Mo_lower k1 s Q) (k' : ∀ r s1, Q r s1 → Go SM M F npc l (iV r :: st) s1) : Go SM M F pc l (.ref k1 :: .ref 0 :: st) s := g_callV (k := 0) (as := [.ref k1]) (st := st) hd hn rfl ⟨by decide, rfl⟩ rfl rfl (show okV M 167 RX11 yX11_lower cX11_lower 3 (some .int) 1 from ⟨⟨by rw [hM]; exact tw_1104, tw_1106, tw_47, tw_75, tw_1107⟩, rfl, by decide, by decide, by decide +kernel⟩) rfl hcat ⟨rfl, rfl⟩ hR h (fun r s1 h => by obtain ⟨x, rfl, h2⟩ := h; exact k' x s1 h2)
theorem gf_Mo_51 {M : Mth} {F : Option Value → Sto → Prop} {pc npc : Nat} {l : List (Nat × Value)} {st : List Value} {s : Sto} (hd : decode M.1 pc = .ok (.getfield 51, 3)) (hM : M.2.1 = RX11) (hn : pc + 3 = npc) (k' : Go SM M F npc l (.ref 14 :: st) s) : Go SM M F pc l (.ref 0 :: st) s := g_get (f := 18) hd hn ⟨by decide, rfl, rfl⟩ rfl inw_X11 (by decide) (by rw [hM]; exact tw_926) rfl (Or.inr ⟨_, rfl, rfl⟩) k'
theorem gf_Mo_48 {M : Mth} {F : Option Value → Sto → Prop} {pc npc : Nat} {l : List (Nat × Value)} {st : List Value} {s : Sto} (hd : decode M.1 pc = .ok (.getfield 48, 3)) (hM : M.2.1 = RX11) (hn : pc + 3 = npc) (k' : Go SM M F npc l (.ref 13 :: st) s) : Go SM M F pc l (.ref 0 :: st) s := g_get (f := 17) hd hn ⟨by decide, rfl, rfl⟩ rfl inw_X11 (by decide) (by rw [hM]; exact tw_925) rfl (Or.inr ⟨_, rfl, rfl⟩) k'
theorem iv_Mo_170 {M : Mth} {F : Option Value → Sto → Prop} {pc npc : Nat} {l : List (Nat × Value)} {st : List Value} {s : Sto} {k1 : Nat} {Q : Sto → Prop} (hd : decode M.1 pc = .ok (.invokevirtual 170, 3)) (hM : M.2.1 = RX11) (hn : pc + 3 = npc) (hcat : (st.map (fun v => v.category)).sum ≤ 8) (hR : 2 + 1 ≤ M.2.2.2.2.frames ∧ 8 + (3 + 11) + 49 ≤ M.2.2.2.2.locals) (h : K_Mo_raise k1 s Q) (k' : ∀ s1, Q s1 → Go SM M F npc l st s1) : Go SM M F pc l (.ref k1 :: .ref 0 :: st) s := g_callV (k := 0) (as := [.ref k1]) (st := st) hd hn rfl ⟨by decide, rfl⟩ rfl rfl (show okV M 170 RX11 yX11_raise cX11_raise 3 none 1 from ⟨⟨by rw [hM]; exact tw_1124, tw_1126, tw_51, tw_75, tw_1127⟩, rfl, by decide, by decide, by decide +kernel⟩) rfl hcat ⟨rfl, rfl⟩ hR h (fun r s1 h => by obtain ⟨rfl, h2⟩ := h; exact k' s1 h2)
theorem iv_Mo_173 {M : Mth} {F : Option Value → Sto → Prop} {pc npc : Nat} {l : List (Nat × Value)} {st : List Value} {s : Sto} {k0 : Nat} {k1 : Nat} {Q : Int → Sto → Prop} (hd : decode M.1 pc = .ok (.invokestatic 173, 3)) (hM : M.2.1 = RX11) (hn : pc + 3 = npc) (hcat : (st.map (fun v => v.category)).sum ≤ 8) (hR : 0 + 1 ≤ M.2.2.2.2.frames ∧ 8 + (4 + 11) + 0 ≤ M.2.2.2.2.locals) (h : K_Mo_areSame k0 k1 s Q) (k' : ∀ r s1, Q r s1 → Go SM M F npc l (iV r :: st) s1) : Go SM M F pc l (.ref k1 :: .ref k0 :: st) s := g_callS (as := [.ref k0, .ref k1]) (st := st) hd hn rfl (show okS M 173 yX11_areSame cX11_areSame 4 (some .boolean) 2 from ⟨⟨by rw [hM]; exact tw_1128, tw_1129, tw_75, tw_1130⟩, by decide, by decide, by decide +kernel⟩) rfl hcat ⟨rfl, rfl⟩ hR h (fun r s1 h => by obtain ⟨x, rfl, h2⟩ := h; exact k' x s1 h2)
theorem iv_Mo_159 {M : Mth} {F : Option Value → Sto → Prop} {pc npc : Nat} {l : List (Nat × Value)} {st : List Value} {s : Sto} {k1 : Nat} {Q : Int → Sto → Prop} (hd : decode M.1 pc = .ok (.invokevirtual 159, 3)) (hM : M.2.1 = RX11) (hn : pc + 3 = npc) (hcat : (st.map (fun v => v.category)).sum ≤ 8) (hR : 1 + 1 ≤ M.2.2.2.2.frames ∧ 8 + (4 + 11) + 22 ≤ M.2.2.2.2.locals) (h : K_Mo_isStable k1 s Q) (k' : ∀ r s1, Q r s1 → Go SM M F npc l (iV r :: st) s1) : Go SM M F pc l (.ref k1 :: .ref 0 :: st) s := g_callV (k := 0) (as := [.ref k1]) (st := st) hd hn rfl ⟨by decide, rfl⟩ rfl rfl (show okV M 159 RX11 yX11_isStable cX11_isStable 4 (some .boolean) 1 from ⟨⟨by rw [hM]; exact tw_1135, tw_1137, tw_52, tw_75, tw_1138⟩, rfl, by decide, by decide, by decide +kernel⟩) rfl hcat ⟨rfl, rfl⟩ hR h (fun r s1 h => by obtain ⟨x, rfl, h2⟩ := h; exact k' x s1 h2)
theorem iv_Mo_177 {M : Mth} {F : Option Value → Sto → Prop} {pc npc : Nat} {l : List (Nat × Value)} {st : List Value} {s : Sto} {k1 : Nat} {Q : Int → Sto → Prop} (hd : decode M.1 pc = .ok (.invokevirtual 177, 3)) (hM : M.2.1 = RX11) (hn : pc + 3 = npc) (hcat : (st.map (fun v => v.category)).sum ≤ 8) (hR : 2 + 1 ≤ M.2.2.2.2.frames ∧ 8 + (2 + 11) + 45 ≤ M.2.2.2.2.locals) (h : K_Mo_isRecurrent k1 s Q) (k' : ∀ r s1, Q r s1 → Go SM M F npc l (iV r :: st) s1) : Go SM M F pc l (.ref k1 :: .ref 0 :: st) s := g_callV (k := 0) (as := [.ref k1]) (st := st) hd hn rfl ⟨by decide, rfl⟩ rfl rfl (show okV M 177 RX11 yX11_isRecurrent cX11_isRecurrent 2 (some .boolean) 1 from ⟨⟨by rw [hM]; exact tw_1139, tw_1141, tw_53, tw_75, tw_1142⟩, rfl, by decide, by decide, by decide +kernel⟩) rfl hcat ⟨rfl, rfl⟩ hR h (fun r s1 h => by obtain ⟨x, rfl, h2⟩ := h; exact k' x s1 h2)
theorem iv_Mo_180 {M : Mth} {F : Option Value → Sto → Prop} {pc npc : Nat} {l : List (Nat × Value)} {st : List Value} {s : Sto} {k1 : Nat} {Q : Int → Sto → Prop} (hd : decode M.1 pc = .ok (.invokevirtual 180, 3)) (hM : M.2.1 = RX11) (hn : pc + 3 = npc) (hcat : (st.map (fun v => v.category)).sum ≤ 8) (hR : 1 + 1 ≤ M.2.2.2.2.frames ∧ 8 + (2 + 11) + 27 ≤ M.2.2.2.2.locals) (h : K_Mo_isSuperstable k1 s Q) (k' : ∀ r s1, Q r s1 → Go SM M F npc l (iV r :: st) s1) : Go SM M F pc l (.ref k1 :: .ref 0 :: st) s := g_callV (k := 0) (as := [.ref k1]) (st := st) hd hn rfl ⟨by decide, rfl⟩ rfl rfl (show okV M 180 RX11 yX11_isSuperstable cX11_isSuperstable 2 (some .boolean) 1 from ⟨⟨by rw [hM]; exact tw_1143, tw_1145, tw_54, tw_75, tw_1146⟩, rfl, by decide, by decide, by decide +kernel⟩) rfl hcat ⟨rfl, rfl⟩ hR h (fun r s1 h => by obtain ⟨x, rfl, h2⟩ := h; exact k' x s1 h2)
theorem iv_Mo_183 {M : Mth} {F : Option Value → Sto → Prop} {pc npc : Nat} {l : List (Nat × Value)} {st : List Value} {s : Sto} {x0 : Int} {Q : Int → Sto → Prop} (hd : decode M.1 pc = .ok (.invokestatic 183, 3)) (hM : M.2.1 = RX11) (hn : pc + 3 = npc) (hcat : (st.map (fun v => v.category)).sum ≤ 8) (hR : 1 + 1 ≤ M.2.2.2.2.frames ∧ 8 + (1 + 11) + 22 ≤ M.2.2.2.2.locals) (h : K_Mo_noSlot x0 s Q) (k' : ∀ r s1, Q r s1 → Go SM M F npc l (iV r :: st) s1) : Go SM M F pc l (iV x0 :: st) s := g_callS (as := [iV x0]) (st := st) hd hn rfl (show okS M 183 yX11_noSlot cX11_noSlot 1 (some .boolean) 1 from ⟨⟨by rw [hM]; exact tw_1155, tw_1156, tw_75, tw_1157⟩, by decide, by decide, by decide +kernel⟩) rfl hcat ⟨rfl, rfl⟩ hR h (fun r s1 h => by obtain ⟨x, rfl, h2⟩ := h; exact k' x s1 h2)
theorem gf_Mo_39 {M : Mth} {F : Option Value → Sto → Prop} {pc npc : Nat} {l : List (Nat × Value)} {st : List Value} {s : Sto} (hd : decode M.1 pc = .ok (.getfield 39, 3)) (hM : M.2.1 = RX11) (hn : pc + 3 = npc) (k' : Go SM M F npc l (.ref 10 :: st) s) : Go SM M F pc l (.ref 0 :: st) s := g_get (f := 14) hd hn ⟨by decide, rfl, rfl⟩ rfl inw_X11 (by decide) (by rw [hM]; exact tw_922) rfl (Or.inr ⟨_, rfl, rfl⟩) k'
theorem gf_Mo_54 {M : Mth} {F : Option Value → Sto → Prop} {pc npc : Nat} {l : List (Nat × Value)} {st : List Value} {s : Sto} (hd : decode M.1 pc = .ok (.getfield 54, 3)) (hM : M.2.1 = RX11) (hn : pc + 3 = npc) (k' : Go SM M F npc l (.ref 15 :: st) s) : Go SM M F pc l (.ref 0 :: st) s := g_get (f := 19) hd hn ⟨by decide, rfl, rfl⟩ rfl inw_X11 (by decide) (by rw [hM]; exact tw_927) rfl (Or.inr ⟨_, rfl, rfl⟩) k'
theorem gf_Mo_57 {M : Mth} {F : Option Value → Sto → Prop} {pc npc : Nat} {l : List (Nat × Value)} {st : List Value} {s : Sto} (hd : decode M.1 pc = .ok (.getfield 57, 3)) (hM : M.2.1 = RX11) (hn : pc + 3 = npc) (k' : Go SM M F npc l (.ref 16 :: st) s) : Go SM M F pc l (.ref 0 :: st) s := g_get (f := 20) hd hn ⟨by decide, rfl, rfl⟩ rfl inw_X11 (by decide) (by rw [hM]; exact tw_928) rfl (Or.inr ⟨_, rfl, rfl⟩) k'
theorem iv_Mo_190 {M : Mth} {F : Option Value → Sto → Prop} {pc npc : Nat} {l : List (Nat × Value)} {st : List Value} {s : Sto} {x1 : Int} {x2 : Int} {x3 : Int} {Q : Sto → Prop} (hd : decode M.1 pc = .ok (.invokevirtual 190, 3)) (hM : M.2.1 = RX11) (hn : pc + 3 = npc) (hcat : (st.map (fun v => v.category)).sum ≤ 8) (hR : 0 + 1 ≤ M.2.2.2.2.frames ∧ 8 + (9 + 11) + 0 ≤ M.2.2.2.2.locals) (h : K_Mo_swap x1 x2 x3 s Q) (k' : ∀ s1, Q s1 → Go SM M F npc l st s1) : Go SM M F pc l (iV x3 :: iV x2 :: iV x1 :: .ref 0 :: st) s := g_callV (k := 0) (as := [iV x1, iV x2, iV x3]) (st := st) hd hn rfl ⟨by decide, rfl⟩ rfl rfl (show okV M 190 RX11 yX11_swap cX11_swap 9 none 3 from ⟨⟨by rw [hM]; exact tw_1189, tw_1191, tw_58, tw_75, tw_1192⟩, rfl, by decide, by decide, by decide +kernel⟩) rfl hcat ⟨rfl, rfl⟩ hR h (fun r s1 h => by obtain ⟨rfl, h2⟩ := h; exact k' s1 h2)
theorem iv_Mo_186 {M : Mth} {F : Option Value → Sto → Prop} {pc npc : Nat} {l : List (Nat × Value)} {st : List Value} {s : Sto} {x0 : Int} {Q : Int → Sto → Prop} (hd : decode M.1 pc = .ok (.invokestatic 186, 3)) (hM : M.2.1 = RX11) (hn : pc + 3 = npc) (hcat : (st.map (fun v => v.category)).sum ≤ 8) (hR : 0 + 1 ≤ M.2.2.2.2.frames ∧ 8 + (2 + 11) + 0 ≤ M.2.2.2.2.locals) (h : K_Mo_size x0 s Q) (k' : ∀ r s1, Q r s1 → Go SM M F npc l (jV r :: st) s1) : Go SM M F pc l (jV x0 :: st) s := g_callS (as := [jV x0]) (st := st) hd hn rfl (show okS M 186 yX11_size cX11_size 2 (some .long) 1 from ⟨⟨by rw [hM]; exact tw_1186, tw_1187, tw_75, tw_1188⟩, by decide, by decide, by decide +kernel⟩) rfl hcat ⟨rfl, rfl⟩ hR h (fun r s1 h => by obtain ⟨x, rfl, h2⟩ := h; exact k' x s1 h2)
theorem iv_Mo_194 {M : Mth} {F : Option Value → Sto → Prop} {pc npc : Nat} {l : List (Nat × Value)} {st : List Value} {s : Sto} {x1 : Int} {x2 : Int} {x3 : Int} {x5 : Int} {Q : Sto → Prop} (hd : decode M.1 pc = .ok (.invokevirtual 194, 3)) (hM : M.2.1 = RX11) (hn : pc + 3 = npc) (hcat : (st.map (fun v => v.category)).sum ≤ 8) (hR : 0 + 1 ≤ M.2.2.2.2.frames ∧ 8 + (9 + 11) + 0 ≤ M.2.2.2.2.locals) (h : K_Mo_lessen x1 x2 x3 x5 s Q) (k' : ∀ s1, Q s1 → Go SM M F npc l st s1) : Go SM M F pc l (iV x5 :: jV x3 :: iV x2 :: iV x1 :: .ref 0 :: st) s := g_callV (k := 0) (as := [iV x1, iV x2, jV x3, iV x5]) (st := st) hd hn rfl ⟨by decide, rfl⟩ rfl rfl (show okV M 194 RX11 yX11_lessen cX11_lessen 9 none 4 from ⟨⟨by rw [hM]; exact tw_1197, tw_1199, tw_60, tw_75, tw_1200⟩, rfl, by decide, by decide, by decide +kernel⟩) rfl hcat ⟨rfl, rfl⟩ hR h (fun r s1 h => by obtain ⟨rfl, h2⟩ := h; exact k' s1 h2)
theorem iv_Mo_200 {M : Mth} {F : Option Value → Sto → Prop} {pc npc : Nat} {l : List (Nat × Value)} {st : List Value} {s : Sto} {Q : Sto → Prop} (hd : decode M.1 pc = .ok (.invokevirtual 200, 3)) (hM : M.2.1 = RX11) (hn : pc + 3 = npc) (hcat : (st.map (fun v => v.category)).sum ≤ 8) (hR : 0 + 1 ≤ M.2.2.2.2.frames ∧ 8 + (5 + 11) + 0 ≤ M.2.2.2.2.locals) (h : K_Mo_layMatrix s Q) (k' : ∀ s1, Q s1 → Go SM M F npc l st s1) : Go SM M F pc l (.ref 0 :: st) s := g_callV (k := 0) (as := []) (st := st) hd hn rfl ⟨by decide, rfl⟩ rfl rfl (show okV M 200 RX11 yX11_layMatrix cX11_layMatrix 5 none 0 from ⟨⟨by rw [hM]; exact tw_1178, tw_1180, tw_56, tw_75, tw_1181⟩, rfl, by decide, by decide, by decide +kernel⟩) rfl hcat ⟨rfl, rfl⟩ hR h (fun r s1 h => by obtain ⟨rfl, h2⟩ := h; exact k' s1 h2)
theorem iv_Mo_203 {M : Mth} {F : Option Value → Sto → Prop} {pc npc : Nat} {l : List (Nat × Value)} {st : List Value} {s : Sto} {x1 : Int} {x2 : Int} {Q : Int → Sto → Prop} (hd : decode M.1 pc = .ok (.invokevirtual 203, 3)) (hM : M.2.1 = RX11) (hn : pc + 3 = npc) (hcat : (st.map (fun v => v.category)).sum ≤ 8) (hR : 1 + 1 ≤ M.2.2.2.2.frames ∧ 8 + (6 + 11) + 28 ≤ M.2.2.2.2.locals) (h : K_Mo_bringLeast x1 x2 s Q) (k' : ∀ r s1, Q r s1 → Go SM M F npc l (iV r :: st) s1) : Go SM M F pc l (iV x2 :: iV x1 :: .ref 0 :: st) s := g_callV (k := 0) (as := [iV x1, iV x2]) (st := st) hd hn rfl ⟨by decide, rfl⟩ rfl rfl (show okV M 203 RX11 yX11_bringLeast cX11_bringLeast 6 (some .boolean) 2 from ⟨⟨by rw [hM]; exact tw_1182, tw_1184, tw_57, tw_75, tw_1185⟩, rfl, by decide, by decide, by decide +kernel⟩) rfl hcat ⟨rfl, rfl⟩ hR h (fun r s1 h => by obtain ⟨x, rfl, h2⟩ := h; exact k' x s1 h2)
theorem iv_Mo_207 {M : Mth} {F : Option Value → Sto → Prop} {pc npc : Nat} {l : List (Nat × Value)} {st : List Value} {s : Sto} {x1 : Int} {x2 : Int} {Q : Int → Sto → Prop} (hd : decode M.1 pc = .ok (.invokevirtual 207, 3)) (hM : M.2.1 = RX11) (hn : pc + 3 = npc) (hcat : (st.map (fun v => v.category)).sum ≤ 8) (hR : 1 + 1 ≤ M.2.2.2.2.frames ∧ 8 + (6 + 11) + 28 ≤ M.2.2.2.2.locals) (h : K_Mo_isDone x1 x2 s Q) (k' : ∀ r s1, Q r s1 → Go SM M F npc l (iV r :: st) s1) : Go SM M F pc l (iV x2 :: iV x1 :: .ref 0 :: st) s := g_callV (k := 0) (as := [iV x1, iV x2]) (st := st) hd hn rfl ⟨by decide, rfl⟩ rfl rfl (show okV M 207 RX11 yX11_isDone cX11_isDone 6 (some .boolean) 2 from ⟨⟨by rw [hM]; exact tw_1193, tw_1195, tw_59, tw_75, tw_1196⟩, rfl, by decide, by decide, by decide +kernel⟩) rfl hcat ⟨rfl, rfl⟩ hR h (fun r s1 h => by obtain ⟨x, rfl, h2⟩ := h; exact k' x s1 h2)
theorem iv_Mo_210 {M : Mth} {F : Option Value → Sto → Prop} {pc npc : Nat} {l : List (Nat × Value)} {st : List Value} {s : Sto} {Q : Sto → Prop} (hd : decode M.1 pc = .ok (.invokevirtual 210, 3)) (hM : M.2.1 = RX11) (hn : pc + 3 = npc) (hcat : (st.map (fun v => v.category)).sum ≤ 8) (hR : 2 + 1 ≤ M.2.2.2.2.frames ∧ 8 + (4 + 11) + 53 ≤ M.2.2.2.2.locals) (h : K_Mo_smith s Q) (k' : ∀ s1, Q s1 → Go SM M F npc l st s1) : Go SM M F pc l (.ref 0 :: st) s := g_callV (k := 0) (as := []) (st := st) hd hn rfl ⟨by decide, rfl⟩ rfl rfl (show okV M 210 RX11 yX11_smith cX11_smith 4 none 0 from ⟨⟨by rw [hM]; exact tw_1174, tw_1176, tw_55, tw_75, tw_1177⟩, rfl, by decide, by decide, by decide +kernel⟩) rfl hcat ⟨rfl, rfl⟩ hR h (fun r s1 h => by obtain ⟨rfl, h2⟩ := h; exact k' s1 h2)
theorem iv_Mo_213 {M : Mth} {F : Option Value → Sto → Prop} {pc npc : Nat} {l : List (Nat × Value)} {st : List Value} {s : Sto} {Q : Int → Sto → Prop} (hd : decode M.1 pc = .ok (.invokestatic 213, 3)) (hM : M.2.1 = RX11) (hn : pc + 3 = npc) (hcat : (st.map (fun v => v.category)).sum ≤ 8) (hR : 0 + 1 ≤ M.2.2.2.2.frames ∧ 8 + (0 + 11) + 0 ≤ M.2.2.2.2.locals) (h : K_Mo_lost s Q) (k' : ∀ r s1, Q r s1 → Go SM M F npc l (jV r :: st) s1) : Go SM M F pc l (st) s := g_callS (as := []) (st := st) hd hn rfl (show okS M 213 yX11_lost cX11_lost 0 (some .long) 0 from ⟨⟨by rw [hM]; exact tw_1206, tw_1207, tw_75, tw_1208⟩, by decide, by decide, by decide +kernel⟩) rfl hcat ⟨rfl, rfl⟩ hR h (fun r s1 h => by obtain ⟨x, rfl, h2⟩ := h; exact k' x s1 h2)
theorem iv_Mo_217 {M : Mth} {F : Option Value → Sto → Prop} {pc npc : Nat} {l : List (Nat × Value)} {st : List Value} {s : Sto} {k0 : Nat} {Q : Int → Sto → Prop} (hd : decode M.1 pc = .ok (.invokestatic 217, 3)) (hM : M.2.1 = RX11) (hn : pc + 3 = npc) (hcat : (st.map (fun v => v.category)).sum ≤ 8) (hR : 0 + 1 ≤ M.2.2.2.2.frames ∧ 8 + (3 + 11) + 0 ≤ M.2.2.2.2.locals) (h : K_Mo_isEmpty k0 s Q) (k' : ∀ r s1, Q r s1 → Go SM M F npc l (iV r :: st) s1) : Go SM M F pc l (.ref k0 :: st) s := g_callS (as := [.ref k0]) (st := st) hd hn rfl (show okS M 217 yX11_isEmpty cX11_isEmpty 3 (some .boolean) 1 from ⟨⟨by rw [hM]; exact tw_1218, tw_1219, tw_75, tw_1220⟩, by decide, by decide, by decide +kernel⟩) rfl hcat ⟨rfl, rfl⟩ hR h (fun r s1 h => by obtain ⟨x, rfl, h2⟩ := h; exact k' x s1 h2)
theorem gf_Mo_61 {M : Mth} {F : Option Value → Sto → Prop} {pc npc : Nat} {l : List (Nat × Value)} {st : List Value} {s : Sto} (hd : decode M.1 pc = .ok (.getfield 61, 3)) (hM : M.2.1 = RX11) (hn : pc + 3 = npc) (k' : Go SM M F npc l (.ref 17 :: st) s) : Go SM M F pc l (.ref 0 :: st) s := g_get (f := 22) hd hn ⟨by decide, rfl, rfl⟩ rfl inw_X11 (by decide) (by rw [hM]; exact tw_930) rfl (Or.inr ⟨_, rfl, rfl⟩) k'
theorem gf_Mo_93 {M : Mth} {F : Option Value → Sto → Prop} {pc npc : Nat} {l : List (Nat × Value)} {st : List Value} {s : Sto} (hd : decode M.1 pc = .ok (.getfield 93, 3)) (hM : M.2.1 = RX11) (hn : pc + 3 = npc) (k' : Go SM M F npc l (iV (s 0 21) :: st) s) : Go SM M F pc l (.ref 0 :: st) s := g_get (f := 21) hd hn ⟨by decide, rfl, rfl⟩ rfl inw_X11 (by decide) (by rw [hM]; exact tw_929) rfl (Or.inl ⟨rfl, rfl⟩) k'
theorem iv_Mo_220 {M : Mth} {F : Option Value → Sto → Prop} {pc npc : Nat} {l : List (Nat × Value)} {st : List Value} {s : Sto} {Q : Sto → Prop} (hd : decode M.1 pc = .ok (.invokevirtual 220, 3)) (hM : M.2.1 = RX11) (hn : pc + 3 = npc) (hcat : (st.map (fun v => v.category)).sum ≤ 8) (hR : 1 + 1 ≤ M.2.2.2.2.frames ∧ 8 + (7 + 11) + 27 ≤ M.2.2.2.2.locals) (h : K_Mo_countLevels s Q) (k' : ∀ s1, Q s1 → Go SM M F npc l st s1) : Go SM M F pc l (.ref 0 :: st) s := g_callV (k := 0) (as := []) (st := st) hd hn rfl ⟨by decide, rfl⟩ rfl rfl (show okV M 220 RX11 yX11_countLevels cX11_countLevels 7 none 0 from ⟨⟨by rw [hM]; exact tw_1229, tw_1231, tw_61, tw_75, tw_1232⟩, rfl, by decide, by decide, by decide +kernel⟩) rfl hcat ⟨rfl, rfl⟩ hR h (fun r s1 h => by obtain ⟨rfl, h2⟩ := h; exact k' s1 h2)
theorem gf_Mo_64 {M : Mth} {F : Option Value → Sto → Prop} {pc npc : Nat} {l : List (Nat × Value)} {st : List Value} {s : Sto} (hd : decode M.1 pc = .ok (.getfield 64, 3)) (hM : M.2.1 = RX11) (hn : pc + 3 = npc) (k' : Go SM M F npc l (.ref 18 :: st) s) : Go SM M F pc l (.ref 0 :: st) s := g_get (f := 23) hd hn ⟨by decide, rfl, rfl⟩ rfl inw_X11 (by decide) (by rw [hM]; exact tw_931) rfl (Or.inr ⟨_, rfl, rfl⟩) k'
theorem iv_Mo_223 {M : Mth} {F : Option Value → Sto → Prop} {pc npc : Nat} {l : List (Nat × Value)} {st : List Value} {s : Sto} {x1 : Int} {Q : Int → Sto → Prop} (hd : decode M.1 pc = .ok (.invokevirtual 223, 3)) (hM : M.2.1 = RX11) (hn : pc + 3 = npc) (hcat : (st.map (fun v => v.category)).sum ≤ 8) (hR : 0 + 1 ≤ M.2.2.2.2.frames ∧ 8 + (9 + 11) + 0 ≤ M.2.2.2.2.locals) (h : K_Mo_follow x1 s Q) (k' : ∀ r s1, Q r s1 → Go SM M F npc l (iV r :: st) s1) : Go SM M F pc l (iV x1 :: .ref 0 :: st) s := g_callV (k := 0) (as := [iV x1]) (st := st) hd hn rfl ⟨by decide, rfl⟩ rfl rfl (show okV M 223 RX11 yX11_follow cX11_follow 9 (some .int) 1 from ⟨⟨by rw [hM]; exact tw_1237, tw_1239, tw_62, tw_75, tw_1240⟩, rfl, by decide, by decide, by decide +kernel⟩) rfl hcat ⟨rfl, rfl⟩ hR h (fun r s1 h => by obtain ⟨x, rfl, h2⟩ := h; exact k' x s1 h2)
theorem iv_Mo_227 {M : Mth} {F : Option Value → Sto → Prop} {pc npc : Nat} {l : List (Nat × Value)} {st : List Value} {s : Sto} {x0 : Int} {Q : Int → Sto → Prop} (hd : decode M.1 pc = .ok (.invokestatic 227, 3)) (hM : M.2.1 = RX11) (hn : pc + 3 = npc) (hcat : (st.map (fun v => v.category)).sum ≤ 8) (hR : 0 + 1 ≤ M.2.2.2.2.frames ∧ 8 + (3 + 11) + 0 ≤ M.2.2.2.2.locals) (h : K_Mo_bits x0 s Q) (k' : ∀ r s1, Q r s1 → Go SM M F npc l (iV r :: st) s1) : Go SM M F pc l (iV x0 :: st) s := g_callS (as := [iV x0]) (st := st) hd hn rfl (show okS M 227 yX11_bits cX11_bits 3 (some .int) 1 from ⟨⟨by rw [hM]; exact tw_1249, tw_1250, tw_75, tw_1251⟩, by decide, by decide, by decide +kernel⟩) rfl hcat ⟨rfl, rfl⟩ hR h (fun r s1 h => by obtain ⟨x, rfl, h2⟩ := h; exact k' x s1 h2)
theorem iv_Mo_230 {M : Mth} {F : Option Value → Sto → Prop} {pc npc : Nat} {l : List (Nat × Value)} {st : List Value} {s : Sto} {x1 : Int} {Q : Int → Sto → Prop} (hd : decode M.1 pc = .ok (.invokevirtual 230, 3)) (hM : M.2.1 = RX11) (hn : pc + 3 = npc) (hcat : (st.map (fun v => v.category)).sum ≤ 8) (hR : 1 + 1 ≤ M.2.2.2.2.frames ∧ 8 + (7 + 11) + 22 ≤ M.2.2.2.2.locals) (h : K_Mo_isTree x1 s Q) (k' : ∀ r s1, Q r s1 → Go SM M F npc l (iV r :: st) s1) : Go SM M F pc l (iV x1 :: .ref 0 :: st) s := g_callV (k := 0) (as := [iV x1]) (st := st) hd hn rfl ⟨by decide, rfl⟩ rfl rfl (show okV M 230 RX11 yX11_isTree cX11_isTree 7 (some .boolean) 1 from ⟨⟨by rw [hM]; exact tw_1245, tw_1247, tw_63, tw_75, tw_1248⟩, rfl, by decide, by decide, by decide +kernel⟩) rfl hcat ⟨rfl, rfl⟩ hR h (fun r s1 h => by obtain ⟨x, rfl, h2⟩ := h; exact k' x s1 h2)
end
section
theorem zz_end : True := trivial
end
