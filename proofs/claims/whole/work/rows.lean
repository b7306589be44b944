section
-- ===== PART A: goes FIRST, ahead of the names: the tables' words, and 'selects' of the private methods out of them =====
/-- a private method of a class that the tables say can be made, by its rows of tables_1 -/
def lw_okq (q : MethodName × Nat) : Prop := (q.1.cls ≠ "java/lang/invoke/MethodHandle" ∧ q.1.cls ≠ "java/lang/invoke/VarHandle") ∧ Cond.instantiable q.1.cls q.2 ∈ tables_1 ∧ Cond.privateMethod q.1 ∈ tables_1 ∧ Cond.instanceMethod q.1 ∈ tables_1
theorem lw_p0 : lw_okq (⟨"ChipGame$Graph", "countJoining", "(III)V"⟩, 8) := ⟨⟨by decide +kernel, by decide +kernel⟩, List.mem_of_getElem? (i := 28) (by decide +kernel), List.mem_of_getElem? (i := 244) (by decide +kernel), List.mem_of_getElem? (i := 245) (by decide +kernel)⟩
theorem lw_p1 : lw_okq (⟨"ChipGame", "startAnew", "(I)V"⟩, 12) := ⟨⟨by decide +kernel, by decide +kernel⟩, List.mem_of_getElem? (i := 20) (by decide +kernel), List.mem_of_getElem? (i := 289) (by decide +kernel), List.mem_of_getElem? (i := 290) (by decide +kernel)⟩
theorem lw_p2 : lw_okq (⟨"ChipGame", "forgetStates", "()V"⟩, 12) := ⟨⟨by decide +kernel, by decide +kernel⟩, List.mem_of_getElem? (i := 20) (by decide +kernel), List.mem_of_getElem? (i := 296) (by decide +kernel), List.mem_of_getElem? (i := 297) (by decide +kernel)⟩
theorem lw_p3 : lw_okq (⟨"ChipGame$Text", "isNameAndSign", "(Ljava/lang/String;)Z"⟩, 2) := ⟨⟨by decide +kernel, by decide +kernel⟩, List.mem_of_getElem? (i := 87) (by decide +kernel), List.mem_of_getElem? (i := 359) (by decide +kernel), List.mem_of_getElem? (i := 360) (by decide +kernel)⟩
theorem lw_p4 : lw_okq (⟨"ChipGame$Graph", "relabel", "(II)V"⟩, 8) := ⟨⟨by decide +kernel, by decide +kernel⟩, List.mem_of_getElem? (i := 28) (by decide +kernel), List.mem_of_getElem? (i := 449) (by decide +kernel), List.mem_of_getElem? (i := 450) (by decide +kernel)⟩
theorem lw_p5 : lw_okq (⟨"ChipGame$Firing", "giveAlong", "([IIII)V"⟩, 3) := ⟨⟨by decide +kernel, by decide +kernel⟩, List.mem_of_getElem? (i := 152) (by decide +kernel), List.mem_of_getElem? (i := 507) (by decide +kernel), List.mem_of_getElem? (i := 508) (by decide +kernel)⟩
theorem lw_p6 : lw_okq (⟨"ChipGame$Firing", "fireWhilePossible", "([II)I"⟩, 3) := ⟨⟨by decide +kernel, by decide +kernel⟩, List.mem_of_getElem? (i := 152) (by decide +kernel), List.mem_of_getElem? (i := 521) (by decide +kernel), List.mem_of_getElem? (i := 522) (by decide +kernel)⟩
theorem lw_p7 : lw_okq (⟨"ChipGame$Burning", "spreadFire", "()Z"⟩, 3) := ⟨⟨by decide +kernel, by decide +kernel⟩, List.mem_of_getElem? (i := 135) (by decide +kernel), List.mem_of_getElem? (i := 544) (by decide +kernel), List.mem_of_getElem? (i := 545) (by decide +kernel)⟩
theorem lw_p8 : lw_okq (⟨"ChipGame$Burning", "burnRound", "(I)I"⟩, 3) := ⟨⟨by decide +kernel, by decide +kernel⟩, List.mem_of_getElem? (i := 135) (by decide +kernel), List.mem_of_getElem? (i := 548) (by decide +kernel), List.mem_of_getElem? (i := 549) (by decide +kernel)⟩
theorem lw_p9 : lw_okq (⟨"ChipGame$Burning", "edgesToBurnt", "(II)I"⟩, 3) := ⟨⟨by decide +kernel, by decide +kernel⟩, List.mem_of_getElem? (i := 135) (by decide +kernel), List.mem_of_getElem? (i := 552) (by decide +kernel), List.mem_of_getElem? (i := 553) (by decide +kernel)⟩
theorem lw_p10 : lw_okq (⟨"ChipGame$Firing", "fireUnburnt", "([I)V"⟩, 3) := ⟨⟨by decide +kernel, by decide +kernel⟩, List.mem_of_getElem? (i := 152) (by decide +kernel), List.mem_of_getElem? (i := 556) (by decide +kernel), List.mem_of_getElem? (i := 557) (by decide +kernel)⟩
theorem lw_p11 : lw_okq (⟨"ChipGame$Firing", "mirror", "([I)V"⟩, 3) := ⟨⟨by decide +kernel, by decide +kernel⟩, List.mem_of_getElem? (i := 152) (by decide +kernel), List.mem_of_getElem? (i := 574) (by decide +kernel), List.mem_of_getElem? (i := 575) (by decide +kernel)⟩
theorem lw_p12 : lw_okq (⟨"ChipGame", "isRecurrent", "()Z"⟩, 12) := ⟨⟨by decide +kernel, by decide +kernel⟩, List.mem_of_getElem? (i := 20) (by decide +kernel), List.mem_of_getElem? (i := 590) (by decide +kernel), List.mem_of_getElem? (i := 591) (by decide +kernel)⟩
theorem lw_p13 : lw_okq (⟨"ChipGame$Matrix", "isFree", "(I)Z"⟩, 5) := ⟨⟨by decide +kernel, by decide +kernel⟩, List.mem_of_getElem? (i := 169) (by decide +kernel), List.mem_of_getElem? (i := 660) (by decide +kernel), List.mem_of_getElem? (i := 661) (by decide +kernel)⟩
theorem lw_p14 : lw_okq (⟨"ChipGame$Matrix", "fillEdge", "(II)V"⟩, 5) := ⟨⟨by decide +kernel, by decide +kernel⟩, List.mem_of_getElem? (i := 169) (by decide +kernel), List.mem_of_getElem? (i := 665) (by decide +kernel), List.mem_of_getElem? (i := 666) (by decide +kernel)⟩
theorem lw_p15 : lw_okq (⟨"ChipGame$Matrix", "combineRows", "(IIJ)V"⟩, 5) := ⟨⟨by decide +kernel, by decide +kernel⟩, List.mem_of_getElem? (i := 169) (by decide +kernel), List.mem_of_getElem? (i := 673) (by decide +kernel), List.mem_of_getElem? (i := 674) (by decide +kernel)⟩
def lw_privs_1 : List (MethodName × Nat) := [(⟨"ChipGame$Graph", "countJoining", "(III)V"⟩, 8), (⟨"ChipGame", "startAnew", "(I)V"⟩, 12), (⟨"ChipGame", "forgetStates", "()V"⟩, 12), (⟨"ChipGame$Text", "isNameAndSign", "(Ljava/lang/String;)Z"⟩, 2), (⟨"ChipGame$Graph", "relabel", "(II)V"⟩, 8), (⟨"ChipGame$Firing", "giveAlong", "([IIII)V"⟩, 3), (⟨"ChipGame$Firing", "fireWhilePossible", "([II)I"⟩, 3), (⟨"ChipGame$Burning", "spreadFire", "()Z"⟩, 3), (⟨"ChipGame$Burning", "burnRound", "(I)I"⟩, 3), (⟨"ChipGame$Burning", "edgesToBurnt", "(II)I"⟩, 3), (⟨"ChipGame$Firing", "fireUnburnt", "([I)V"⟩, 3), (⟨"ChipGame$Firing", "mirror", "([I)V"⟩, 3), (⟨"ChipGame", "isRecurrent", "()Z"⟩, 12), (⟨"ChipGame$Matrix", "isFree", "(I)Z"⟩, 5), (⟨"ChipGame$Matrix", "fillEdge", "(II)V"⟩, 5), (⟨"ChipGame$Matrix", "combineRows", "(IIJ)V"⟩, 5)]
theorem lw_r1 : ∀ q ∈ lw_privs_1, lw_okq q := List.forall_mem_cons.mpr ⟨lw_p0, List.forall_mem_cons.mpr ⟨lw_p1, List.forall_mem_cons.mpr ⟨lw_p2, List.forall_mem_cons.mpr ⟨lw_p3, List.forall_mem_cons.mpr ⟨lw_p4, List.forall_mem_cons.mpr ⟨lw_p5, List.forall_mem_cons.mpr ⟨lw_p6, List.forall_mem_cons.mpr ⟨lw_p7, List.forall_mem_cons.mpr ⟨lw_p8, List.forall_mem_cons.mpr ⟨lw_p9, List.forall_mem_cons.mpr ⟨lw_p10, List.forall_mem_cons.mpr ⟨lw_p11, List.forall_mem_cons.mpr ⟨lw_p12, List.forall_mem_cons.mpr ⟨lw_p13, List.forall_mem_cons.mpr ⟨lw_p14, List.forall_mem_cons.mpr ⟨lw_p15, fun _ h => absurd h List.not_mem_nil⟩⟩⟩⟩⟩⟩⟩⟩⟩⟩⟩⟩⟩⟩⟩⟩
theorem lw_p16 : lw_okq (⟨"ChipGame$Matrix", "fillWhole", "()V"⟩, 5) := ⟨⟨by decide +kernel, by decide +kernel⟩, List.mem_of_getElem? (i := 169) (by decide +kernel), List.mem_of_getElem? (i := 689) (by decide +kernel), List.mem_of_getElem? (i := 690) (by decide +kernel)⟩
theorem lw_p17 : lw_okq (⟨"ChipGame$Matrix", "clearAround", "(IJ)V"⟩, 5) := ⟨⟨by decide +kernel, by decide +kernel⟩, List.mem_of_getElem? (i := 169) (by decide +kernel), List.mem_of_getElem? (i := 715) (by decide +kernel), List.mem_of_getElem? (i := 716) (by decide +kernel)⟩
theorem lw_p18 : lw_okq (⟨"ChipGame$Matrix", "bringLeastToCorner", "(I)Z"⟩, 5) := ⟨⟨by decide +kernel, by decide +kernel⟩, List.mem_of_getElem? (i := 169) (by decide +kernel), List.mem_of_getElem? (i := 719) (by decide +kernel), List.mem_of_getElem? (i := 720) (by decide +kernel)⟩
theorem lw_p19 : lw_okq (⟨"ChipGame$Matrix", "swapRows", "(II)V"⟩, 5) := ⟨⟨by decide +kernel, by decide +kernel⟩, List.mem_of_getElem? (i := 169) (by decide +kernel), List.mem_of_getElem? (i := 723) (by decide +kernel), List.mem_of_getElem? (i := 724) (by decide +kernel)⟩
theorem lw_p20 : lw_okq (⟨"ChipGame$Matrix", "swapColumns", "(II)V"⟩, 5) := ⟨⟨by decide +kernel, by decide +kernel⟩, List.mem_of_getElem? (i := 169) (by decide +kernel), List.mem_of_getElem? (i := 727) (by decide +kernel), List.mem_of_getElem? (i := 728) (by decide +kernel)⟩
theorem lw_p21 : lw_okq (⟨"ChipGame$Matrix", "clearColumn", "(IJ)Z"⟩, 5) := ⟨⟨by decide +kernel, by decide +kernel⟩, List.mem_of_getElem? (i := 169) (by decide +kernel), List.mem_of_getElem? (i := 731) (by decide +kernel), List.mem_of_getElem? (i := 732) (by decide +kernel)⟩
theorem lw_p22 : lw_okq (⟨"ChipGame$Matrix", "addRow", "(IIJJ)V"⟩, 5) := ⟨⟨by decide +kernel, by decide +kernel⟩, List.mem_of_getElem? (i := 169) (by decide +kernel), List.mem_of_getElem? (i := 735) (by decide +kernel), List.mem_of_getElem? (i := 736) (by decide +kernel)⟩
theorem lw_p23 : lw_okq (⟨"ChipGame$Matrix", "clearRow", "(IJ)Z"⟩, 5) := ⟨⟨by decide +kernel, by decide +kernel⟩, List.mem_of_getElem? (i := 169) (by decide +kernel), List.mem_of_getElem? (i := 739) (by decide +kernel), List.mem_of_getElem? (i := 740) (by decide +kernel)⟩
theorem lw_p24 : lw_okq (⟨"ChipGame$Matrix", "addColumn", "(IIJJ)V"⟩, 5) := ⟨⟨by decide +kernel, by decide +kernel⟩, List.mem_of_getElem? (i := 169) (by decide +kernel), List.mem_of_getElem? (i := 743) (by decide +kernel), List.mem_of_getElem? (i := 744) (by decide +kernel)⟩
theorem lw_p25 : lw_okq (⟨"ChipGame$Matrix", "addUndividedRow", "(IJ)Z"⟩, 5) := ⟨⟨by decide +kernel, by decide +kernel⟩, List.mem_of_getElem? (i := 169) (by decide +kernel), List.mem_of_getElem? (i := 747) (by decide +kernel), List.mem_of_getElem? (i := 748) (by decide +kernel)⟩
theorem lw_p26 : lw_okq (⟨"ChipGame$Levels", "countEdgesInside", "()V"⟩, 4) := ⟨⟨by decide +kernel, by decide +kernel⟩, List.mem_of_getElem? (i := 212) (by decide +kernel), List.mem_of_getElem? (i := 763) (by decide +kernel), List.mem_of_getElem? (i := 764) (by decide +kernel)⟩
theorem lw_p27 : lw_okq (⟨"ChipGame$Levels", "sumConnected", "(I)V"⟩, 4) := ⟨⟨by decide +kernel, by decide +kernel⟩, List.mem_of_getElem? (i := 212) (by decide +kernel), List.mem_of_getElem? (i := 767) (by decide +kernel), List.mem_of_getElem? (i := 768) (by decide +kernel)⟩
theorem lw_p28 : lw_okq (⟨"ChipGame$Levels", "divideByYMinusOne", "()V"⟩, 4) := ⟨⟨by decide +kernel, by decide +kernel⟩, List.mem_of_getElem? (i := 212) (by decide +kernel), List.mem_of_getElem? (i := 774) (by decide +kernel), List.mem_of_getElem? (i := 775) (by decide +kernel)⟩
theorem lw_p29 : lw_okq (⟨"ChipGame$Trees", "lowestBorderEdge", "(II)I"⟩, 3) := ⟨⟨by decide +kernel, by decide +kernel⟩, List.mem_of_getElem? (i := 196) (by decide +kernel), List.mem_of_getElem? (i := 787) (by decide +kernel), List.mem_of_getElem? (i := 788) (by decide +kernel)⟩
theorem lw_p30 : lw_okq (⟨"ChipGame$Trees", "unmarkedEnd", "(II)I"⟩, 3) := ⟨⟨by decide +kernel, by decide +kernel⟩, List.mem_of_getElem? (i := 196) (by decide +kernel), List.mem_of_getElem? (i := 795) (by decide +kernel), List.mem_of_getElem? (i := 796) (by decide +kernel)⟩
theorem lw_p31 : lw_okq (⟨"ChipGameModel", "begin", "(I)V"⟩, 24) := ⟨⟨by decide +kernel, by decide +kernel⟩, List.mem_of_getElem? (i := 827) (by decide +kernel), List.mem_of_getElem? (i := 833) (by decide +kernel), List.mem_of_getElem? (i := 834) (by decide +kernel)⟩
def lw_privs_2 : List (MethodName × Nat) := [(⟨"ChipGame$Matrix", "fillWhole", "()V"⟩, 5), (⟨"ChipGame$Matrix", "clearAround", "(IJ)V"⟩, 5), (⟨"ChipGame$Matrix", "bringLeastToCorner", "(I)Z"⟩, 5), (⟨"ChipGame$Matrix", "swapRows", "(II)V"⟩, 5), (⟨"ChipGame$Matrix", "swapColumns", "(II)V"⟩, 5), (⟨"ChipGame$Matrix", "clearColumn", "(IJ)Z"⟩, 5), (⟨"ChipGame$Matrix", "addRow", "(IIJJ)V"⟩, 5), (⟨"ChipGame$Matrix", "clearRow", "(IJ)Z"⟩, 5), (⟨"ChipGame$Matrix", "addColumn", "(IIJJ)V"⟩, 5), (⟨"ChipGame$Matrix", "addUndividedRow", "(IJ)Z"⟩, 5), (⟨"ChipGame$Levels", "countEdgesInside", "()V"⟩, 4), (⟨"ChipGame$Levels", "sumConnected", "(I)V"⟩, 4), (⟨"ChipGame$Levels", "divideByYMinusOne", "()V"⟩, 4), (⟨"ChipGame$Trees", "lowestBorderEdge", "(II)I"⟩, 3), (⟨"ChipGame$Trees", "unmarkedEnd", "(II)I"⟩, 3), (⟨"ChipGameModel", "begin", "(I)V"⟩, 24)]
theorem lw_r2 : ∀ q ∈ lw_privs_2, lw_okq q := List.forall_mem_cons.mpr ⟨lw_p16, List.forall_mem_cons.mpr ⟨lw_p17, List.forall_mem_cons.mpr ⟨lw_p18, List.forall_mem_cons.mpr ⟨lw_p19, List.forall_mem_cons.mpr ⟨lw_p20, List.forall_mem_cons.mpr ⟨lw_p21, List.forall_mem_cons.mpr ⟨lw_p22, List.forall_mem_cons.mpr ⟨lw_p23, List.forall_mem_cons.mpr ⟨lw_p24, List.forall_mem_cons.mpr ⟨lw_p25, List.forall_mem_cons.mpr ⟨lw_p26, List.forall_mem_cons.mpr ⟨lw_p27, List.forall_mem_cons.mpr ⟨lw_p28, List.forall_mem_cons.mpr ⟨lw_p29, List.forall_mem_cons.mpr ⟨lw_p30, List.forall_mem_cons.mpr ⟨lw_p31, fun _ h => absurd h List.not_mem_nil⟩⟩⟩⟩⟩⟩⟩⟩⟩⟩⟩⟩⟩⟩⟩⟩
theorem lw_p32 : lw_okq (⟨"ChipGameModel", "changed", "()V"⟩, 24) := ⟨⟨by decide +kernel, by decide +kernel⟩, List.mem_of_getElem? (i := 827) (by decide +kernel), List.mem_of_getElem? (i := 837) (by decide +kernel), List.mem_of_getElem? (i := 838) (by decide +kernel)⟩
theorem lw_p33 : lw_okq (⟨"ChipGameModel", "join", "(II)V"⟩, 24) := ⟨⟨by decide +kernel, by decide +kernel⟩, List.mem_of_getElem? (i := 827) (by decide +kernel), List.mem_of_getElem? (i := 841) (by decide +kernel), List.mem_of_getElem? (i := 842) (by decide +kernel)⟩
theorem lw_p34 : lw_okq (⟨"ChipGameModel", "isNode", "(I)Z"⟩, 24) := ⟨⟨by decide +kernel, by decide +kernel⟩, List.mem_of_getElem? (i := 827) (by decide +kernel), List.mem_of_getElem? (i := 929) (by decide +kernel), List.mem_of_getElem? (i := 930) (by decide +kernel)⟩
theorem lw_p35 : lw_okq (⟨"ChipGameModel", "isNamed", "(I)Z"⟩, 24) := ⟨⟨by decide +kernel, by decide +kernel⟩, List.mem_of_getElem? (i := 827) (by decide +kernel), List.mem_of_getElem? (i := 953) (by decide +kernel), List.mem_of_getElem? (i := 954) (by decide +kernel)⟩
theorem lw_p36 : lw_okq (⟨"ChipGameModel", "begins", "(CCCC)Z"⟩, 24) := ⟨⟨by decide +kernel, by decide +kernel⟩, List.mem_of_getElem? (i := 827) (by decide +kernel), List.mem_of_getElem? (i := 957) (by decide +kernel), List.mem_of_getElem? (i := 958) (by decide +kernel)⟩
theorem lw_p37 : lw_okq (⟨"ChipGameModel", "isAt", "(IC)Z"⟩, 24) := ⟨⟨by decide +kernel, by decide +kernel⟩, List.mem_of_getElem? (i := 827) (by decide +kernel), List.mem_of_getElem? (i := 961) (by decide +kernel), List.mem_of_getElem? (i := 962) (by decide +kernel)⟩
theorem lw_p38 : lw_okq (⟨"ChipGameModel", "isConnected", "()Z"⟩, 24) := ⟨⟨by decide +kernel, by decide +kernel⟩, List.mem_of_getElem? (i := 827) (by decide +kernel), List.mem_of_getElem? (i := 969) (by decide +kernel), List.mem_of_getElem? (i := 970) (by decide +kernel)⟩
theorem lw_p39 : lw_okq (⟨"ChipGameModel", "sum", "()I"⟩, 24) := ⟨⟨by decide +kernel, by decide +kernel⟩, List.mem_of_getElem? (i := 827) (by decide +kernel), List.mem_of_getElem? (i := 973) (by decide +kernel), List.mem_of_getElem? (i := 974) (by decide +kernel)⟩
theorem lw_p40 : lw_okq (⟨"ChipGameModel", "inner", "()I"⟩, 24) := ⟨⟨by decide +kernel, by decide +kernel⟩, List.mem_of_getElem? (i := 827) (by decide +kernel), List.mem_of_getElem? (i := 977) (by decide +kernel), List.mem_of_getElem? (i := 978) (by decide +kernel)⟩
theorem lw_p41 : lw_okq (⟨"ChipGameModel", "hasChips", "(I)Z"⟩, 24) := ⟨⟨by decide +kernel, by decide +kernel⟩, List.mem_of_getElem? (i := 827) (by decide +kernel), List.mem_of_getElem? (i := 997) (by decide +kernel), List.mem_of_getElem? (i := 998) (by decide +kernel)⟩
theorem lw_p42 : lw_okq (⟨"ChipGameModel", "keepState", "()V"⟩, 24) := ⟨⟨by decide +kernel, by decide +kernel⟩, List.mem_of_getElem? (i := 827) (by decide +kernel), List.mem_of_getElem? (i := 1001) (by decide +kernel), List.mem_of_getElem? (i := 1002) (by decide +kernel)⟩
theorem lw_p43 : lw_okq (⟨"ChipGameModel", "canFire", "([II)Z"⟩, 24) := ⟨⟨by decide +kernel, by decide +kernel⟩, List.mem_of_getElem? (i := 827) (by decide +kernel), List.mem_of_getElem? (i := 1013) (by decide +kernel), List.mem_of_getElem? (i := 1014) (by decide +kernel)⟩
theorem lw_p44 : lw_okq (⟨"ChipGameModel", "fireTimes", "([III)V"⟩, 24) := ⟨⟨by decide +kernel, by decide +kernel⟩, List.mem_of_getElem? (i := 827) (by decide +kernel), List.mem_of_getElem? (i := 1017) (by decide +kernel), List.mem_of_getElem? (i := 1018) (by decide +kernel)⟩
theorem lw_p45 : lw_okq (⟨"ChipGameModel", "settle", "([I)I"⟩, 24) := ⟨⟨by decide +kernel, by decide +kernel⟩, List.mem_of_getElem? (i := 827) (by decide +kernel), List.mem_of_getElem? (i := 1025) (by decide +kernel), List.mem_of_getElem? (i := 1026) (by decide +kernel)⟩
theorem lw_p46 : lw_okq (⟨"ChipGameModel", "copy", "([I[I)V"⟩, 24) := ⟨⟨by decide +kernel, by decide +kernel⟩, List.mem_of_getElem? (i := 827) (by decide +kernel), List.mem_of_getElem? (i := 1033) (by decide +kernel), List.mem_of_getElem? (i := 1034) (by decide +kernel)⟩
theorem lw_p47 : lw_okq (⟨"ChipGameModel", "lower", "([I)I"⟩, 24) := ⟨⟨by decide +kernel, by decide +kernel⟩, List.mem_of_getElem? (i := 827) (by decide +kernel), List.mem_of_getElem? (i := 1041) (by decide +kernel), List.mem_of_getElem? (i := 1042) (by decide +kernel)⟩
def lw_privs_3 : List (MethodName × Nat) := [(⟨"ChipGameModel", "changed", "()V"⟩, 24), (⟨"ChipGameModel", "join", "(II)V"⟩, 24), (⟨"ChipGameModel", "isNode", "(I)Z"⟩, 24), (⟨"ChipGameModel", "isNamed", "(I)Z"⟩, 24), (⟨"ChipGameModel", "begins", "(CCCC)Z"⟩, 24), (⟨"ChipGameModel", "isAt", "(IC)Z"⟩, 24), (⟨"ChipGameModel", "isConnected", "()Z"⟩, 24), (⟨"ChipGameModel", "sum", "()I"⟩, 24), (⟨"ChipGameModel", "inner", "()I"⟩, 24), (⟨"ChipGameModel", "hasChips", "(I)Z"⟩, 24), (⟨"ChipGameModel", "keepState", "()V"⟩, 24), (⟨"ChipGameModel", "canFire", "([II)Z"⟩, 24), (⟨"ChipGameModel", "fireTimes", "([III)V"⟩, 24), (⟨"ChipGameModel", "settle", "([I)I"⟩, 24), (⟨"ChipGameModel", "copy", "([I[I)V"⟩, 24), (⟨"ChipGameModel", "lower", "([I)I"⟩, 24)]
theorem lw_r3 : ∀ q ∈ lw_privs_3, lw_okq q := List.forall_mem_cons.mpr ⟨lw_p32, List.forall_mem_cons.mpr ⟨lw_p33, List.forall_mem_cons.mpr ⟨lw_p34, List.forall_mem_cons.mpr ⟨lw_p35, List.forall_mem_cons.mpr ⟨lw_p36, List.forall_mem_cons.mpr ⟨lw_p37, List.forall_mem_cons.mpr ⟨lw_p38, List.forall_mem_cons.mpr ⟨lw_p39, List.forall_mem_cons.mpr ⟨lw_p40, List.forall_mem_cons.mpr ⟨lw_p41, List.forall_mem_cons.mpr ⟨lw_p42, List.forall_mem_cons.mpr ⟨lw_p43, List.forall_mem_cons.mpr ⟨lw_p44, List.forall_mem_cons.mpr ⟨lw_p45, List.forall_mem_cons.mpr ⟨lw_p46, List.forall_mem_cons.mpr ⟨lw_p47, fun _ h => absurd h List.not_mem_nil⟩⟩⟩⟩⟩⟩⟩⟩⟩⟩⟩⟩⟩⟩⟩⟩
theorem lw_p48 : lw_okq (⟨"ChipGameModel", "burn", "([IZ)V"⟩, 24) := ⟨⟨by decide +kernel, by decide +kernel⟩, List.mem_of_getElem? (i := 827) (by decide +kernel), List.mem_of_getElem? (i := 1045) (by decide +kernel), List.mem_of_getElem? (i := 1046) (by decide +kernel)⟩
theorem lw_p49 : lw_okq (⟨"ChipGameModel", "allBurn", "()Z"⟩, 24) := ⟨⟨by decide +kernel, by decide +kernel⟩, List.mem_of_getElem? (i := 827) (by decide +kernel), List.mem_of_getElem? (i := 1049) (by decide +kernel), List.mem_of_getElem? (i := 1050) (by decide +kernel)⟩
theorem lw_p50 : lw_okq (⟨"ChipGameModel", "fireSet", "([I)V"⟩, 24) := ⟨⟨by decide +kernel, by decide +kernel⟩, List.mem_of_getElem? (i := 827) (by decide +kernel), List.mem_of_getElem? (i := 1053) (by decide +kernel), List.mem_of_getElem? (i := 1054) (by decide +kernel)⟩
theorem lw_p51 : lw_okq (⟨"ChipGameModel", "raise", "([I)V"⟩, 24) := ⟨⟨by decide +kernel, by decide +kernel⟩, List.mem_of_getElem? (i := 827) (by decide +kernel), List.mem_of_getElem? (i := 1061) (by decide +kernel), List.mem_of_getElem? (i := 1062) (by decide +kernel)⟩
theorem lw_p52 : lw_okq (⟨"ChipGameModel", "isStable", "([I)Z"⟩, 24) := ⟨⟨by decide +kernel, by decide +kernel⟩, List.mem_of_getElem? (i := 827) (by decide +kernel), List.mem_of_getElem? (i := 1072) (by decide +kernel), List.mem_of_getElem? (i := 1073) (by decide +kernel)⟩
theorem lw_p53 : lw_okq (⟨"ChipGameModel", "isRecurrent", "([I)Z"⟩, 24) := ⟨⟨by decide +kernel, by decide +kernel⟩, List.mem_of_getElem? (i := 827) (by decide +kernel), List.mem_of_getElem? (i := 1076) (by decide +kernel), List.mem_of_getElem? (i := 1077) (by decide +kernel)⟩
theorem lw_p54 : lw_okq (⟨"ChipGameModel", "isSuperstable", "([I)Z"⟩, 24) := ⟨⟨by decide +kernel, by decide +kernel⟩, List.mem_of_getElem? (i := 827) (by decide +kernel), List.mem_of_getElem? (i := 1080) (by decide +kernel), List.mem_of_getElem? (i := 1081) (by decide +kernel)⟩
theorem lw_p55 : lw_okq (⟨"ChipGameModel", "smith", "()V"⟩, 24) := ⟨⟨by decide +kernel, by decide +kernel⟩, List.mem_of_getElem? (i := 827) (by decide +kernel), List.mem_of_getElem? (i := 1111) (by decide +kernel), List.mem_of_getElem? (i := 1112) (by decide +kernel)⟩
theorem lw_p56 : lw_okq (⟨"ChipGameModel", "layMatrix", "()V"⟩, 24) := ⟨⟨by decide +kernel, by decide +kernel⟩, List.mem_of_getElem? (i := 827) (by decide +kernel), List.mem_of_getElem? (i := 1115) (by decide +kernel), List.mem_of_getElem? (i := 1116) (by decide +kernel)⟩
theorem lw_p57 : lw_okq (⟨"ChipGameModel", "bringLeast", "(II)Z"⟩, 24) := ⟨⟨by decide +kernel, by decide +kernel⟩, List.mem_of_getElem? (i := 827) (by decide +kernel), List.mem_of_getElem? (i := 1119) (by decide +kernel), List.mem_of_getElem? (i := 1120) (by decide +kernel)⟩
theorem lw_p58 : lw_okq (⟨"ChipGameModel", "swap", "(IIZ)V"⟩, 24) := ⟨⟨by decide +kernel, by decide +kernel⟩, List.mem_of_getElem? (i := 827) (by decide +kernel), List.mem_of_getElem? (i := 1126) (by decide +kernel), List.mem_of_getElem? (i := 1127) (by decide +kernel)⟩
theorem lw_p59 : lw_okq (⟨"ChipGameModel", "isDone", "(II)Z"⟩, 24) := ⟨⟨by decide +kernel, by decide +kernel⟩, List.mem_of_getElem? (i := 827) (by decide +kernel), List.mem_of_getElem? (i := 1130) (by decide +kernel), List.mem_of_getElem? (i := 1131) (by decide +kernel)⟩
theorem lw_p60 : lw_okq (⟨"ChipGameModel", "lessen", "(IIJZ)V"⟩, 24) := ⟨⟨by decide +kernel, by decide +kernel⟩, List.mem_of_getElem? (i := 827) (by decide +kernel), List.mem_of_getElem? (i := 1134) (by decide +kernel), List.mem_of_getElem? (i := 1135) (by decide +kernel)⟩
theorem lw_p61 : lw_okq (⟨"ChipGameModel", "countLevels", "()V"⟩, 24) := ⟨⟨by decide +kernel, by decide +kernel⟩, List.mem_of_getElem? (i := 827) (by decide +kernel), List.mem_of_getElem? (i := 1166) (by decide +kernel), List.mem_of_getElem? (i := 1167) (by decide +kernel)⟩
theorem lw_p62 : lw_okq (⟨"ChipGameModel", "follow", "(I)I"⟩, 24) := ⟨⟨by decide +kernel, by decide +kernel⟩, List.mem_of_getElem? (i := 827) (by decide +kernel), List.mem_of_getElem? (i := 1174) (by decide +kernel), List.mem_of_getElem? (i := 1175) (by decide +kernel)⟩
theorem lw_p63 : lw_okq (⟨"ChipGameModel", "isTree", "(I)Z"⟩, 24) := ⟨⟨by decide +kernel, by decide +kernel⟩, List.mem_of_getElem? (i := 827) (by decide +kernel), List.mem_of_getElem? (i := 1182) (by decide +kernel), List.mem_of_getElem? (i := 1183) (by decide +kernel)⟩
def lw_privs_4 : List (MethodName × Nat) := [(⟨"ChipGameModel", "burn", "([IZ)V"⟩, 24), (⟨"ChipGameModel", "allBurn", "()Z"⟩, 24), (⟨"ChipGameModel", "fireSet", "([I)V"⟩, 24), (⟨"ChipGameModel", "raise", "([I)V"⟩, 24), (⟨"ChipGameModel", "isStable", "([I)Z"⟩, 24), (⟨"ChipGameModel", "isRecurrent", "([I)Z"⟩, 24), (⟨"ChipGameModel", "isSuperstable", "([I)Z"⟩, 24), (⟨"ChipGameModel", "smith", "()V"⟩, 24), (⟨"ChipGameModel", "layMatrix", "()V"⟩, 24), (⟨"ChipGameModel", "bringLeast", "(II)Z"⟩, 24), (⟨"ChipGameModel", "swap", "(IIZ)V"⟩, 24), (⟨"ChipGameModel", "isDone", "(II)Z"⟩, 24), (⟨"ChipGameModel", "lessen", "(IIJZ)V"⟩, 24), (⟨"ChipGameModel", "countLevels", "()V"⟩, 24), (⟨"ChipGameModel", "follow", "(I)I"⟩, 24), (⟨"ChipGameModel", "isTree", "(I)Z"⟩, 24)]
theorem lw_r4 : ∀ q ∈ lw_privs_4, lw_okq q := List.forall_mem_cons.mpr ⟨lw_p48, List.forall_mem_cons.mpr ⟨lw_p49, List.forall_mem_cons.mpr ⟨lw_p50, List.forall_mem_cons.mpr ⟨lw_p51, List.forall_mem_cons.mpr ⟨lw_p52, List.forall_mem_cons.mpr ⟨lw_p53, List.forall_mem_cons.mpr ⟨lw_p54, List.forall_mem_cons.mpr ⟨lw_p55, List.forall_mem_cons.mpr ⟨lw_p56, List.forall_mem_cons.mpr ⟨lw_p57, List.forall_mem_cons.mpr ⟨lw_p58, List.forall_mem_cons.mpr ⟨lw_p59, List.forall_mem_cons.mpr ⟨lw_p60, List.forall_mem_cons.mpr ⟨lw_p61, List.forall_mem_cons.mpr ⟨lw_p62, List.forall_mem_cons.mpr ⟨lw_p63, fun _ h => absurd h List.not_mem_nil⟩⟩⟩⟩⟩⟩⟩⟩⟩⟩⟩⟩⟩⟩⟩⟩
def lw_privs : List (MethodName × Nat) := lw_privs_1 ++ (lw_privs_2 ++ (lw_privs_3 ++ (lw_privs_4)))
def lw_tbl : List Cond := k2_sels lw_privs ++ tables_1
theorem lw_privs_ok : ∀ q ∈ lw_privs, lw_okq q := by
  show ∀ q ∈ lw_privs_1 ++ (lw_privs_2 ++ (lw_privs_3 ++ (lw_privs_4))), lw_okq q
  exact List.forall_mem_append.mpr ⟨lw_r1, List.forall_mem_append.mpr ⟨lw_r2, List.forall_mem_append.mpr ⟨lw_r3, lw_r4⟩⟩⟩
end
section
def RX0 : String := "ChipGame$Burning"
def TX0 : u_T := fun k => match k with
  | 0 => ("ChipGame$Burning", "round", "[I", true)
  | 1 => ("ChipGame$Burning", "needed", "[I", true)
  | _ => ("ChipGame$Burning", "graph", "LChipGame$Graph;", true)
def tyX0 : Nat → FieldType := fun k => match k with
  | 0 => .array .int
  | 1 => .array .int
  | _ => .object "ChipGame$Graph"
abbrev wsX00 : List Cond := u_ws RX0 TX0 3
theorem nmX0 : ∀ a, a < 3 → ∀ b, b < 3 → a ≠ b → (TX0 a).2.1 ≠ (TX0 b).2.1 := by decide +kernel
theorem tyX0_ok : ∀ k, k < 3 → parseFieldDescriptor (TX0 k).2.2.1 = some (tyX0 k) := by decide +kernel
abbrev cX0_init : ByteArray := prog_2_method_1_code
def yX0_init : MethodName := ⟨RX0, "<init>", "(LChipGame$Graph;)V"⟩
abbrev cX0_hasBurnt : ByteArray := prog_2_method_2_code
def yX0_hasBurnt : MethodName := ⟨RX0, "hasBurnt", "(I)Z"⟩
abbrev cX0_allBurn : ByteArray := prog_2_method_3_code
def yX0_allBurn : MethodName := ⟨RX0, "allBurn", "([I)Z"⟩
abbrev cX0_allBurnBySecondRule : ByteArray := prog_2_method_4_code
def yX0_allBurnBySecondRule : MethodName := ⟨RX0, "allBurnBySecondRule", "([I)Z"⟩
abbrev cX0_spreadFire : ByteArray := prog_2_method_5_code
def yX0_spreadFire : MethodName := ⟨RX0, "spreadFire", "()Z"⟩
abbrev cX0_burnRound : ByteArray := prog_2_method_6_code
def yX0_burnRound : MethodName := ⟨RX0, "burnRound", "(I)I"⟩
abbrev cX0_edgesToBurnt : ByteArray := prog_2_method_7_code
def yX0_edgesToBurnt : MethodName := ⟨RX0, "edgesToBurnt", "(II)I"⟩
def RX1 : String := "ChipGame$Firing"
def TX1 : u_T := fun k => match k with
  | 0 => ("ChipGame$Firing", "times", "[I", true)
  | 1 => ("ChipGame$Firing", "graph", "LChipGame$Graph;", true)
  | _ => ("ChipGame$Firing", "burning", "LChipGame$Burning;", true)
def tyX1 : Nat → FieldType := fun k => match k with
  | 0 => .array .int
  | 1 => .object "ChipGame$Graph"
  | _ => .object "ChipGame$Burning"
abbrev wsX10 : List Cond := u_ws RX1 TX1 3
theorem nmX1 : ∀ a, a < 3 → ∀ b, b < 3 → a ≠ b → (TX1 a).2.1 ≠ (TX1 b).2.1 := by decide +kernel
theorem tyX1_ok : ∀ k, k < 3 → parseFieldDescriptor (TX1 k).2.2.1 = some (tyX1 k) := by decide +kernel
abbrev cX1_init : ByteArray := prog_3_method_1_code
def yX1_init : MethodName := ⟨RX1, "<init>", "(LChipGame$Graph;LChipGame$Burning;)V"⟩
abbrev cX1_canFire : ByteArray := prog_3_method_2_code
def yX1_canFire : MethodName := ⟨RX1, "canFire", "([II)Z"⟩
abbrev cX1_isStable : ByteArray := prog_3_method_3_code
def yX1_isStable : MethodName := ⟨RX1, "isStable", "([I)Z"⟩
abbrev cX1_give : ByteArray := prog_3_method_4_code
def yX1_give : MethodName := ⟨RX1, "give", "([III)V"⟩
abbrev cX1_giveAlong : ByteArray := prog_3_method_5_code
def yX1_giveAlong : MethodName := ⟨RX1, "giveAlong", "([IIII)V"⟩
abbrev cX1_settle : ByteArray := prog_3_method_6_code
def yX1_settle : MethodName := ⟨RX1, "settle", "([I)I"⟩
abbrev cX1_fireWhilePossible : ByteArray := prog_3_method_7_code
def yX1_fireWhilePossible : MethodName := ⟨RX1, "fireWhilePossible", "([II)I"⟩
abbrev cX1_fireSets : ByteArray := prog_3_method_8_code
def yX1_fireSets : MethodName := ⟨RX1, "fireSets", "([I)I"⟩
abbrev cX1_fireUnburnt : ByteArray := prog_3_method_9_code
def yX1_fireUnburnt : MethodName := ⟨RX1, "fireUnburnt", "([I)V"⟩
abbrev cX1_toRecurrent : ByteArray := prog_3_method_10_code
def yX1_toRecurrent : MethodName := ⟨RX1, "toRecurrent", "([I)V"⟩
abbrev cX1_mirror : ByteArray := prog_3_method_11_code
def yX1_mirror : MethodName := ⟨RX1, "mirror", "([I)V"⟩
def RX2 : String := "ChipGame$Graph"
def TX2 : u_T := fun k => match k with
  | 0 => ("ChipGame$Graph", "nodes", "I", false)
  | 1 => ("ChipGame$Graph", "edges", "I", false)
  | 2 => ("ChipGame$Graph", "sink", "I", false)
  | 3 => ("ChipGame$Graph", "first", "[I", true)
  | 4 => ("ChipGame$Graph", "second", "[I", true)
  | 5 => ("ChipGame$Graph", "joining", "[[I", true)
  | 6 => ("ChipGame$Graph", "degrees", "[I", true)
  | _ => ("ChipGame$Graph", "labels", "[I", true)
def tyX2 : Nat → FieldType := fun k => match k with
  | 0 => .int
  | 1 => .int
  | 2 => .int
  | 3 => .array .int
  | 4 => .array .int
  | 5 => .array (.array .int)
  | 6 => .array .int
  | _ => .array .int
abbrev wsX20 : List Cond := u_ws RX2 TX2 8
theorem nmX2 : ∀ a, a < 8 → ∀ b, b < 8 → a ≠ b → (TX2 a).2.1 ≠ (TX2 b).2.1 := by decide +kernel
theorem tyX2_ok : ∀ k, k < 8 → parseFieldDescriptor (TX2 k).2.2.1 = some (tyX2 k) := by decide +kernel
abbrev cX2_init : ByteArray := prog_4_method_1_code
def yX2_init : MethodName := ⟨RX2, "<init>", "()V"⟩
abbrev cX2_clear : ByteArray := prog_4_method_2_code
def yX2_clear : MethodName := ⟨RX2, "clear", "(I)V"⟩
abbrev cX2_hasNode : ByteArray := prog_4_method_3_code
def yX2_hasNode : MethodName := ⟨RX2, "hasNode", "(I)Z"⟩
abbrev cX2_hasChipsAt : ByteArray := prog_4_method_4_code
def yX2_hasChipsAt : MethodName := ⟨RX2, "hasChipsAt", "(I)Z"⟩
abbrev cX2_hasEdge : ByteArray := prog_4_method_5_code
def yX2_hasEdge : MethodName := ⟨RX2, "hasEdge", "(I)Z"⟩
abbrev cX2_degreeOf : ByteArray := prog_4_method_6_code
def yX2_degreeOf : MethodName := ⟨RX2, "degreeOf", "(I)I"⟩
abbrev cX2_append : ByteArray := prog_4_method_7_code
def yX2_append : MethodName := ⟨RX2, "append", "(II)V"⟩
abbrev cX2_drop : ByteArray := prog_4_method_8_code
def yX2_drop : MethodName := ⟨RX2, "drop", "(I)V"⟩
abbrev cX2_countJoining : ByteArray := prog_4_method_9_code
def yX2_countJoining : MethodName := ⟨RX2, "countJoining", "(III)V"⟩
abbrev cX2_edgesAwayFromSink : ByteArray := prog_4_method_10_code
def yX2_edgesAwayFromSink : MethodName := ⟨RX2, "edgesAwayFromSink", "()I"⟩
abbrev cX2_allEdges : ByteArray := prog_4_method_11_code
def yX2_allEdges : MethodName := ⟨RX2, "allEdges", "()I"⟩
abbrev cX2_isConnected : ByteArray := prog_4_method_12_code
def yX2_isConnected : MethodName := ⟨RX2, "isConnected", "()Z"⟩
abbrev cX2_isSpanningTree : ByteArray := prog_4_method_13_code
def yX2_isSpanningTree : MethodName := ⟨RX2, "isSpanningTree", "(I)Z"⟩
abbrev cX2_findParts : ByteArray := prog_4_method_14_code
def yX2_findParts : MethodName := ⟨RX2, "findParts", "(I)I"⟩
abbrev cX2_relabel : ByteArray := prog_4_method_15_code
def yX2_relabel : MethodName := ⟨RX2, "relabel", "(II)V"⟩
def RX3 : String := "ChipGame$History"
def TX3 : u_T := fun k => match k with
  | 0 => ("ChipGame$History", "count", "I", false)
  | 1 => ("ChipGame$History", "oldest", "I", false)
  | _ => ("ChipGame$History", "states", "[[I", true)
def tyX3 : Nat → FieldType := fun k => match k with
  | 0 => .int
  | 1 => .int
  | _ => .array (.array .int)
abbrev wsX30 : List Cond := u_ws RX3 TX3 3
theorem nmX3 : ∀ a, a < 3 → ∀ b, b < 3 → a ≠ b → (TX3 a).2.1 ≠ (TX3 b).2.1 := by decide +kernel
theorem tyX3_ok : ∀ k, k < 3 → parseFieldDescriptor (TX3 k).2.2.1 = some (tyX3 k) := by decide +kernel
abbrev cX3_init : ByteArray := prog_5_method_1_code
def yX3_init : MethodName := ⟨RX3, "<init>", "()V"⟩
abbrev cX3_record : ByteArray := prog_5_method_2_code
def yX3_record : MethodName := ⟨RX3, "record", "([I)V"⟩
abbrev cX3_takeBack : ByteArray := prog_5_method_3_code
def yX3_takeBack : MethodName := ⟨RX3, "takeBack", "([I)V"⟩
abbrev cX3_forgetAll : ByteArray := prog_5_method_4_code
def yX3_forgetAll : MethodName := ⟨RX3, "forgetAll", "()V"⟩
def RX4 : String := "ChipGame$Levels"
def TX4 : u_T := fun k => match k with
  | 0 => ("ChipGame$Levels", "graph", "LChipGame$Graph;", true)
  | 1 => ("ChipGame$Levels", "edgesInside", "[I", true)
  | 2 => ("ChipGame$Levels", "sums", "[[J", true)
  | _ => ("ChipGame$Levels", "counts", "[J", true)
def tyX4 : Nat → FieldType := fun k => match k with
  | 0 => .object "ChipGame$Graph"
  | 1 => .array .int
  | 2 => .array (.array .long)
  | _ => .array .long
abbrev wsX40 : List Cond := u_ws RX4 TX4 4
theorem nmX4 : ∀ a, a < 4 → ∀ b, b < 4 → a ≠ b → (TX4 a).2.1 ≠ (TX4 b).2.1 := by decide +kernel
theorem tyX4_ok : ∀ k, k < 4 → parseFieldDescriptor (TX4 k).2.2.1 = some (tyX4 k) := by decide +kernel
abbrev cX4_init : ByteArray := prog_6_method_1_code
def yX4_init : MethodName := ⟨RX4, "<init>", "(LChipGame$Graph;)V"⟩
abbrev cX4_countAt : ByteArray := prog_6_method_2_code
def yX4_countAt : MethodName := ⟨RX4, "countAt", "(I)J"⟩
abbrev cX4_countEdgesInside : ByteArray := prog_6_method_3_code
def yX4_countEdgesInside : MethodName := ⟨RX4, "countEdgesInside", "()V"⟩
abbrev cX4_sumConnected : ByteArray := prog_6_method_4_code
def yX4_sumConnected : MethodName := ⟨RX4, "sumConnected", "(I)V"⟩
abbrev cX4_subtractShifted : ByteArray := prog_6_method_5_code
def yX4_subtractShifted : MethodName := ⟨RX4, "subtractShifted", "([J[JI)V"⟩
abbrev cX4_divideByYMinusOne : ByteArray := prog_6_method_6_code
def yX4_divideByYMinusOne : MethodName := ⟨RX4, "divideByYMinusOne", "()V"⟩
def RX5 : String := "ChipGame$Matrix"
def TX5 : u_T := fun k => match k with
  | 0 => ("ChipGame$Matrix", "factors", "[J", true)
  | 1 => ("ChipGame$Matrix", "factorCount", "I", false)
  | 2 => ("ChipGame$Matrix", "graph", "LChipGame$Graph;", true)
  | 3 => ("ChipGame$Matrix", "cells", "[[J", true)
  | _ => ("ChipGame$Matrix", "size", "I", false)
def tyX5 : Nat → FieldType := fun k => match k with
  | 0 => .array .long
  | 1 => .int
  | 2 => .object "ChipGame$Graph"
  | 3 => .array (.array .long)
  | _ => .int
abbrev wsX50 : List Cond := u_ws RX5 TX5 5
theorem nmX5 : ∀ a, a < 5 → ∀ b, b < 5 → a ≠ b → (TX5 a).2.1 ≠ (TX5 b).2.1 := by decide +kernel
theorem tyX5_ok : ∀ k, k < 5 → parseFieldDescriptor (TX5 k).2.2.1 = some (tyX5 k) := by decide +kernel
abbrev cX5_init : ByteArray := prog_7_method_1_code
def yX5_init : MethodName := ⟨RX5, "<init>", "(LChipGame$Graph;)V"⟩
abbrev cX5_fill : ByteArray := prog_7_method_2_code
def yX5_fill : MethodName := ⟨RX5, "fill", "(I)V"⟩
abbrev cX5_fillEdge : ByteArray := prog_7_method_3_code
def yX5_fillEdge : MethodName := ⟨RX5, "fillEdge", "(II)V"⟩
abbrev cX5_isFree : ByteArray := prog_7_method_4_code
def yX5_isFree : MethodName := ⟨RX5, "isFree", "(I)Z"⟩
abbrev cX5_fillWhole : ByteArray := prog_7_method_5_code
def yX5_fillWhole : MethodName := ⟨RX5, "fillWhole", "()V"⟩
abbrev cX5_eliminate : ByteArray := prog_7_method_6_code
def yX5_eliminate : MethodName := ⟨RX5, "eliminate", "()J"⟩
abbrev cX5_combineRows : ByteArray := prog_7_method_7_code
def yX5_combineRows : MethodName := ⟨RX5, "combineRows", "(IIJ)V"⟩
abbrev cX5_orderOf : ByteArray := prog_7_method_8_code
def yX5_orderOf : MethodName := ⟨RX5, "orderOf", "([I)J"⟩
abbrev cX5_findFactors : ByteArray := prog_7_method_9_code
def yX5_findFactors : MethodName := ⟨RX5, "findFactors", "()V"⟩
abbrev cX5_clearAround : ByteArray := prog_7_method_10_code
def yX5_clearAround : MethodName := ⟨RX5, "clearAround", "(IJ)V"⟩
abbrev cX5_bringLeastToCorner : ByteArray := prog_7_method_11_code
def yX5_bringLeastToCorner : MethodName := ⟨RX5, "bringLeastToCorner", "(I)Z"⟩
abbrev cX5_swapRows : ByteArray := prog_7_method_12_code
def yX5_swapRows : MethodName := ⟨RX5, "swapRows", "(II)V"⟩
abbrev cX5_swapColumns : ByteArray := prog_7_method_13_code
def yX5_swapColumns : MethodName := ⟨RX5, "swapColumns", "(II)V"⟩
abbrev cX5_clearColumn : ByteArray := prog_7_method_14_code
def yX5_clearColumn : MethodName := ⟨RX5, "clearColumn", "(IJ)Z"⟩
abbrev cX5_clearRow : ByteArray := prog_7_method_15_code
def yX5_clearRow : MethodName := ⟨RX5, "clearRow", "(IJ)Z"⟩
abbrev cX5_addRow : ByteArray := prog_7_method_16_code
def yX5_addRow : MethodName := ⟨RX5, "addRow", "(IIJJ)V"⟩
abbrev cX5_addColumn : ByteArray := prog_7_method_17_code
def yX5_addColumn : MethodName := ⟨RX5, "addColumn", "(IIJJ)V"⟩
abbrev cX5_addUndividedRow : ByteArray := prog_7_method_18_code
def yX5_addUndividedRow : MethodName := ⟨RX5, "addUndividedRow", "(IJ)Z"⟩
abbrev cX5_commonDivisor : ByteArray := prog_7_method_19_code
def yX5_commonDivisor : MethodName := ⟨RX5, "commonDivisor", "(JJ)J"⟩
def RX6 : String := "ChipGame$Shapes"
def TX6 : u_T := fun k => match k with
  | _ => ("", "", "", false)
def tyX6 : Nat → FieldType := fun k => match k with
  | _ => .int
abbrev wsX60 : List Cond := u_ws RX6 TX6 0
theorem nmX6 : ∀ a, a < 0 → ∀ b, b < 0 → a ≠ b → (TX6 a).2.1 ≠ (TX6 b).2.1 := by decide +kernel
theorem tyX6_ok : ∀ k, k < 0 → parseFieldDescriptor (TX6 k).2.2.1 = some (tyX6 k) := by decide +kernel
abbrev cX6_nameOf : ByteArray := prog_8_method_2_code
def yX6_nameOf : MethodName := ⟨RX6, "nameOf", "(I)Ljava/lang/String;"⟩
abbrev cX6_allows : ByteArray := prog_8_method_3_code
def yX6_allows : MethodName := ⟨RX6, "allows", "(II)Z"⟩
abbrev cX6_draw : ByteArray := prog_8_method_4_code
def yX6_draw : MethodName := ⟨RX6, "draw", "(LChipGame$Graph;II)V"⟩
abbrev cX6_drawPath : ByteArray := prog_8_method_5_code
def yX6_drawPath : MethodName := ⟨RX6, "drawPath", "(LChipGame$Graph;II)V"⟩
abbrev cX6_drawRays : ByteArray := prog_8_method_6_code
def yX6_drawRays : MethodName := ⟨RX6, "drawRays", "(LChipGame$Graph;II)V"⟩
def RX7 : String := "ChipGame$Slots"
def TX7 : u_T := fun k => match k with
  | 0 => ("ChipGame$Slots", "taken", "[Z", true)
  | _ => ("ChipGame$Slots", "states", "[[I", true)
def tyX7 : Nat → FieldType := fun k => match k with
  | 0 => .array .boolean
  | _ => .array (.array .int)
abbrev wsX70 : List Cond := u_ws RX7 TX7 2
theorem nmX7 : ∀ a, a < 2 → ∀ b, b < 2 → a ≠ b → (TX7 a).2.1 ≠ (TX7 b).2.1 := by decide +kernel
theorem tyX7_ok : ∀ k, k < 2 → parseFieldDescriptor (TX7 k).2.2.1 = some (tyX7 k) := by decide +kernel
abbrev cX7_init : ByteArray := prog_9_method_1_code
def yX7_init : MethodName := ⟨RX7, "<init>", "()V"⟩
abbrev cX7_has : ByteArray := prog_9_method_2_code
def yX7_has : MethodName := ⟨RX7, "has", "(I)Z"⟩
abbrev cX7_isEmpty : ByteArray := prog_9_method_3_code
def yX7_isEmpty : MethodName := ⟨RX7, "isEmpty", "(I)Z"⟩
abbrev cX7_put : ByteArray := prog_9_method_4_code
def yX7_put : MethodName := ⟨RX7, "put", "(I[I)V"⟩
abbrev cX7_copyTo : ByteArray := prog_9_method_5_code
def yX7_copyTo : MethodName := ⟨RX7, "copyTo", "(I[I)V"⟩
abbrev cX7_forgetAll : ByteArray := prog_9_method_6_code
def yX7_forgetAll : MethodName := ⟨RX7, "forgetAll", "()V"⟩
def RX8 : String := "ChipGame$Text"
def TX8 : u_T := fun k => match k with
  | 0 => ("ChipGame$Text", "length", "I", false)
  | _ => ("ChipGame$Text", "signs", "[C", true)
def tyX8 : Nat → FieldType := fun k => match k with
  | 0 => .int
  | _ => .array .char
abbrev wsX80 : List Cond := u_ws RX8 TX8 2
theorem nmX8 : ∀ a, a < 2 → ∀ b, b < 2 → a ≠ b → (TX8 a).2.1 ≠ (TX8 b).2.1 := by decide +kernel
theorem tyX8_ok : ∀ k, k < 2 → parseFieldDescriptor (TX8 k).2.2.1 = some (tyX8 k) := by decide +kernel
abbrev cX8_init : ByteArray := prog_10_method_1_code
def yX8_init : MethodName := ⟨RX8, "<init>", "()V"⟩
abbrev cX8_append : ByteArray := prog_10_method_2_code
def yX8_append : MethodName := ⟨RX8, "append", "(C)V"⟩
abbrev cX8_findShape : ByteArray := prog_10_method_3_code
def yX8_findShape : MethodName := ⟨RX8, "findShape", "()I"⟩
abbrev cX8_isNameAndSign : ByteArray := prog_10_method_4_code
def yX8_isNameAndSign : MethodName := ⟨RX8, "isNameAndSign", "(Ljava/lang/String;)Z"⟩
abbrev cX8_lastDigit : ByteArray := prog_10_method_5_code
def yX8_lastDigit : MethodName := ⟨RX8, "lastDigit", "()I"⟩
def RX9 : String := "ChipGame$Trees"
def TX9 : u_T := fun k => match k with
  | 0 => ("ChipGame$Trees", "graph", "LChipGame$Graph;", true)
  | 1 => ("ChipGame$Trees", "matrix", "LChipGame$Matrix;", true)
  | _ => ("ChipGame$Trees", "used", "[I", true)
def tyX9 : Nat → FieldType := fun k => match k with
  | 0 => .object "ChipGame$Graph"
  | 1 => .object "ChipGame$Matrix"
  | _ => .array .int
abbrev wsX90 : List Cond := u_ws RX9 TX9 3
theorem nmX9 : ∀ a, a < 3 → ∀ b, b < 3 → a ≠ b → (TX9 a).2.1 ≠ (TX9 b).2.1 := by decide +kernel
theorem tyX9_ok : ∀ k, k < 3 → parseFieldDescriptor (TX9 k).2.2.1 = some (tyX9 k) := by decide +kernel
abbrev cX9_init : ByteArray := prog_11_method_1_code
def yX9_init : MethodName := ⟨RX9, "<init>", "(LChipGame$Graph;LChipGame$Matrix;)V"⟩
abbrev cX9_count : ByteArray := prog_11_method_2_code
def yX9_count : MethodName := ⟨RX9, "count", "(II)J"⟩
abbrev cX9_treeNumbered : ByteArray := prog_11_method_3_code
def yX9_treeNumbered : MethodName := ⟨RX9, "treeNumbered", "(I)I"⟩
abbrev cX9_treeOf : ByteArray := prog_11_method_4_code
def yX9_treeOf : MethodName := ⟨RX9, "treeOf", "([I)I"⟩
abbrev cX9_toStateOf : ByteArray := prog_11_method_5_code
def yX9_toStateOf : MethodName := ⟨RX9, "toStateOf", "(I[I)V"⟩
abbrev cX9_lowestBorderEdge : ByteArray := prog_11_method_6_code
def yX9_lowestBorderEdge : MethodName := ⟨RX9, "lowestBorderEdge", "(II)I"⟩
abbrev cX9_unmarkedEnd : ByteArray := prog_11_method_7_code
def yX9_unmarkedEnd : MethodName := ⟨RX9, "unmarkedEnd", "(II)I"⟩
abbrev cX9_isIn : ByteArray := prog_11_method_8_code
def yX9_isIn : MethodName := ⟨RX9, "isIn", "(II)Z"⟩
def RX10 : String := "ChipGame"
def TX10 : u_T := fun k => match k with
  | 0 => ("ChipGame", "graph", "LChipGame$Graph;", true)
  | 1 => ("ChipGame", "text", "LChipGame$Text;", true)
  | 2 => ("ChipGame", "history", "LChipGame$History;", true)
  | 3 => ("ChipGame", "slots", "LChipGame$Slots;", true)
  | 4 => ("ChipGame", "burning", "LChipGame$Burning;", true)
  | 5 => ("ChipGame", "firing", "LChipGame$Firing;", true)
  | 6 => ("ChipGame", "matrix", "LChipGame$Matrix;", true)
  | 7 => ("ChipGame", "trees", "LChipGame$Trees;", true)
  | 8 => ("ChipGame", "levels", "LChipGame$Levels;", true)
  | 9 => ("ChipGame", "state", "[I", true)
  | 10 => ("ChipGame", "copy", "[I", true)
  | _ => ("ChipGame", "otherCopy", "[I", true)
def tyX10 : Nat → FieldType := fun k => match k with
  | 0 => .object "ChipGame$Graph"
  | 1 => .object "ChipGame$Text"
  | 2 => .object "ChipGame$History"
  | 3 => .object "ChipGame$Slots"
  | 4 => .object "ChipGame$Burning"
  | 5 => .object "ChipGame$Firing"
  | 6 => .object "ChipGame$Matrix"
  | 7 => .object "ChipGame$Trees"
  | 8 => .object "ChipGame$Levels"
  | 9 => .array .int
  | 10 => .array .int
  | _ => .array .int
abbrev wsX100 : List Cond := u_ws RX10 TX10 12
theorem nmX10 : ∀ a, a < 12 → ∀ b, b < 12 → a ≠ b → (TX10 a).2.1 ≠ (TX10 b).2.1 := by decide +kernel
theorem tyX10_ok : ∀ k, k < 12 → parseFieldDescriptor (TX10 k).2.2.1 = some (tyX10 k) := by decide +kernel
abbrev cX10_init : ByteArray := prog_1_method_1_code
def yX10_init : MethodName := ⟨RX10, "<init>", "()V"⟩
abbrev cX10_reset : ByteArray := prog_1_method_2_code
def yX10_reset : MethodName := ⟨RX10, "reset", "(I)I"⟩
abbrev cX10_addEdge : ByteArray := prog_1_method_3_code
def yX10_addEdge : MethodName := ⟨RX10, "addEdge", "(II)I"⟩
abbrev cX10_removeEdge : ByteArray := prog_1_method_4_code
def yX10_removeEdge : MethodName := ⟨RX10, "removeEdge", "(I)I"⟩
abbrev cX10_setSink : ByteArray := prog_1_method_5_code
def yX10_setSink : MethodName := ⟨RX10, "setSink", "(I)I"⟩
abbrev cX10_type : ByteArray := prog_1_method_6_code
def yX10_type : MethodName := ⟨RX10, "type", "(C)I"⟩
abbrev cX10_clearText : ByteArray := prog_1_method_7_code
def yX10_clearText : MethodName := ⟨RX10, "clearText", "()I"⟩
abbrev cX10_readGraph : ByteArray := prog_1_method_8_code
def yX10_readGraph : MethodName := ⟨RX10, "readGraph", "()I"⟩
abbrev cX10_value : ByteArray := prog_1_method_9_code
def yX10_value : MethodName := ⟨RX10, "value", "(I)I"⟩
abbrev cX10_degree : ByteArray := prog_1_method_10_code
def yX10_degree : MethodName := ⟨RX10, "degree", "(I)I"⟩
abbrev cX10_edge : ByteArray := prog_1_method_11_code
def yX10_edge : MethodName := ⟨RX10, "edge", "(IZ)I"⟩
abbrev cX10_setChips : ByteArray := prog_1_method_12_code
def yX10_setChips : MethodName := ⟨RX10, "setChips", "(II)I"⟩
abbrev cX10_chips : ByteArray := prog_1_method_13_code
def yX10_chips : MethodName := ⟨RX10, "chips", "(I)I"⟩
abbrev cX10_fire : ByteArray := prog_1_method_14_code
def yX10_fire : MethodName := ⟨RX10, "fire", "(I)I"⟩
abbrev cX10_stabilize : ByteArray := prog_1_method_15_code
def yX10_stabilize : MethodName := ⟨RX10, "stabilize", "()I"⟩
abbrev cX10_firings : ByteArray := prog_1_method_16_code
def yX10_firings : MethodName := ⟨RX10, "firings", "(I)I"⟩
abbrev cX10_reduce : ByteArray := prog_1_method_17_code
def yX10_reduce : MethodName := ⟨RX10, "reduce", "()I"⟩
abbrev cX10_makeRecurrent : ByteArray := prog_1_method_18_code
def yX10_makeRecurrent : MethodName := ⟨RX10, "makeRecurrent", "()I"⟩
abbrev cX10_kind : ByteArray := prog_1_method_19_code
def yX10_kind : MethodName := ⟨RX10, "kind", "()I"⟩
abbrev cX10_burnt : ByteArray := prog_1_method_20_code
def yX10_burnt : MethodName := ⟨RX10, "burnt", "(I)I"⟩
abbrev cX10_undo : ByteArray := prog_1_method_21_code
def yX10_undo : MethodName := ⟨RX10, "undo", "()I"⟩
abbrev cX10_keep : ByteArray := prog_1_method_22_code
def yX10_keep : MethodName := ⟨RX10, "keep", "(I)I"⟩
abbrev cX10_load : ByteArray := prog_1_method_23_code
def yX10_load : MethodName := ⟨RX10, "load", "(I)I"⟩
abbrev cX10_add : ByteArray := prog_1_method_24_code
def yX10_add : MethodName := ⟨RX10, "add", "(I)I"⟩
abbrev cX10_isSameClass : ByteArray := prog_1_method_25_code
def yX10_isSameClass : MethodName := ⟨RX10, "isSameClass", "(I)I"⟩
abbrev cX10_treeCount : ByteArray := prog_1_method_26_code
def yX10_treeCount : MethodName := ⟨RX10, "treeCount", "()J"⟩
abbrev cX10_identity : ByteArray := prog_1_method_27_code
def yX10_identity : MethodName := ⟨RX10, "identity", "(I)I"⟩
abbrev cX10_order : ByteArray := prog_1_method_28_code
def yX10_order : MethodName := ⟨RX10, "order", "()I"⟩
abbrev cX10_factor : ByteArray := prog_1_method_29_code
def yX10_factor : MethodName := ⟨RX10, "factor", "(I)J"⟩
abbrev cX10_level : ByteArray := prog_1_method_30_code
def yX10_level : MethodName := ⟨RX10, "level", "()I"⟩
abbrev cX10_levelCount : ByteArray := prog_1_method_31_code
def yX10_levelCount : MethodName := ⟨RX10, "levelCount", "(I)I"⟩
abbrev cX10_tree : ByteArray := prog_1_method_32_code
def yX10_tree : MethodName := ⟨RX10, "tree", "()I"⟩
abbrev cX10_takeTree : ByteArray := prog_1_method_33_code
def yX10_takeTree : MethodName := ⟨RX10, "takeTree", "(I)I"⟩
abbrev cX10_treeAt : ByteArray := prog_1_method_34_code
def yX10_treeAt : MethodName := ⟨RX10, "treeAt", "(I)I"⟩
abbrev cX10_startAnew : ByteArray := prog_1_method_35_code
def yX10_startAnew : MethodName := ⟨RX10, "startAnew", "(I)V"⟩
abbrev cX10_forgetStates : ByteArray := prog_1_method_36_code
def yX10_forgetStates : MethodName := ⟨RX10, "forgetStates", "()V"⟩
abbrev cX10_isRecurrent : ByteArray := prog_1_method_37_code
def yX10_isRecurrent : MethodName := ⟨RX10, "isRecurrent", "()Z"⟩
abbrev cX10_sumOf : ByteArray := prog_1_method_38_code
def yX10_sumOf : MethodName := ⟨RX10, "sumOf", "([I)I"⟩
abbrev cX10_clearChips : ByteArray := prog_1_method_39_code
def yX10_clearChips : MethodName := ⟨RX10, "clearChips", "([I)V"⟩
abbrev cX10_copyChips : ByteArray := prog_1_method_40_code
def yX10_copyChips : MethodName := ⟨RX10, "copyChips", "([I[I)V"⟩
abbrev cX10_isEqual : ByteArray := prog_1_method_41_code
def yX10_isEqual : MethodName := ⟨RX10, "isEqual", "([I[I)Z"⟩
def RX11 : String := "ChipGameModel"
def TX11 : u_T := fun k => match k with
  | 0 => ("ChipGameModel", "n", "I", false)
  | 1 => ("ChipGameModel", "m", "I", false)
  | 2 => ("ChipGameModel", "sink", "I", false)
  | 3 => ("ChipGameModel", "one", "[I", true)
  | 4 => ("ChipGameModel", "other", "[I", true)
  | 5 => ("ChipGameModel", "joins", "[I", true)
  | 6 => ("ChipGameModel", "degreeOf", "[I", true)
  | 7 => ("ChipGameModel", "chip", "[I", true)
  | 8 => ("ChipGameModel", "typed", "I", false)
  | 9 => ("ChipGameModel", "text", "[C", true)
  | 10 => ("ChipGameModel", "round", "[I", true)
  | 11 => ("ChipGameModel", "kept", "I", false)
  | 12 => ("ChipGameModel", "keptChips", "[I", true)
  | 13 => ("ChipGameModel", "isKept", "[Z", true)
  | 14 => ("ChipGameModel", "slotChips", "[I", true)
  | 15 => ("ChipGameModel", "fired", "[I", true)
  | 16 => ("ChipGameModel", "work", "[I", true)
  | 17 => ("ChipGameModel", "zero", "[I", true)
  | 18 => ("ChipGameModel", "first", "[I", true)
  | 19 => ("ChipGameModel", "added", "[I", true)
  | 20 => ("ChipGameModel", "matrix", "[J", true)
  | 21 => ("ChipGameModel", "isCounted", "Z", false)
  | 22 => ("ChipGameModel", "levels", "[I", true)
  | _ => ("ChipGameModel", "usedAt", "[I", true)
def tyX11 : Nat → FieldType := fun k => match k with
  | 0 => .int
  | 1 => .int
  | 2 => .int
  | 3 => .array .int
  | 4 => .array .int
  | 5 => .array .int
  | 6 => .array .int
  | 7 => .array .int
  | 8 => .int
  | 9 => .array .char
  | 10 => .array .int
  | 11 => .int
  | 12 => .array .int
  | 13 => .array .boolean
  | 14 => .array .int
  | 15 => .array .int
  | 16 => .array .int
  | 17 => .array .int
  | 18 => .array .int
  | 19 => .array .int
  | 20 => .array .long
  | 21 => .boolean
  | 22 => .array .int
  | _ => .array .int
abbrev wsX110 : List Cond := u_ws RX11 TX11 24
theorem nmX11 : ∀ a, a < 24 → ∀ b, b < 24 → a ≠ b → (TX11 a).2.1 ≠ (TX11 b).2.1 := by decide +kernel
theorem tyX11_ok : ∀ k, k < 24 → parseFieldDescriptor (TX11 k).2.2.1 = some (tyX11 k) := by decide +kernel
abbrev cX11_init : ByteArray := prog_13_method_1_code
def yX11_init : MethodName := ⟨RX11, "<init>", "()V"⟩
abbrev cX11_in : ByteArray := prog_13_method_2_code
def yX11_in : MethodName := ⟨RX11, "in", "(III)Z"⟩
abbrev cX11_lost : ByteArray := prog_13_method_3_code
def yX11_lost : MethodName := ⟨RX11, "lost", "()J"⟩
abbrev cX11_begin : ByteArray := prog_13_method_4_code
def yX11_begin : MethodName := ⟨RX11, "begin", "(I)V"⟩
abbrev cX11_changed : ByteArray := prog_13_method_5_code
def yX11_changed : MethodName := ⟨RX11, "changed", "()V"⟩
abbrev cX11_join : ByteArray := prog_13_method_6_code
def yX11_join : MethodName := ⟨RX11, "join", "(II)V"⟩
abbrev cX11_reset : ByteArray := prog_13_method_7_code
def yX11_reset : MethodName := ⟨RX11, "reset", "(I)I"⟩
abbrev cX11_isNode : ByteArray := prog_13_method_8_code
def yX11_isNode : MethodName := ⟨RX11, "isNode", "(I)Z"⟩
abbrev cX11_hasChips : ByteArray := prog_13_method_9_code
def yX11_hasChips : MethodName := ⟨RX11, "hasChips", "(I)Z"⟩
abbrev cX11_addEdge : ByteArray := prog_13_method_10_code
def yX11_addEdge : MethodName := ⟨RX11, "addEdge", "(II)I"⟩
abbrev cX11_removeEdge : ByteArray := prog_13_method_11_code
def yX11_removeEdge : MethodName := ⟨RX11, "removeEdge", "(I)I"⟩
abbrev cX11_setSink : ByteArray := prog_13_method_12_code
def yX11_setSink : MethodName := ⟨RX11, "setSink", "(I)I"⟩
abbrev cX11_type : ByteArray := prog_13_method_13_code
def yX11_type : MethodName := ⟨RX11, "type", "(C)I"⟩
abbrev cX11_clearText : ByteArray := prog_13_method_14_code
def yX11_clearText : MethodName := ⟨RX11, "clearText", "()I"⟩
abbrev cX11_isAt : ByteArray := prog_13_method_15_code
def yX11_isAt : MethodName := ⟨RX11, "isAt", "(IC)Z"⟩
abbrev cX11_begins : ByteArray := prog_13_method_16_code
def yX11_begins : MethodName := ⟨RX11, "begins", "(CCCC)Z"⟩
abbrev cX11_isNamed : ByteArray := prog_13_method_17_code
def yX11_isNamed : MethodName := ⟨RX11, "isNamed", "(I)Z"⟩
abbrev cX11_readGraph : ByteArray := prog_13_method_18_code
def yX11_readGraph : MethodName := ⟨RX11, "readGraph", "()I"⟩
abbrev cX11_isConnected : ByteArray := prog_13_method_19_code
def yX11_isConnected : MethodName := ⟨RX11, "isConnected", "()Z"⟩
abbrev cX11_inner : ByteArray := prog_13_method_20_code
def yX11_inner : MethodName := ⟨RX11, "inner", "()I"⟩
abbrev cX11_sum : ByteArray := prog_13_method_21_code
def yX11_sum : MethodName := ⟨RX11, "sum", "()I"⟩
abbrev cX11_value : ByteArray := prog_13_method_22_code
def yX11_value : MethodName := ⟨RX11, "value", "(I)I"⟩
abbrev cX11_degree : ByteArray := prog_13_method_23_code
def yX11_degree : MethodName := ⟨RX11, "degree", "(I)I"⟩
abbrev cX11_edge : ByteArray := prog_13_method_24_code
def yX11_edge : MethodName := ⟨RX11, "edge", "(IZ)I"⟩
abbrev cX11_keepState : ByteArray := prog_13_method_25_code
def yX11_keepState : MethodName := ⟨RX11, "keepState", "()V"⟩
abbrev cX11_undo : ByteArray := prog_13_method_26_code
def yX11_undo : MethodName := ⟨RX11, "undo", "()I"⟩
abbrev cX11_setChips : ByteArray := prog_13_method_27_code
def yX11_setChips : MethodName := ⟨RX11, "setChips", "(II)I"⟩
abbrev cX11_chips : ByteArray := prog_13_method_28_code
def yX11_chips : MethodName := ⟨RX11, "chips", "(I)I"⟩
abbrev cX11_canFire : ByteArray := prog_13_method_29_code
def yX11_canFire : MethodName := ⟨RX11, "canFire", "([II)Z"⟩
abbrev cX11_fireTimes : ByteArray := prog_13_method_30_code
def yX11_fireTimes : MethodName := ⟨RX11, "fireTimes", "([III)V"⟩
abbrev cX11_fire : ByteArray := prog_13_method_31_code
def yX11_fire : MethodName := ⟨RX11, "fire", "(I)I"⟩
abbrev cX11_settle : ByteArray := prog_13_method_32_code
def yX11_settle : MethodName := ⟨RX11, "settle", "([I)I"⟩
abbrev cX11_copy : ByteArray := prog_13_method_33_code
def yX11_copy : MethodName := ⟨RX11, "copy", "([I[I)V"⟩
abbrev cX11_stabilize : ByteArray := prog_13_method_34_code
def yX11_stabilize : MethodName := ⟨RX11, "stabilize", "()I"⟩
abbrev cX11_firings : ByteArray := prog_13_method_35_code
def yX11_firings : MethodName := ⟨RX11, "firings", "(I)I"⟩
abbrev cX11_burn : ByteArray := prog_13_method_36_code
def yX11_burn : MethodName := ⟨RX11, "burn", "([IZ)V"⟩
abbrev cX11_allBurn : ByteArray := prog_13_method_37_code
def yX11_allBurn : MethodName := ⟨RX11, "allBurn", "()Z"⟩
abbrev cX11_isStable : ByteArray := prog_13_method_38_code
def yX11_isStable : MethodName := ⟨RX11, "isStable", "([I)Z"⟩
abbrev cX11_isRecurrent : ByteArray := prog_13_method_39_code
def yX11_isRecurrent : MethodName := ⟨RX11, "isRecurrent", "([I)Z"⟩
abbrev cX11_isSuperstable : ByteArray := prog_13_method_40_code
def yX11_isSuperstable : MethodName := ⟨RX11, "isSuperstable", "([I)Z"⟩
abbrev cX11_fireSet : ByteArray := prog_13_method_41_code
def yX11_fireSet : MethodName := ⟨RX11, "fireSet", "([I)V"⟩
abbrev cX11_lower : ByteArray := prog_13_method_42_code
def yX11_lower : MethodName := ⟨RX11, "lower", "([I)I"⟩
abbrev cX11_raise : ByteArray := prog_13_method_43_code
def yX11_raise : MethodName := ⟨RX11, "raise", "([I)V"⟩
abbrev cX11_reduce : ByteArray := prog_13_method_44_code
def yX11_reduce : MethodName := ⟨RX11, "reduce", "()I"⟩
abbrev cX11_areSame : ByteArray := prog_13_method_45_code
def yX11_areSame : MethodName := ⟨RX11, "areSame", "([I[I)Z"⟩
abbrev cX11_makeRecurrent : ByteArray := prog_13_method_46_code
def yX11_makeRecurrent : MethodName := ⟨RX11, "makeRecurrent", "()I"⟩
abbrev cX11_kind : ByteArray := prog_13_method_47_code
def yX11_kind : MethodName := ⟨RX11, "kind", "()I"⟩
abbrev cX11_burnt : ByteArray := prog_13_method_48_code
def yX11_burnt : MethodName := ⟨RX11, "burnt", "(I)I"⟩
abbrev cX11_noSlot : ByteArray := prog_13_method_49_code
def yX11_noSlot : MethodName := ⟨RX11, "noSlot", "(I)Z"⟩
abbrev cX11_keep : ByteArray := prog_13_method_50_code
def yX11_keep : MethodName := ⟨RX11, "keep", "(I)I"⟩
abbrev cX11_load : ByteArray := prog_13_method_51_code
def yX11_load : MethodName := ⟨RX11, "load", "(I)I"⟩
abbrev cX11_add : ByteArray := prog_13_method_52_code
def yX11_add : MethodName := ⟨RX11, "add", "(I)I"⟩
abbrev cX11_isSameClass : ByteArray := prog_13_method_53_code
def yX11_isSameClass : MethodName := ⟨RX11, "isSameClass", "(I)I"⟩
abbrev cX11_layMatrix : ByteArray := prog_13_method_54_code
def yX11_layMatrix : MethodName := ⟨RX11, "layMatrix", "()V"⟩
abbrev cX11_size : ByteArray := prog_13_method_55_code
def yX11_size : MethodName := ⟨RX11, "size", "(J)J"⟩
abbrev cX11_swap : ByteArray := prog_13_method_56_code
def yX11_swap : MethodName := ⟨RX11, "swap", "(IIZ)V"⟩
abbrev cX11_lessen : ByteArray := prog_13_method_57_code
def yX11_lessen : MethodName := ⟨RX11, "lessen", "(IIJZ)V"⟩
abbrev cX11_bringLeast : ByteArray := prog_13_method_58_code
def yX11_bringLeast : MethodName := ⟨RX11, "bringLeast", "(II)Z"⟩
abbrev cX11_isDone : ByteArray := prog_13_method_59_code
def yX11_isDone : MethodName := ⟨RX11, "isDone", "(II)Z"⟩
abbrev cX11_smith : ByteArray := prog_13_method_60_code
def yX11_smith : MethodName := ⟨RX11, "smith", "()V"⟩
abbrev cX11_treeCount : ByteArray := prog_13_method_61_code
def yX11_treeCount : MethodName := ⟨RX11, "treeCount", "()J"⟩
abbrev cX11_factor : ByteArray := prog_13_method_62_code
def yX11_factor : MethodName := ⟨RX11, "factor", "(I)J"⟩
abbrev cX11_identity : ByteArray := prog_13_method_63_code
def yX11_identity : MethodName := ⟨RX11, "identity", "(I)I"⟩
abbrev cX11_order : ByteArray := prog_13_method_64_code
def yX11_order : MethodName := ⟨RX11, "order", "()I"⟩
abbrev cX11_isEmpty : ByteArray := prog_13_method_65_code
def yX11_isEmpty : MethodName := ⟨RX11, "isEmpty", "([I)Z"⟩
abbrev cX11_level : ByteArray := prog_13_method_66_code
def yX11_level : MethodName := ⟨RX11, "level", "()I"⟩
abbrev cX11_countLevels : ByteArray := prog_13_method_67_code
def yX11_countLevels : MethodName := ⟨RX11, "countLevels", "()V"⟩
abbrev cX11_levelCount : ByteArray := prog_13_method_68_code
def yX11_levelCount : MethodName := ⟨RX11, "levelCount", "(I)I"⟩
abbrev cX11_follow : ByteArray := prog_13_method_69_code
def yX11_follow : MethodName := ⟨RX11, "follow", "(I)I"⟩
abbrev cX11_tree : ByteArray := prog_13_method_70_code
def yX11_tree : MethodName := ⟨RX11, "tree", "()I"⟩
abbrev cX11_bits : ByteArray := prog_13_method_71_code
def yX11_bits : MethodName := ⟨RX11, "bits", "(I)I"⟩
abbrev cX11_isTree : ByteArray := prog_13_method_72_code
def yX11_isTree : MethodName := ⟨RX11, "isTree", "(I)Z"⟩
abbrev cX11_takeTree : ByteArray := prog_13_method_73_code
def yX11_takeTree : MethodName := ⟨RX11, "takeTree", "(I)I"⟩
abbrev cX11_treeAt : ByteArray := prog_13_method_74_code
def yX11_treeAt : MethodName := ⟨RX11, "treeAt", "(I)I"⟩
def RJ6 : String := "java/lang/Integer"
def TJ6 : u_T := fun k => match k with
  | _ => ("", "", "", false)
def tyJ6 : Nat → FieldType := fun k => match k with
  | _ => .int
abbrev wsJ60 : List Cond := u_ws RJ6 TJ6 0
abbrev cJ6_bitCount_0f7a4 : ByteArray := prog_14_method_49_code
def yJ6_bitCount_0f7a4 : MethodName := ⟨RJ6, "bitCount", "(I)I"⟩
def RJ9 : String := "java/lang/Math"
def TJ9 : u_T := fun k => match k with
  | _ => ("", "", "", false)
def tyJ9 : Nat → FieldType := fun k => match k with
  | _ => .int
abbrev wsJ90 : List Cond := u_ws RJ9 TJ9 0
abbrev cJ9_floorMod_f86c9 : ByteArray := prog_15_method_52_code
def yJ9_floorMod_f86c9 : MethodName := ⟨RJ9, "floorMod", "(JJ)J"⟩
abbrev cJ9_abs_067f4 : ByteArray := prog_15_method_61_code
def yJ9_abs_067f4 : MethodName := ⟨RJ9, "abs", "(J)J"⟩
def RJ0 : String := "java/lang/String"
def TJ0 : u_T := fun k => match k with
  | _ => ("", "", "", false)
def tyJ0 : Nat → FieldType := fun k => match k with
  | _ => .int
abbrev wsJ00 : List Cond := u_ws RJ0 TJ0 0
abbrev cJ0_length_8abf5 : ByteArray := prog_16_method_54_code
def yJ0_length_8abf5 : MethodName := ⟨RJ0, "length", "()I"⟩
abbrev cJ0_charAt_5068e : ByteArray := prog_16_method_56_code
def yJ0_charAt_5068e : MethodName := ⟨RJ0, "charAt", "(I)C"⟩
abbrev cJ0_coder_7d493 : ByteArray := prog_16_method_152_code
def yJ0_coder_7d493 : MethodName := ⟨RJ0, "coder", "()B"⟩
abbrev cJ0_isLatin1_aae02 : ByteArray := prog_16_method_154_code
def yJ0_isLatin1_aae02 : MethodName := ⟨RJ0, "isLatin1", "()Z"⟩
abbrev cJ0_checkIndex_df160 : ByteArray := prog_16_method_155_code
def yJ0_checkIndex_df160 : MethodName := ⟨RJ0, "checkIndex", "(II)V"⟩
def RJ1 : String := "java/lang/StringLatin1"
def TJ1 : u_T := fun k => match k with
  | _ => ("", "", "", false)
def tyJ1 : Nat → FieldType := fun k => match k with
  | _ => .int
abbrev wsJ10 : List Cond := u_ws RJ1 TJ1 0
abbrev cJ1_charAt_3b067 : ByteArray := prog_17_method_2_code
def yJ1_charAt_3b067 : MethodName := ⟨RJ1, "charAt", "([BI)C"⟩
def RJ2 : String := "java/lang/StringUTF16"
def TJ2 : u_T := fun k => match k with
  | _ => ("", "", "", false)
def tyJ2 : Nat → FieldType := fun k => match k with
  | _ => .int
abbrev wsJ20 : List Cond := u_ws RJ2 TJ2 0
abbrev cJ2_getChar_3b067 : ByteArray := prog_18_method_5_code
def yJ2_getChar_3b067 : MethodName := ⟨RJ2, "getChar", "([BI)C"⟩
abbrev cJ2_length_9d52b : ByteArray := prog_18_method_6_code
def yJ2_length_9d52b : MethodName := ⟨RJ2, "length", "([B)I"⟩
abbrev cJ2_charAt_3b067 : ByteArray := prog_18_method_83_code
def yJ2_charAt_3b067 : MethodName := ⟨RJ2, "charAt", "([BI)C"⟩
abbrev cJ2_checkIndex_2214a : ByteArray := prog_18_method_91_code
def yJ2_checkIndex_2214a : MethodName := ⟨RJ2, "checkIndex", "(I[B)V"⟩
def RJ3 : String := "jdk/internal/util/Preconditions"
def TJ3 : u_T := fun k => match k with
  | _ => ("", "", "", false)
def tyJ3 : Nat → FieldType := fun k => match k with
  | _ => .int
abbrev wsJ30 : List Cond := u_ws RJ3 TJ3 0
abbrev cJ3_checkIndex_8e157 : ByteArray := prog_19_method_11_code
def yJ3_checkIndex_8e157 : MethodName := ⟨RJ3, "checkIndex", "(IILjava/util/function/BiFunction;)I"⟩
def RL : String := "ChipGameLaw"
abbrev cL_law : ByteArray := code
def yL_law : MethodName := ⟨RL, "law", "([I)Z"⟩
abbrev vwCl : List vw_C := [(RX0, TX0, 3), (RX1, TX1, 3), (RX2, TX2, 8), (RX3, TX3, 3), (RX4, TX4, 4), (RX5, TX5, 5), (RX7, TX7, 2), (RX8, TX8, 2), (RX9, TX9, 3), (RX10, TX10, 12), (RX11, TX11, 24)]
end
section
/-! CORE 1: stores of whole numbers, values, the world of cells that a store stands for -/
abbrev Sto : Type := Nat → Nat → Int
def up (s : Sto) (k i : Nat) (x : Int) : Sto := fun k' i' => if k' = k ∧ i' = i then x else s k' i'
theorem up_eq (s : Sto) (k i : Nat) (x : Int) : up s k i x k i = x := by simp [up]
theorem up_ne {s : Sto} {k i : Nat} {x : Int} {k' i' : Nat} (h : ¬ (k' = k ∧ i' = i)) : up s k i x k' i' = s k' i' := if_neg h
theorem up_k {s : Sto} {k i : Nat} {x : Int} {k' i' : Nat} (h : k' ≠ k) : up s k i x k' i' = s k' i' := up_ne (fun q => h q.1)
theorem up_i {s : Sto} {k i : Nat} {x : Int} {k' i' : Nat} (h : i' ≠ i) : up s k i x k' i' = s k' i' := up_ne (fun q => h q.2)
def iV (x : Int) : Value := .int (Int32.ofInt x)
def jV (x : Int) : Value := .long (Int64.ofInt x)
def tv (ad : Nat → Nat) (v : Value) : Value := match v with
  | .ref k => .ref (ad k)
  | v => v
theorem tv_cat (ad : Nat → Nat) (v : Value) : (tv ad v).category = v.category := by cases v <;> rfl
def tl (ad : Nat → Nat) (l : List (Nat × Value)) : List (Nat × Value) := l.map (fun q => (q.1, tv ad q.2))
def ts (ad : Nat → Nat) (st : List Value) : List Value := st.map (tv ad)
theorem ts_cat (ad : Nat → Nat) (st : List Value) : (ts ad st).map (fun v => v.category) = st.map (fun v => v.category) := by
  induction st with
  | nil => rfl
  | cons a r ih => simp [ts, tv_cat] at ih ⊢
theorem ts_rev (ad : Nat → Nat) (as : List Value) : ts ad as.reverse = (ts ad as).reverse := by simp [ts]
theorem tl_args (ad : Nat → Nat) (as : List Value) : ∀ i, lv_args i (ts ad as) = tl ad (lv_args i as) := by
  induction as with
  | nil => intro i; rfl
  | cons a r ih =>
    intro i
    show (i, tv ad a) :: lv_args (if (tv ad a).category = 2 then i + 2 else i + 1) (ts ad r) = _
    rw [tv_cat, ih]
    rfl
theorem lg_ts (ad : Nat → Nat) (as : List Value) : (lg_sl (ts ad as)).length = (lg_sl as).length := by
  induction as with
  | nil => rfl
  | cons a r ih =>
    have e : ∀ (v : Value) (w : List Value), lg_sl (v :: w) = (if v.category = 2 then [Slot.val v, .second] else [.val v]) ++ lg_sl w := fun v w => by simp [lg_sl]
    show (lg_sl (tv ad a :: ts ad r)).length = _
    rw [e, e, List.length_append, List.length_append, ih, tv_cat]
    congr 1
    by_cases h : a.category = 2 <;> simp [h]
/-- how many cells; each cell's kind (0 object, 1 int, 2 long, 3 char, 4 boolean, 5 rows of ints, 6 rows of longs), length, class; its references -/
abbrev Shp : Type := Nat × (Nat → Nat × Nat × Nat) × (Nat → Nat → Option Nat)
def nc (S : Shp) : Nat := S.1
def kd (S : Shp) (k : Nat) : Nat := (S.2.1 k).1
def ln (S : Shp) (k : Nat) : Nat := (S.2.1 k).2.1
def ci (S : Shp) (k : Nat) : Nat := (S.2.1 k).2.2
def fr (S : Shp) (k i : Nat) : Option Nat := S.2.2 k i
def fV (S : Shp) (ad : Nat → Nat) (s : Sto) (k i : Nat) : Value := match fr S k i with
  | some j => .ref (ad j)
  | none => .int (Int32.ofInt (s k i))
def cE (S : Shp) (ad : Nat → Nat) (cA : Nat → ClassId) (s : Sto) (k : Nat) : va_E :=
  if kd S k = 0 then .inr (ci S k, (List.range (ln S k)).map (fV S ad s k))
  else if kd S k = 2 then .inl (cA 2, ln S k, .inr (.inl (fun i => Int64.ofInt (s k i))))
  else if kd S k = 5 then .inl (cA 5, ln S k, .inr (.inr (.inr (.inr (fun i => (fr S k i).map ad)))))
  else if kd S k = 6 then .inl (cA 6, ln S k, .inr (.inr (.inr (.inr (fun i => (fr S k i).map ad)))))
  else .inl (cA (kd S k), ln S k, .inl (fun i => Int32.ofInt (s k i)))
def wd (S : Shp) (ad : Nat → Nat) (cA : Nat → ClassId) (s : Sto) : va_W := (List.range (nc S)).map (fun k => (ad k, cE S ad cA s k))
theorem wd_at {S : Shp} {ad : Nat → Nat} {cA : Nat → ClassId} {s : Sto} {k : Nat} (h : k < nc S) : (wd S ad cA s)[k]? = some (ad k, cE S ad cA s k) := by
  simp [wd, h]
theorem wd_get {S : Shp} {ad : Nat → Nat} {cA : Nat → ClassId} {s : Sto} {k : Nat} {q : Nat × va_E} (h : (wd S ad cA s)[k]? = some q) : k < nc S ∧ q = (ad k, cE S ad cA s k) := by
  by_cases hk : k < nc S
  · rw [wd_at hk] at h
    exact ⟨hk, (Option.some.inj h).symm⟩
  · simp [wd, hk] at h
def AW (S : Shp) (ad : Nat → Nat) : Nat → Prop := fun q => ∃ k, k < nc S ∧ q = ad k
def DJ (S : Shp) (ad : Nat → Nat) : Prop := ∀ i j, i < nc S → j < nc S → ad i = ad j → i = j
theorem wd_D {S : Shp} {ad : Nat → Nat} {cA : Nat → ClassId} {s : Sto} (h : DJ S ad) : va_D (AW S ad) (wd S ad cA s) := by
  refine ⟨fun i j p q hi hj e => ?_, fun k q hk => ?_⟩
  · obtain ⟨h1, rfl⟩ := wd_get hi
    obtain ⟨h2, rfl⟩ := wd_get hj
    exact h i j h1 h2 e
  · obtain ⟨h1, rfl⟩ := wd_get hk
    exact ⟨k, h1, rfl⟩
theorem wd_set {S : Shp} {ad : Nat → Nat} {cA : Nat → ClassId} {s s' : Sto} {k : Nat} {e : va_E} (hk : k < nc S) (he : e = cE S ad cA s' k) (ho : ∀ j, j < nc S → j ≠ k → cE S ad cA s j = cE S ad cA s' j) : (wd S ad cA s).set k (ad k, e) = wd S ad cA s' := by
  subst he
  apply List.ext_getElem?
  intro j
  by_cases hj : j = k
  · subst hj
    rw [List.getElem?_set_self (by simp [wd, hk]), wd_at hk]
  · rw [List.getElem?_set_ne (Ne.symm hj)]
    by_cases hl : j < nc S
    · rw [wd_at hl, wd_at hl, ho j hl hj]
    · simp [wd, hl]
theorem cE_up_ne {S : Shp} {ad : Nat → Nat} {cA : Nat → ClassId} {s : Sto} {k i : Nat} {x : Int} {j : Nat} (h : j ≠ k) : cE S ad cA s j = cE S ad cA (up s k i x) j := by
  have e : ∀ i', up s k i x j i' = s j i' := fun i' => up_k h
  have e2 : fV S ad (up s k i x) j = fV S ad s j := by
    funext i'
    unfold fV
    cases fr S j i' with
    | some _ => rfl
    | none => simp [e]
  unfold cE
  simp only [e, e2]
def tysOf (cA : Nat → ClassId) : List (ClassId × FieldType) := [(cA 1, .int), (cA 2, .long), (cA 3, .char), (cA 4, .boolean), (cA 5, .array .int), (cA 6, .array .long)]
def TW : List Cond := lw_tbl.filter goodWord
theorem tw_in {w : Cond} (h : w ∈ lw_tbl) (g : goodWord w = true) : w ∈ TW := List.mem_filter.mpr ⟨h, g⟩
theorem tw_good {c : Cond} (hc : c ∈ TW) {ws : List Cond} (h : ∀ w ∈ ws, w ∈ TW) : GoodIn (c :: TW) ws := fun w hw => ⟨List.mem_cons_of_mem _ (h w hw), good_of_word (List.mem_filter.mp (h w hw)).2⟩
theorem ofInt_toInt32 {x : Int} (h : -2147483648 ≤ x ∧ x < 2147483648) : (Int32.ofInt x).toInt = x := by
  have e : ((Int32.size : Nat) : Int) = 4294967296 := rfl
  rw [Int32.toInt_ofInt, Int.bmod_eq_of_le] <;> omega
theorem ofInt_toInt64 {x : Int} (h : -9223372036854775808 ≤ x ∧ x < 9223372036854775808) : (Int64.ofInt x).toInt = x := by
  have e : ((Int64.size : Nat) : Int) = 18446744073709551616 := rfl
  rw [Int64.toInt_ofInt, Int.bmod_eq_of_le] <;> omega
theorem i32_lt {x y : Int} (h : (-2147483648 ≤ x ∧ x < 2147483648) ∧ -2147483648 ≤ y ∧ y < 2147483648) : Int32.ofInt x < Int32.ofInt y ↔ x < y := by
  rw [Int32.lt_iff_toInt_lt, ofInt_toInt32 h.1, ofInt_toInt32 h.2]
theorem i32_le {x y : Int} (h : (-2147483648 ≤ x ∧ x < 2147483648) ∧ -2147483648 ≤ y ∧ y < 2147483648) : Int32.ofInt x ≤ Int32.ofInt y ↔ x ≤ y := by
  rw [Int32.le_iff_toInt_le, ofInt_toInt32 h.1, ofInt_toInt32 h.2]
theorem i32_eq {x y : Int} (h : (-2147483648 ≤ x ∧ x < 2147483648) ∧ -2147483648 ≤ y ∧ y < 2147483648) : Int32.ofInt x = Int32.ofInt y ↔ x = y := by
  rw [← Int32.toInt_inj, ofInt_toInt32 h.1, ofInt_toInt32 h.2]
theorem i64_lt {x y : Int} (h : (-9223372036854775808 ≤ x ∧ x < 9223372036854775808) ∧ -9223372036854775808 ≤ y ∧ y < 9223372036854775808) : Int64.ofInt x < Int64.ofInt y ↔ x < y := by
  rw [Int64.lt_iff_toInt_lt, ofInt_toInt64 h.1, ofInt_toInt64 h.2]
theorem i64_eq {x y : Int} (h : (-9223372036854775808 ≤ x ∧ x < 9223372036854775808) ∧ -9223372036854775808 ≤ y ∧ y < 9223372036854775808) : Int64.ofInt x = Int64.ofInt y ↔ x = y := by
  rw [← Int64.toInt_inj, ofInt_toInt64 h.1, ofInt_toInt64 h.2]
theorem i32_add (x y : Int) : Int32.ofInt x + Int32.ofInt y = Int32.ofInt (x + y) := (Int32.ofInt_add x y).symm
theorem i32_sub (x y : Int) : Int32.ofInt x - Int32.ofInt y = Int32.ofInt (x - y) := (Int32.ofInt_sub x y).symm
theorem i32_mul (x y : Int) : Int32.ofInt x * Int32.ofInt y = Int32.ofInt (x * y) := (Int32.ofInt_mul x y).symm
theorem i32_neg (x : Int) : -Int32.ofInt x = Int32.ofInt (-x) := (Int32.ofInt_neg x).symm
theorem i64_add (x y : Int) : Int64.ofInt x + Int64.ofInt y = Int64.ofInt (x + y) := (Int64.ofInt_add x y).symm
theorem i64_sub (x y : Int) : Int64.ofInt x - Int64.ofInt y = Int64.ofInt (x - y) := (Int64.ofInt_sub x y).symm
theorem i64_mul (x y : Int) : Int64.ofInt x * Int64.ofInt y = Int64.ofInt (x * y) := (Int64.ofInt_mul x y).symm
theorem i64_neg (x : Int) : -Int64.ofInt x = Int64.ofInt (-x) := (Int64.ofInt_neg x).symm
theorem i32_div {x y : Int} (h : (-2147483648 ≤ x ∧ x < 2147483648) ∧ -2147483648 ≤ y ∧ y < 2147483648) : Int32.ofInt x / Int32.ofInt y = Int32.ofInt (x.tdiv y) := by
  apply Int32.toInt_inj.mp
  rw [Int32.toInt_div, ofInt_toInt32 h.1, ofInt_toInt32 h.2, Int32.toInt_ofInt]
theorem i64_div {x y : Int} (h : (-9223372036854775808 ≤ x ∧ x < 9223372036854775808) ∧ -9223372036854775808 ≤ y ∧ y < 9223372036854775808) : Int64.ofInt x / Int64.ofInt y = Int64.ofInt (x.tdiv y) := by
  apply Int64.toInt_inj.mp
  rw [Int64.toInt_div, ofInt_toInt64 h.1, ofInt_toInt64 h.2, Int64.toInt_ofInt]
theorem i32_rem {x y : Int} (h : (-2147483648 ≤ x ∧ x < 2147483648) ∧ -2147483648 ≤ y ∧ y < 2147483648) : Int32.ofInt x - Int32.ofInt x / Int32.ofInt y * Int32.ofInt y = Int32.ofInt (x.tmod y) := by
  rw [i32_div h, i32_mul, i32_sub]
  congr 1
  have := Int.mul_tdiv_add_tmod x y
  rw [Int.mul_comm] at this
  omega
theorem i64_rem {x y : Int} (h : (-9223372036854775808 ≤ x ∧ x < 9223372036854775808) ∧ -9223372036854775808 ≤ y ∧ y < 9223372036854775808) : Int64.ofInt x - Int64.ofInt x / Int64.ofInt y * Int64.ofInt y = Int64.ofInt (x.tmod y) := by
  rw [i64_div h, i64_mul, i64_sub]
  congr 1
  have := Int.mul_tdiv_add_tmod x y
  rw [Int.mul_comm] at this
  omega
theorem i32_ix {i : Int} {n : Nat} (h : 0 ≤ i ∧ i < n) (hn : n < 2147483648) : vp_in (Int32.ofInt i) n ∧ (Int32.ofInt i).toNatClampNeg = i.toNat := by
  have e := ofInt_toInt32 (x := i) (by omega)
  refine ⟨vp_in_iff.mpr (by rw [e]; omega), ?_⟩
  show (Int32.ofInt i).toInt.toNat = i.toNat
  rw [e]
def iand (x y : Int) : Int := (Int32.ofInt x &&& Int32.ofInt y).toInt
def ior (x y : Int) : Int := (Int32.ofInt x ||| Int32.ofInt y).toInt
def ixor (x y : Int) : Int := (Int32.ofInt x ^^^ Int32.ofInt y).toInt
def ishl (x y : Int) : Int := (Int32.ofInt x <<< (Int32.ofInt y &&& 31)).toInt
def ishr (x y : Int) : Int := (Int32.ofInt x >>> (Int32.ofInt y &&& 31)).toInt
theorem i32_inv (a : Int32) : Int32.ofInt a.toInt = a := Int32.ofInt_toInt a
theorem i32_i2l {x : Int} (h : -2147483648 ≤ x ∧ x < 2147483648) : (Int32.ofInt x).toInt64 = Int64.ofInt x := by
  apply Int64.toInt_inj.mp
  rw [Int32.toInt_toInt64, ofInt_toInt32 h, ofInt_toInt64 (by omega)]
theorem i64_l2i (x : Int) : (Int64.ofInt x).toInt32 = Int32.ofInt x := Int64.toInt32_ofInt
end
section
/-! CORE 2: what a method may take as given; the judgement Go; contracts Sp; returns and calls -/
def nestM : List (String × Nat × MethodName × String) := [("ChipGame", 11, yX2_init, "ChipGame"), ("ChipGame", 20, yX8_init, "ChipGame"), ("ChipGame", 27, yX3_init, "ChipGame"), ("ChipGame", 34, yX7_init, "ChipGame"), ("ChipGame$Firing", 55, yX10_clearChips, "ChipGame"), ("ChipGame$History", 23, yX10_copyChips, "ChipGame"), ("ChipGame$Slots", 24, yX10_copyChips, "ChipGame"), ("ChipGame$Trees", 47, yX10_clearChips, "ChipGame")]
def NW (U : State) : Prop := ∀ q ∈ nestM, va_Nw (.methodLinkNest q.1 q.2.1 q.2.2.1 q.2.2.2) U
theorem NW.warm {s U : State} (hW : s.WarmedH U.vm) (h : NW s) : NW U := fun q hq => va_Nw.warmM hW (h q hq)
theorem NW.same {u U : State} (e : u.vm = U.vm) (h : NW u) : NW U := fun q hq => va_Nw.same rfl e (h q hq)
def strL : List Nat := [4, 5, 8, 4, 5, 0]
def strB : List (List Int32) := [[112, 97, 116, 104], [99, 121, 99, 108, 101], [99, 111, 109, 112, 108, 101, 116, 101], [115, 116, 97, 114], [119, 104, 101, 101, 108], []]
def strT : List (Nat × String) := [(7, "path"), (9, "cycle"), (11, "complete"), (13, "star"), (15, "wheel"), (17, "")]
def leastL : List Int32 := [2, 3, 2, 2, 4]
def mostL : List Int32 := [8, 8, 6, 8, 8]
/-- the constants: the names, the two tables of numbers, String's own flag -/
def XS (ad : Nat → Nat) (A : Nat → Prop) (U : State) (H : Heap) : Prop :=
  (vk_S 6 strL strB (fun i => ad (1000 + i)) (fun i => ad (1010 + i)) A U H ∧ va_Z "ChipGame$Shapes" "LEAST" "[I" (.ref (ad 1020)) A U H ∧ va_T .int (ad 1020) 5 (fun j => .int (leastL.getD j 0)) A U H ∧ va_Z "ChipGame$Shapes" "MOST" "[I" (.ref (ad 1021)) A U H ∧ va_T .int (ad 1021) 5 (fun j => .int (mostL.getD j 0)) A U H ∧ va_Z "java/lang/String" "COMPACT_STRINGS" "Z" (.int 1) A U H) ∧
  ∀ i : Nat, ∀ q : Nat × String, strT[i]? = some q → vk_R "ChipGame$Shapes" q.1 q.2 (ad (1000 + i)) U
theorem XS.tr {ad : Nat → Nat} {A B : Nat → Prop} {s U : State} {H0 H : Heap} (h : XS ad A s H0) (hW : s.WarmedH U.vm) (hq : ∀ a : Nat, a < H0.size → ¬ A a → H[a]? = H0[a]?) (hAB : ∀ q, B q → A q) : XS ad B U H := by
  obtain ⟨⟨h1, h2, h3, h4, h5, h6⟩, h7⟩ := h
  have m := hW.alike
  exact ⟨⟨((h1.moved m).kept hq).narrow hAB, ((h2.moved m).kept hq).narrow hAB, ((h3.moved m).kept hq).narrow hAB, ((h4.moved m).kept hq).narrow hAB, ((h5.moved m).kept hq).narrow hAB, ((h6.moved m).kept hq).narrow hAB⟩, fun i q e => vk_R.warm hW (h7 i q e)⟩
theorem XS.same {ad : Nat → Nat} {A : Nat → Prop} {u U : State} {H : Heap} (e : U.vm = u.vm) (h : XS ad A u H) : XS ad A U H := by
  obtain ⟨⟨h1, h2, h3, h4, h5, h6⟩, h7⟩ := h
  have m : u.vm.Alike U.vm := by rw [e]; exact Vm.Alike.refl _
  exact ⟨⟨h1.moved m, h2.moved m, h3.moved m, h4.moved m, h5.moved m, h6.moved m⟩, fun i q e2 => vk_R.same e (h7 i q e2)⟩
/-- a method: its code, its class, its places for locals, what it returns, its room -/
abbrev Mth : Type := ByteArray × String × Nat × Option FieldType × Room
def Cx (S : Shp) (M : Mth) (p : Program) (s : State) (m : MethodId) (args : Array Value) (meth : Method) (c : Code) (D : va_G) (cA : Nat → ClassId) (ad : Nat → Nat) : Prop :=
  p.tables.exec = Jvm.exec ∧ c.code = M.1 ∧ meth.sig.returnType = M.2.2.2.1 ∧ c.maxLocals = M.2.2.1 ∧ s.vm.findClass M.2.1 = some m.cls ∧ (∀ w ∈ TW, w.before args s = true) ∧ meth.locks = false ∧ va_K D vwCl (tysOf cA) s ∧ DJ S ad ∧ NW s ∧ XS ad (AW S ad) s s.heap
def QQ (S : Shp) (D : va_G) (cA : Nat → ClassId) (ad : Nat → Nat) (F : Option Value → Sto → Prop) : Array Value → State → Outcome → State → Prop := fun _ st oc t =>
  (∃ (r : Option Value) (s' : Sto), oc = .returned (r.map (tv ad)) ∧ F r s' ∧ va_P D vwCl (wd S ad cA s') t.heap) ∧ va_F (AW S ad) st t
def Go (S : Shp) (M : Mth) (F : Option Value → Sto → Prop) (pc : Nat) (l : List (Nat × Value)) (st : List Value) (s : Sto) : Prop :=
  ∀ (p : Program) (lc : Launch) (e : Env) (u : State) (m : MethodId) (args : Array Value) (below : List Frame) (meth : Method) (c : Code) (D : va_G) (cA : Nat → ClassId) (ad : Nat → Nat) (H : Heap) (locs : List Loc) (ls : Array Slot),
    Cx S M p u m args meth c D cA ad → va_P D vwCl (wd S ad cA s) H → va_S (AW S ad) u.heap H locs → lv_has ls M.2.2.1 (tl ad l) →
    W p lc e M.2.2.2.2 u m args below meth c H locs 0 0 (MQ below (QQ S D cA ad F) args u 0 0 (AW S ad)) (F0 m pc ls (ts ad st))
/-- a contract: from the store s, with the arguments, the method returns with F -/
def Sp (S : Shp) (y : MethodName) (w : Cond) (R : Room) (as : List Value) (s : Sto) (F : Option Value → Sto → Prop) : Prop :=
  ∀ (l : Launch) (D : va_G) (cA : Nat → ClassId) (ad : Nat → Nat), Met l y (w :: TW) R (va_Pc (ts ad as) (fun U => va_P D vwCl (wd S ad cA s) U.heap ∧ va_K D vwCl (tysOf cA) U ∧ DJ S ad ∧ NW U ∧ XS ad (AW S ad) U U.heap)) (QQ S D cA ad F) 0 0 (AW S ad)
def SpI (S : Shp) (y : MethodName) (w : Cond) (R : Room) (as : List Value) (s : Sto) (F : Int → Sto → Prop) : Prop := Sp S y w R as s (fun r s' => ∃ x, r = some (iV x) ∧ F x s')
def SpJ (S : Shp) (y : MethodName) (w : Cond) (R : Room) (as : List Value) (s : Sto) (F : Int → Sto → Prop) : Prop := Sp S y w R as s (fun r s' => ∃ x, r = some (jV x) ∧ F x s')
def SpV (S : Shp) (y : MethodName) (w : Cond) (R : Room) (as : List Value) (s : Sto) (F : Sto → Prop) : Prop := Sp S y w R as s (fun r s' => r = none ∧ F s')
def SpR (S : Shp) (y : MethodName) (w : Cond) (R : Room) (as : List Value) (s : Sto) (F : Nat → Sto → Prop) : Prop := Sp S y w R as s (fun r s' => ∃ k, r = some (.ref k) ∧ F k s')
theorem QQ.mono {S : Shp} {D : va_G} {cA : Nat → ClassId} {ad : Nat → Nat} {F G : Option Value → Sto → Prop} (h : ∀ r s, F r s → G r s) {a : Array Value} {st t : State} {o : Outcome} (q : QQ S D cA ad F a st o t) : QQ S D cA ad G a st o t := by
  obtain ⟨⟨r, s', h1, h2, h3⟩, h4⟩ := q
  exact ⟨⟨r, s', h1, h r s' h2, h3⟩, h4⟩
theorem Go.mono {S : Shp} {M : Mth} {F G : Option Value → Sto → Prop} {pc : Nat} {l : List (Nat × Value)} {st : List Value} {s : Sto} (h : ∀ r s, F r s → G r s) (k : Go S M F pc l st s) : Go S M G pc l st s := by
  intro p lc e u m args below meth c D cA ad H locs ls X hP hS hl T hT Y
  obtain ⟨t, h1, o, h2, h3, h4, h5⟩ := k p lc e u m args below meth c D cA ad H locs ls X hP hS hl T hT Y
  exact ⟨t, h1, o, h2, h3, h4.mono h, h5⟩
/-- a contract out of a walk of the body -/
theorem Sp.body {S : Shp} {y : MethodName} {cc : ByteArray} {nL : Nat} {ret : Option FieldType} {R : Room} {as : List Value} {s : Sto} {F : Option Value → Sto → Prop} (hy : plainName y.cls = true) (hn : (lg_sl as).length ≤ nL)
    (k : Go S (cc, y.cls, nL, ret, R) F 0 (lv_args 0 as) [] s) : Sp S y (Cond.code y cc nL ret) R as s F := by
  intro l D cA ad
  refine Met.ofW (cc := cc) (maxL := nL) (ret := ret) hy rfl ?_
  intro p e u m args below meth c s₁ B hml hv
  obtain ⟨rfl, hP, hK, hDJ, hN, hX⟩ := hv
  have hts : ∀ w ∈ (Cond.code y cc nL ret :: TW), w.before (ts ad as).toArray u = true := atoms_spec (ws := Cond.code y cc nL ret :: TW) B.pre
  have hown : u.vm.findClass y.cls = some m.cls := findClass_of_methodNamed B.named
  rw [lg_entry_eq]
  have hl := lv_entry (ts ad as) (n := nL) (by rw [lg_ts]; exact hn)
  rw [tl_args] at hl
  exact k p l e u m _ below meth c D cA ad u.heap [] _ ⟨B.exec, B.bytes, B.returns, hml, hown, fun w hw => hts w (List.mem_cons_of_mem _ hw), B.notSynchronized, hK, hDJ, hN, hX⟩ hP va_S.rf hl
def lins (q : Nat × Value) (l : List (Nat × Value)) : List (Nat × Value) := match l with
  | [] => [q]
  | a :: r => if q.1 < a.1 then q :: a :: r else a :: lins q r
theorem lins_mem {q a : Nat × Value} {l : List (Nat × Value)} (h : a ∈ lins q l) : a = q ∨ a ∈ l := by
  induction l with
  | nil => exact Or.inl (List.mem_singleton.mp h)
  | cons b r ih =>
    unfold lins at h
    split at h
    · rcases List.mem_cons.mp h with h | h
      · exact Or.inl h
      · exact Or.inr h
    · rcases List.mem_cons.mp h with h | h
      · exact Or.inr (by rw [h]; exact List.mem_cons_self)
      · rcases ih h with h | h
        · exact Or.inl h
        · exact Or.inr (List.mem_cons_of_mem _ h)
def keep1 (i : Nat) (q : Nat × Value) : Bool := !(q.1 == i) && !(q.1 + 1 == i && q.2.category == 2)
def keep2 (i : Nat) (q : Nat × Value) : Bool := !(q.1 == i) && (!(q.1 == i + 1) && !(q.1 + 1 == i && q.2.category == 2))
def lset (l : List (Nat × Value)) (i : Nat) (v : Value) : List (Nat × Value) := lins (i, v) (l.filter (keep1 i))
def lset2 (l : List (Nat × Value)) (i : Nat) (v : Value) : List (Nat × Value) := lins (i, v) (l.filter (keep2 i))
def lget (l : List (Nat × Value)) (i : Nat) : Option Value := (l.find? (fun q => q.1 == i)).map (fun q => q.2)
theorem lget_at {ad : Nat → Nat} {ls : Array Slot} {nL : Nat} {l : List (Nat × Value)} {i : Nat} {v : Value} (h : lv_has ls nL (tl ad l)) (e : lget l i = some v) : ls[i]? = some (.val (tv ad v)) := by
  unfold lget at e
  cases hf : l.find? (fun q => q.1 == i) with
  | none => rw [hf] at e; cases e
  | some q =>
    rw [hf] at e
    have h1 := List.mem_of_find?_eq_some hf
    have h2 := List.find?_some hf
    have hi : q.1 = i := by simpa using h2
    have hv : q.2 = v := Option.some.inj e
    have := h.2.2 (q.1, tv ad q.2) (List.mem_map.mpr ⟨q, h1, rfl⟩)
    rw [hi, hv] at this
    exact this
theorem lset_has {ad : Nat → Nat} {ls : Array Slot} {nL : Nat} {l : List (Nat × Value)} {i : Nat} {v : Value} (h : lv_has ls nL ((i, tv ad v) :: (tl ad l).filter (fun q => !(q.1 == i) && !(q.1 + 1 == i && q.2.category == 2)))) : lv_has ls nL (tl ad (lset l i v)) := by
  refine ⟨h.1, h.2.1, fun q hq => ?_⟩
  obtain ⟨a, ha, rfl⟩ := List.mem_map.mp hq
  rcases lins_mem ha with rfl | ha
  · exact h.2.2 _ List.mem_cons_self
  · obtain ⟨h1, h2⟩ := List.mem_filter.mp ha
    refine h.2.2 _ (List.mem_cons_of_mem _ (List.mem_filter.mpr ⟨List.mem_map.mpr ⟨a, h1, rfl⟩, ?_⟩))
    simp only [tv_cat]
    exact h2
theorem lset2_has {ad : Nat → Nat} {ls : Array Slot} {nL : Nat} {l : List (Nat × Value)} {i : Nat} {v : Value} (h : lv_has ls nL ((i, tv ad v) :: (tl ad l).filter (fun q => !(q.1 == i) && (!(q.1 == i + 1) && !(q.1 + 1 == i && q.2.category == 2))))) : lv_has ls nL (tl ad (lset2 l i v)) := by
  refine ⟨h.1, h.2.1, fun q hq => ?_⟩
  obtain ⟨a, ha, rfl⟩ := List.mem_map.mp hq
  rcases lins_mem ha with rfl | ha
  · exact h.2.2 _ List.mem_cons_self
  · obtain ⟨h1, h2⟩ := List.mem_filter.mp ha
    refine h.2.2 _ (List.mem_cons_of_mem _ (List.mem_filter.mpr ⟨List.mem_map.mpr ⟨a, h1, rfl⟩, ?_⟩))
    simp only [tv_cat]
    exact h2
/-- some locals are forgotten -/
theorem Go.lsub {S : Shp} {M : Mth} {F : Option Value → Sto → Prop} {pc : Nat} {l l' : List (Nat × Value)} {st : List Value} {s : Sto} (is : List Nat) (h : lv_pick l is = l') (k : Go S M F pc l' st s) : Go S M F pc l st s := by
  intro p lc e u m args below meth c D cA ad H locs ls X hP hS hl
  refine k p lc e u m args below meth c D cA ad H locs ls X hP hS ⟨hl.1, hl.2.1, fun q hq => ?_⟩
  obtain ⟨a, ha, rfl⟩ := List.mem_map.mp hq
  rw [← h] at ha
  obtain ⟨j, -, hj⟩ := List.mem_filterMap.mp ha
  exact hl.2.2 _ (List.mem_map.mpr ⟨a, List.mem_of_getElem? hj, rfl⟩)
end
section
/-! CORE 3: a row an instruction -/
theorem g_iconst {S : Shp} {M : Mth} {F : Option Value → Sto → Prop} {pc npc : Nat} {l : List (Nat × Value)} {st : List Value} {s : Sto} {n : Int} (hd : decode M.1 pc = .ok (.iconst n, 1)) (hn : pc + 1 = npc) (k : Go S M F npc l (iV n :: st) s) : Go S M F pc l (st) s := by
  subst hn
  intro p lc e u m args below meth c D cA ad H locs ls X hP hS hl
  exact lv_iconst X.1 X.2.1 hd rfl (k p lc e u m args below meth c D cA ad H locs ls X hP hS hl)
theorem g_bipush {S : Shp} {M : Mth} {F : Option Value → Sto → Prop} {pc npc : Nat} {l : List (Nat × Value)} {st : List Value} {s : Sto} {n : Int} {x : Int} (hd : decode M.1 pc = .ok (.bipush n, 2)) (hn : pc + 2 = npc) (hv : (Int8.ofInt n).toInt32 = Int32.ofInt x) (k : Go S M F npc l (iV x :: st) s) : Go S M F pc l (st) s := by
  subst hn
  intro p lc e u m args below meth c D cA ad H locs ls X hP hS hl
  exact lv_bipush X.1 X.2.1 hd hv (k p lc e u m args below meth c D cA ad H locs ls X hP hS hl)
theorem g_sipush {S : Shp} {M : Mth} {F : Option Value → Sto → Prop} {pc npc : Nat} {l : List (Nat × Value)} {st : List Value} {s : Sto} {n : Int} {x : Int} (hd : decode M.1 pc = .ok (.sipush n, 3)) (hn : pc + 3 = npc) (hv : (Int16.ofInt n).toInt32 = Int32.ofInt x) (k : Go S M F npc l (iV x :: st) s) : Go S M F pc l (st) s := by
  subst hn
  intro p lc e u m args below meth c D cA ad H locs ls X hP hS hl
  exact lv_sipush X.1 X.2.1 hd hv (k p lc e u m args below meth c D cA ad H locs ls X hP hS hl)
theorem g_lconst {S : Shp} {M : Mth} {F : Option Value → Sto → Prop} {pc npc : Nat} {l : List (Nat × Value)} {st : List Value} {s : Sto} {n : Fin 2} {x : Int} (hd : decode M.1 pc = .ok (.lconst n, 1)) (hn : pc + 1 = npc) (hv : Int64.ofNat (n : Nat) = Int64.ofInt x) (k : Go S M F npc l (jV x :: st) s) : Go S M F pc l (st) s := by
  subst hn
  intro p lc e u m args below meth c D cA ad H locs ls X hP hS hl
  exact lv_lconst X.1 X.2.1 hd hv (k p lc e u m args below meth c D cA ad H locs ls X hP hS hl)
theorem g_ldc {S : Shp} {M : Mth} {F : Option Value → Sto → Prop} {pc npc : Nat} {l : List (Nat × Value)} {st : List Value} {s : Sto} {index : Nat} {x : Int} (hd : decode M.1 pc = .ok (.ldc index, 2)) (hn : pc + 2 = npc) (hc : Cond.constant M.2.1 index (Int32.ofInt x) ∈ TW) (k : Go S M F npc l (iV x :: st) s) : Go S M F pc l (st) s := by
  subst hn
  intro p lc e u m args below meth c D cA ad H locs ls X hP hS hl
  exact lv_ldc X.1 X.2.1 X.2.2.2.2.1 (X.2.2.2.2.2.1 _ hc) hd (k p lc e u m args below meth c D cA ad H locs ls X hP hS hl)
theorem g_ldc2 {S : Shp} {M : Mth} {F : Option Value → Sto → Prop} {pc npc : Nat} {l : List (Nat × Value)} {st : List Value} {s : Sto} {index : Nat} {x : Int} (hd : decode M.1 pc = .ok (.ldc2_w index, 3)) (hn : pc + 3 = npc) (hc : Cond.constantLong M.2.1 index (Int64.ofInt x) ∈ TW) (k : Go S M F npc l (jV x :: st) s) : Go S M F pc l (st) s := by
  subst hn
  intro p lc e u m args below meth c D cA ad H locs ls X hP hS hl
  exact lv_ldc2 X.1 X.2.1 X.2.2.2.2.1 (X.2.2.2.2.2.1 _ hc) hd (k p lc e u m args below meth c D cA ad H locs ls X hP hS hl)
theorem g_iload_n {S : Shp} {M : Mth} {F : Option Value → Sto → Prop} {pc npc : Nat} {l : List (Nat × Value)} {st : List Value} {s : Sto} {j : Fin 4} {i : Nat} {x : Int} (hd : decode M.1 pc = .ok (.iload_n j, 1)) (hn : pc + 1 = npc) (hi : (j : Nat) = i) (hg : lget l i = some (iV x)) (k : Go S M F npc l (iV x :: st) s) : Go S M F pc l (st) s := by
  subst hn
  intro p lc e u m args below meth c D cA ad H locs ls X hP hS hl
  exact lv_iload_n X.1 X.2.1 hd hi (lget_at hl hg) (k p lc e u m args below meth c D cA ad H locs ls X hP hS hl)
theorem g_iload {S : Shp} {M : Mth} {F : Option Value → Sto → Prop} {pc npc : Nat} {l : List (Nat × Value)} {st : List Value} {s : Sto} {i : Nat} {x : Int} (hd : decode M.1 pc = .ok (.iload i, 2)) (hn : pc + 2 = npc) (hg : lget l i = some (iV x)) (k : Go S M F npc l (iV x :: st) s) : Go S M F pc l (st) s := by
  subst hn
  intro p lc e u m args below meth c D cA ad H locs ls X hP hS hl
  exact lv_iload X.1 X.2.1 hd (lget_at hl hg) (k p lc e u m args below meth c D cA ad H locs ls X hP hS hl)
theorem g_lload_n {S : Shp} {M : Mth} {F : Option Value → Sto → Prop} {pc npc : Nat} {l : List (Nat × Value)} {st : List Value} {s : Sto} {j : Fin 4} {i : Nat} {x : Int} (hd : decode M.1 pc = .ok (.lload_n j, 1)) (hn : pc + 1 = npc) (hi : (j : Nat) = i) (hg : lget l i = some (jV x)) (k : Go S M F npc l (jV x :: st) s) : Go S M F pc l (st) s := by
  subst hn
  intro p lc e u m args below meth c D cA ad H locs ls X hP hS hl
  exact lv_lload_n X.1 X.2.1 hd hi (lget_at hl hg) (k p lc e u m args below meth c D cA ad H locs ls X hP hS hl)
theorem g_lload {S : Shp} {M : Mth} {F : Option Value → Sto → Prop} {pc npc : Nat} {l : List (Nat × Value)} {st : List Value} {s : Sto} {i : Nat} {x : Int} (hd : decode M.1 pc = .ok (.lload i, 2)) (hn : pc + 2 = npc) (hg : lget l i = some (jV x)) (k : Go S M F npc l (jV x :: st) s) : Go S M F pc l (st) s := by
  subst hn
  intro p lc e u m args below meth c D cA ad H locs ls X hP hS hl
  exact lv_lload X.1 X.2.1 hd (lget_at hl hg) (k p lc e u m args below meth c D cA ad H locs ls X hP hS hl)
theorem g_aload_n {S : Shp} {M : Mth} {F : Option Value → Sto → Prop} {pc npc : Nat} {l : List (Nat × Value)} {st : List Value} {s : Sto} {j : Fin 4} {i : Nat} {x : Nat} (hd : decode M.1 pc = .ok (.aload_n j, 1)) (hn : pc + 1 = npc) (hi : (j : Nat) = i) (hg : lget l i = some (.ref x)) (k : Go S M F npc l (.ref x :: st) s) : Go S M F pc l (st) s := by
  subst hn
  intro p lc e u m args below meth c D cA ad H locs ls X hP hS hl
  exact lv_aload_n X.1 X.2.1 hd hi (lget_at hl hg) (k p lc e u m args below meth c D cA ad H locs ls X hP hS hl)
theorem g_aload {S : Shp} {M : Mth} {F : Option Value → Sto → Prop} {pc npc : Nat} {l : List (Nat × Value)} {st : List Value} {s : Sto} {i : Nat} {x : Nat} (hd : decode M.1 pc = .ok (.aload i, 2)) (hn : pc + 2 = npc) (hg : lget l i = some (.ref x)) (k : Go S M F npc l (.ref x :: st) s) : Go S M F pc l (st) s := by
  subst hn
  intro p lc e u m args below meth c D cA ad H locs ls X hP hS hl
  exact lv_aload X.1 X.2.1 hd (lget_at hl hg) (k p lc e u m args below meth c D cA ad H locs ls X hP hS hl)
theorem g_istore_n {S : Shp} {M : Mth} {F : Option Value → Sto → Prop} {pc npc : Nat} {l : List (Nat × Value)} {st : List Value} {s : Sto} {j : Fin 4} {i : Nat} {x : Int} {l' : List (Nat × Value)} (hd : decode M.1 pc = .ok (.istore_n j, 1)) (hn : pc + 1 = npc) (hi : (j : Nat) = i) (hb : i < M.2.2.1) (hl' : lset l i (iV x) = l') (k : Go S M F npc l' st s) : Go S M F pc l (iV x :: st) s := by
  subst hn hl'
  intro p lc e u m args below meth c D cA ad H locs ls X hP hS hl
  refine lv_istore_n X.1 X.2.1 hd hi hl hb rfl (fun ls' h' => ?_)
  exact k p lc e u m args below meth c D cA ad H locs ls' X hP hS (lset_has h')
theorem g_istore {S : Shp} {M : Mth} {F : Option Value → Sto → Prop} {pc npc : Nat} {l : List (Nat × Value)} {st : List Value} {s : Sto} {i : Nat} {x : Int} {l' : List (Nat × Value)} (hd : decode M.1 pc = .ok (.istore i, 2)) (hn : pc + 2 = npc) (hb : i < M.2.2.1) (hl' : lset l i (iV x) = l') (k : Go S M F npc l' st s) : Go S M F pc l (iV x :: st) s := by
  subst hn hl'
  intro p lc e u m args below meth c D cA ad H locs ls X hP hS hl
  refine lv_istore X.1 X.2.1 hd hl hb rfl (fun ls' h' => ?_)
  exact k p lc e u m args below meth c D cA ad H locs ls' X hP hS (lset_has h')
theorem g_astore_n {S : Shp} {M : Mth} {F : Option Value → Sto → Prop} {pc npc : Nat} {l : List (Nat × Value)} {st : List Value} {s : Sto} {j : Fin 4} {i : Nat} {x : Nat} {l' : List (Nat × Value)} (hd : decode M.1 pc = .ok (.astore_n j, 1)) (hn : pc + 1 = npc) (hi : (j : Nat) = i) (hb : i < M.2.2.1) (hl' : lset l i (.ref x) = l') (k : Go S M F npc l' st s) : Go S M F pc l (.ref x :: st) s := by
  subst hn hl'
  intro p lc e u m args below meth c D cA ad H locs ls X hP hS hl
  refine lv_astore_n X.1 X.2.1 hd hi hl hb rfl (fun ls' h' => ?_)
  exact k p lc e u m args below meth c D cA ad H locs ls' X hP hS (lset_has h')
theorem g_astore {S : Shp} {M : Mth} {F : Option Value → Sto → Prop} {pc npc : Nat} {l : List (Nat × Value)} {st : List Value} {s : Sto} {i : Nat} {x : Nat} {l' : List (Nat × Value)} (hd : decode M.1 pc = .ok (.astore i, 2)) (hn : pc + 2 = npc) (hb : i < M.2.2.1) (hl' : lset l i (.ref x) = l') (k : Go S M F npc l' st s) : Go S M F pc l (.ref x :: st) s := by
  subst hn hl'
  intro p lc e u m args below meth c D cA ad H locs ls X hP hS hl
  refine lv_astore X.1 X.2.1 hd hl hb rfl (fun ls' h' => ?_)
  exact k p lc e u m args below meth c D cA ad H locs ls' X hP hS (lset_has h')
theorem g_lstore_n {S : Shp} {M : Mth} {F : Option Value → Sto → Prop} {pc npc : Nat} {l : List (Nat × Value)} {st : List Value} {s : Sto} {j : Fin 4} {i : Nat} {x : Int} {l' : List (Nat × Value)} (hd : decode M.1 pc = .ok (.lstore_n j, 1)) (hn : pc + 1 = npc) (hi : (j : Nat) = i) (hb : i + 1 < M.2.2.1) (hl' : lset2 l i (jV x) = l') (k : Go S M F npc l' st s) : Go S M F pc l (jV x :: st) s := by
  subst hn hl'
  intro p lc e u m args below meth c D cA ad H locs ls X hP hS hl
  refine lv_lstore_n X.1 X.2.1 hd hi hl hb rfl (fun ls' h' => ?_)
  exact k p lc e u m args below meth c D cA ad H locs ls' X hP hS (lset2_has h')
theorem g_lstore {S : Shp} {M : Mth} {F : Option Value → Sto → Prop} {pc npc : Nat} {l : List (Nat × Value)} {st : List Value} {s : Sto} {i : Nat} {x : Int} {l' : List (Nat × Value)} (hd : decode M.1 pc = .ok (.lstore i, 2)) (hn : pc + 2 = npc) (hb : i + 1 < M.2.2.1) (hl' : lset2 l i (jV x) = l') (k : Go S M F npc l' st s) : Go S M F pc l (jV x :: st) s := by
  subst hn hl'
  intro p lc e u m args below meth c D cA ad H locs ls X hP hS hl
  refine lv_lstore X.1 X.2.1 hd hl hb rfl (fun ls' h' => ?_)
  exact k p lc e u m args below meth c D cA ad H locs ls' X hP hS (lset2_has h')
theorem g_iinc {S : Shp} {M : Mth} {F : Option Value → Sto → Prop} {pc npc : Nat} {l : List (Nat × Value)} {st : List Value} {s : Sto} {i : Nat} {n x y : Int} {l' : List (Nat × Value)} (hd : decode M.1 pc = .ok (.iinc i n, 3)) (hn : pc + 3 = npc) (hb : i < M.2.2.1) (hg : lget l i = some (iV x)) (hy : x + n = y) (hl' : lset l i (iV y) = l') (k : Go S M F npc l' st s) : Go S M F pc l st s := by
  subst hn hl' hy
  intro p lc e u m args below meth c D cA ad H locs ls X hP hS hl
  have hq := lget_at hl hg
  have hl2 : lv_has ls M.2.2.1 ((i, Value.int (Int32.ofInt x)) :: tl ad l) := ⟨hl.1, hl.2.1, fun q hq2 => by
    rcases List.mem_cons.mp hq2 with rfl | h
    · exact hq
    · exact hl.2.2 q h⟩
  refine lv_iinc (k := 0) X.1 X.2.1 hd hl2 rfl (i32_add x n) hb rfl (fun ls' h' => ?_)
  refine k p lc e u m args below meth c D cA ad H locs ls' X hP hS (lset_has ⟨h'.1, h'.2.1, fun q hq2 => h'.2.2 q ?_⟩)
  rcases List.mem_cons.mp hq2 with h | h
  · exact h ▸ List.mem_cons_self
  · obtain ⟨h1, h2⟩ := List.mem_filter.mp h
    exact List.mem_cons_of_mem _ (List.mem_filter.mpr ⟨List.mem_cons_of_mem _ h1, h2⟩)
theorem g_iadd {S : Shp} {M : Mth} {F : Option Value → Sto → Prop} {pc npc : Nat} {l : List (Nat × Value)} {st : List Value} {s : Sto} {x y : Int} (hd : decode M.1 pc = .ok (.iadd, 1)) (hn : pc + 1 = npc) (k : Go S M F npc l (iV (x + y) :: st) s) : Go S M F pc l (iV y :: iV x :: st) s := by
  subst hn
  intro p lc e u m args below meth c D cA ad H locs ls X hP hS hl
  refine lv_iadd X.1 X.2.1 hd ?_
  rw [i32_add x y]
  exact k p lc e u m args below meth c D cA ad H locs ls X hP hS hl
theorem g_isub {S : Shp} {M : Mth} {F : Option Value → Sto → Prop} {pc npc : Nat} {l : List (Nat × Value)} {st : List Value} {s : Sto} {x y : Int} (hd : decode M.1 pc = .ok (.isub, 1)) (hn : pc + 1 = npc) (k : Go S M F npc l (iV (x - y) :: st) s) : Go S M F pc l (iV y :: iV x :: st) s := by
  subst hn
  intro p lc e u m args below meth c D cA ad H locs ls X hP hS hl
  refine lv_isub X.1 X.2.1 hd ?_
  rw [i32_sub x y]
  exact k p lc e u m args below meth c D cA ad H locs ls X hP hS hl
theorem g_imul {S : Shp} {M : Mth} {F : Option Value → Sto → Prop} {pc npc : Nat} {l : List (Nat × Value)} {st : List Value} {s : Sto} {x y : Int} (hd : decode M.1 pc = .ok (.imul, 1)) (hn : pc + 1 = npc) (k : Go S M F npc l (iV (x * y) :: st) s) : Go S M F pc l (iV y :: iV x :: st) s := by
  subst hn
  intro p lc e u m args below meth c D cA ad H locs ls X hP hS hl
  refine lv_imul X.1 X.2.1 hd ?_
  rw [i32_mul x y]
  exact k p lc e u m args below meth c D cA ad H locs ls X hP hS hl
theorem g_iand {S : Shp} {M : Mth} {F : Option Value → Sto → Prop} {pc npc : Nat} {l : List (Nat × Value)} {st : List Value} {s : Sto} {x y : Int} (hd : decode M.1 pc = .ok (.iand, 1)) (hn : pc + 1 = npc) (k : Go S M F npc l (iV (iand x y) :: st) s) : Go S M F pc l (iV y :: iV x :: st) s := by
  subst hn
  intro p lc e u m args below meth c D cA ad H locs ls X hP hS hl
  refine lv_iand X.1 X.2.1 hd ?_
  rw [← i32_inv (Int32.ofInt x &&& Int32.ofInt y)]
  exact k p lc e u m args below meth c D cA ad H locs ls X hP hS hl
theorem g_ior {S : Shp} {M : Mth} {F : Option Value → Sto → Prop} {pc npc : Nat} {l : List (Nat × Value)} {st : List Value} {s : Sto} {x y : Int} (hd : decode M.1 pc = .ok (.ior, 1)) (hn : pc + 1 = npc) (k : Go S M F npc l (iV (ior x y) :: st) s) : Go S M F pc l (iV y :: iV x :: st) s := by
  subst hn
  intro p lc e u m args below meth c D cA ad H locs ls X hP hS hl
  refine lv_ior X.1 X.2.1 hd ?_
  rw [← i32_inv (Int32.ofInt x ||| Int32.ofInt y)]
  exact k p lc e u m args below meth c D cA ad H locs ls X hP hS hl
theorem g_ixor {S : Shp} {M : Mth} {F : Option Value → Sto → Prop} {pc npc : Nat} {l : List (Nat × Value)} {st : List Value} {s : Sto} {x y : Int} (hd : decode M.1 pc = .ok (.ixor, 1)) (hn : pc + 1 = npc) (k : Go S M F npc l (iV (ixor x y) :: st) s) : Go S M F pc l (iV y :: iV x :: st) s := by
  subst hn
  intro p lc e u m args below meth c D cA ad H locs ls X hP hS hl
  refine lv_ixor X.1 X.2.1 hd ?_
  rw [← i32_inv (Int32.ofInt x ^^^ Int32.ofInt y)]
  exact k p lc e u m args below meth c D cA ad H locs ls X hP hS hl
theorem g_ishl {S : Shp} {M : Mth} {F : Option Value → Sto → Prop} {pc npc : Nat} {l : List (Nat × Value)} {st : List Value} {s : Sto} {x y : Int} (hd : decode M.1 pc = .ok (.ishl, 1)) (hn : pc + 1 = npc) (k : Go S M F npc l (iV (ishl x y) :: st) s) : Go S M F pc l (iV y :: iV x :: st) s := by
  subst hn
  intro p lc e u m args below meth c D cA ad H locs ls X hP hS hl
  refine lv_ishl X.1 X.2.1 hd ?_
  rw [← i32_inv (Int32.ofInt x <<< (Int32.ofInt y &&& 31))]
  exact k p lc e u m args below meth c D cA ad H locs ls X hP hS hl
theorem g_ishr {S : Shp} {M : Mth} {F : Option Value → Sto → Prop} {pc npc : Nat} {l : List (Nat × Value)} {st : List Value} {s : Sto} {x y : Int} (hd : decode M.1 pc = .ok (.ishr, 1)) (hn : pc + 1 = npc) (k : Go S M F npc l (iV (ishr x y) :: st) s) : Go S M F pc l (iV y :: iV x :: st) s := by
  subst hn
  intro p lc e u m args below meth c D cA ad H locs ls X hP hS hl
  refine lv_ishr X.1 X.2.1 hd ?_
  rw [← i32_inv (Int32.ofInt x >>> (Int32.ofInt y &&& 31))]
  exact k p lc e u m args below meth c D cA ad H locs ls X hP hS hl
theorem g_ineg {S : Shp} {M : Mth} {F : Option Value → Sto → Prop} {pc npc : Nat} {l : List (Nat × Value)} {st : List Value} {s : Sto} {x : Int} (hd : decode M.1 pc = .ok (.ineg, 1)) (hn : pc + 1 = npc) (k : Go S M F npc l (iV (-x) :: st) s) : Go S M F pc l (iV x :: st) s := by
  subst hn
  intro p lc e u m args below meth c D cA ad H locs ls X hP hS hl
  refine lv_ineg X.1 X.2.1 hd ?_
  rw [i32_neg]
  exact k p lc e u m args below meth c D cA ad H locs ls X hP hS hl
theorem g_idiv {S : Shp} {M : Mth} {F : Option Value → Sto → Prop} {pc npc : Nat} {l : List (Nat × Value)} {st : List Value} {s : Sto} {x y : Int} (hd : decode M.1 pc = .ok (.idiv, 1)) (hn : pc + 1 = npc) (hr : (-2147483648 ≤ x ∧ x < 2147483648) ∧ -2147483648 ≤ y ∧ y < 2147483648) (h0 : ¬ y = 0) (k : Go S M F npc l (iV (x.tdiv y) :: st) s) : Go S M F pc l (iV y :: iV x :: st) s := by
  subst hn
  intro p lc e u m args below meth c D cA ad H locs ls X hP hS hl
  refine lv_idiv X.1 X.2.1 hd (fun z => h0 ((i32_eq (x := y) (y := 0) ⟨hr.2, by omega, by omega⟩).mp z)) ?_
  rw [i32_div hr]
  exact k p lc e u m args below meth c D cA ad H locs ls X hP hS hl
theorem g_irem {S : Shp} {M : Mth} {F : Option Value → Sto → Prop} {pc npc : Nat} {l : List (Nat × Value)} {st : List Value} {s : Sto} {x y : Int} (hd : decode M.1 pc = .ok (.irem, 1)) (hn : pc + 1 = npc) (hr : (-2147483648 ≤ x ∧ x < 2147483648) ∧ -2147483648 ≤ y ∧ y < 2147483648) (h0 : ¬ y = 0) (k : Go S M F npc l (iV (x.tmod y) :: st) s) : Go S M F pc l (iV y :: iV x :: st) s := by
  subst hn
  intro p lc e u m args below meth c D cA ad H locs ls X hP hS hl
  refine lv_irem X.1 X.2.1 hd (fun z => h0 ((i32_eq (x := y) (y := 0) ⟨hr.2, by omega, by omega⟩).mp z)) ?_
  rw [i32_rem hr]
  exact k p lc e u m args below meth c D cA ad H locs ls X hP hS hl
theorem g_ladd {S : Shp} {M : Mth} {F : Option Value → Sto → Prop} {pc npc : Nat} {l : List (Nat × Value)} {st : List Value} {s : Sto} {x y : Int} (hd : decode M.1 pc = .ok (.ladd, 1)) (hn : pc + 1 = npc) (k : Go S M F npc l (jV (x + y) :: st) s) : Go S M F pc l (jV y :: jV x :: st) s := by
  subst hn
  intro p lc e u m args below meth c D cA ad H locs ls X hP hS hl
  refine lv_ladd X.1 X.2.1 hd ?_
  rw [i64_add x y]
  exact k p lc e u m args below meth c D cA ad H locs ls X hP hS hl
theorem g_lsub {S : Shp} {M : Mth} {F : Option Value → Sto → Prop} {pc npc : Nat} {l : List (Nat × Value)} {st : List Value} {s : Sto} {x y : Int} (hd : decode M.1 pc = .ok (.lsub, 1)) (hn : pc + 1 = npc) (k : Go S M F npc l (jV (x - y) :: st) s) : Go S M F pc l (jV y :: jV x :: st) s := by
  subst hn
  intro p lc e u m args below meth c D cA ad H locs ls X hP hS hl
  refine lv_lsub X.1 X.2.1 hd ?_
  rw [i64_sub x y]
  exact k p lc e u m args below meth c D cA ad H locs ls X hP hS hl
theorem g_lmul {S : Shp} {M : Mth} {F : Option Value → Sto → Prop} {pc npc : Nat} {l : List (Nat × Value)} {st : List Value} {s : Sto} {x y : Int} (hd : decode M.1 pc = .ok (.lmul, 1)) (hn : pc + 1 = npc) (k : Go S M F npc l (jV (x * y) :: st) s) : Go S M F pc l (jV y :: jV x :: st) s := by
  subst hn
  intro p lc e u m args below meth c D cA ad H locs ls X hP hS hl
  refine lv_lmul X.1 X.2.1 hd ?_
  rw [i64_mul x y]
  exact k p lc e u m args below meth c D cA ad H locs ls X hP hS hl
theorem g_lneg {S : Shp} {M : Mth} {F : Option Value → Sto → Prop} {pc npc : Nat} {l : List (Nat × Value)} {st : List Value} {s : Sto} {x : Int} (hd : decode M.1 pc = .ok (.lneg, 1)) (hn : pc + 1 = npc) (k : Go S M F npc l (jV (-x) :: st) s) : Go S M F pc l (jV x :: st) s := by
  subst hn
  intro p lc e u m args below meth c D cA ad H locs ls X hP hS hl
  refine lv_lneg X.1 X.2.1 hd ?_
  rw [i64_neg]
  exact k p lc e u m args below meth c D cA ad H locs ls X hP hS hl
theorem g_ldiv {S : Shp} {M : Mth} {F : Option Value → Sto → Prop} {pc npc : Nat} {l : List (Nat × Value)} {st : List Value} {s : Sto} {x y : Int} (hd : decode M.1 pc = .ok (.ldiv, 1)) (hn : pc + 1 = npc) (hr : (-9223372036854775808 ≤ x ∧ x < 9223372036854775808) ∧ -9223372036854775808 ≤ y ∧ y < 9223372036854775808) (h0 : ¬ y = 0) (k : Go S M F npc l (jV (x.tdiv y) :: st) s) : Go S M F pc l (jV y :: jV x :: st) s := by
  subst hn
  intro p lc e u m args below meth c D cA ad H locs ls X hP hS hl
  refine lv_ldiv X.1 X.2.1 hd (fun z => h0 ((i64_eq (x := y) (y := 0) ⟨hr.2, by omega, by omega⟩).mp z)) ?_
  rw [i64_div hr]
  exact k p lc e u m args below meth c D cA ad H locs ls X hP hS hl
theorem g_lrem {S : Shp} {M : Mth} {F : Option Value → Sto → Prop} {pc npc : Nat} {l : List (Nat × Value)} {st : List Value} {s : Sto} {x y : Int} (hd : decode M.1 pc = .ok (.lrem, 1)) (hn : pc + 1 = npc) (hr : (-9223372036854775808 ≤ x ∧ x < 9223372036854775808) ∧ -9223372036854775808 ≤ y ∧ y < 9223372036854775808) (h0 : ¬ y = 0) (k : Go S M F npc l (jV (x.tmod y) :: st) s) : Go S M F pc l (jV y :: jV x :: st) s := by
  subst hn
  intro p lc e u m args below meth c D cA ad H locs ls X hP hS hl
  refine lv_lrem X.1 X.2.1 hd (fun z => h0 ((i64_eq (x := y) (y := 0) ⟨hr.2, by omega, by omega⟩).mp z)) ?_
  rw [i64_rem hr]
  exact k p lc e u m args below meth c D cA ad H locs ls X hP hS hl
theorem g_i2l {S : Shp} {M : Mth} {F : Option Value → Sto → Prop} {pc npc : Nat} {l : List (Nat × Value)} {st : List Value} {s : Sto} {x : Int} (hd : decode M.1 pc = .ok (.i2l, 1)) (hn : pc + 1 = npc) (hr : -2147483648 ≤ x ∧ x < 2147483648) (k : Go S M F npc l (jV x :: st) s) : Go S M F pc l (iV x :: st) s := by
  subst hn
  intro p lc e u m args below meth c D cA ad H locs ls X hP hS hl
  exact lv_i2l X.1 X.2.1 hd (i32_i2l hr) (k p lc e u m args below meth c D cA ad H locs ls X hP hS hl)
theorem g_l2i {S : Shp} {M : Mth} {F : Option Value → Sto → Prop} {pc npc : Nat} {l : List (Nat × Value)} {st : List Value} {s : Sto} {x : Int} (hd : decode M.1 pc = .ok (.l2i, 1)) (hn : pc + 1 = npc) (k : Go S M F npc l (iV x :: st) s) : Go S M F pc l (jV x :: st) s := by
  subst hn
  intro p lc e u m args below meth c D cA ad H locs ls X hP hS hl
  exact lv_l2i X.1 X.2.1 hd (i64_l2i x) (k p lc e u m args below meth c D cA ad H locs ls X hP hS hl)
theorem g_dup {S : Shp} {M : Mth} {F : Option Value → Sto → Prop} {pc npc : Nat} {l : List (Nat × Value)} {st : List Value} {s : Sto} {v : Value} (hd : decode M.1 pc = .ok (.dup, 1)) (hn : pc + 1 = npc) (hc : v.category = 1) (k : Go S M F npc l (v :: v :: st) s) : Go S M F pc l (v :: st) s := by
  subst hn
  intro p lc e u m args below meth c D cA ad H locs ls X hP hS hl
  exact lv_dup X.1 X.2.1 hd (by rw [tv_cat]; exact hc) (k p lc e u m args below meth c D cA ad H locs ls X hP hS hl)
theorem g_pop {S : Shp} {M : Mth} {F : Option Value → Sto → Prop} {pc npc : Nat} {l : List (Nat × Value)} {st : List Value} {s : Sto} {v : Value} (hd : decode M.1 pc = .ok (.pop, 1)) (hn : pc + 1 = npc) (hc : v.category = 1) (k : Go S M F npc l (st) s) : Go S M F pc l (v :: st) s := by
  subst hn
  intro p lc e u m args below meth c D cA ad H locs ls X hP hS hl
  exact lv_pop X.1 X.2.1 hd (by rw [tv_cat]; exact hc) (k p lc e u m args below meth c D cA ad H locs ls X hP hS hl)
theorem g_dup2 {S : Shp} {M : Mth} {F : Option Value → Sto → Prop} {pc npc : Nat} {l : List (Nat × Value)} {st : List Value} {s : Sto} {v w : Value} (hd : decode M.1 pc = .ok (.dup2, 1)) (hn : pc + 1 = npc) (hc : v.category = 1) (hc2 : w.category = 1) (k : Go S M F npc l (v :: w :: v :: w :: st) s) : Go S M F pc l (v :: w :: st) s := by
  subst hn
  intro p lc e u m args below meth c D cA ad H locs ls X hP hS hl
  exact lv_dup2_11 X.1 X.2.1 hd (by rw [tv_cat]; exact hc) (by rw [tv_cat]; exact hc2) (k p lc e u m args below meth c D cA ad H locs ls X hP hS hl)
theorem g_if_eq {S : Shp} {M : Mth} {F : Option Value → Sto → Prop} {pc npc : Nat} {l : List (Nat × Value)} {st : List Value} {s : Sto} {tgt : Nat} {off : Int} {x : Int} (hd : decode M.1 pc = .ok (.ifCond .eq off, 3)) (hn : pc + 3 = npc) (ht : (pc : Int) + off = (tgt : Int)) (hr : -2147483648 ≤ x ∧ x < 2147483648) (kt : (x = 0) → Go S M F tgt l st s) (kf : ¬ (x = 0) → Go S M F npc l st s) : Go S M F pc l (iV x :: st) s := by
  subst hn
  intro p lc e u m args below meth c D cA ad H locs ls X hP hS hl
  refine lv_if_eq X.1 X.2.1 hd ht (fun q => ?_) (fun q => ?_)
  · exact kt ((i32_eq (y := 0) ⟨hr, by omega, by omega⟩).mp q) p lc e u m args below meth c D cA ad H locs ls X hP hS hl
  · exact kf (fun z => q ((i32_eq (y := 0) ⟨hr, by omega, by omega⟩).mpr z)) p lc e u m args below meth c D cA ad H locs ls X hP hS hl
theorem g_icmp_eq {S : Shp} {M : Mth} {F : Option Value → Sto → Prop} {pc npc : Nat} {l : List (Nat × Value)} {st : List Value} {s : Sto} {tgt : Nat} {off : Int} {x y : Int} (hd : decode M.1 pc = .ok (.if_icmp .eq off, 3)) (hn : pc + 3 = npc) (ht : (pc : Int) + off = (tgt : Int)) (hr : (-2147483648 ≤ x ∧ x < 2147483648) ∧ -2147483648 ≤ y ∧ y < 2147483648) (kt : (x = y) → Go S M F tgt l st s) (kf : ¬ (x = y) → Go S M F npc l st s) : Go S M F pc l (iV y :: iV x :: st) s := by
  subst hn
  intro p lc e u m args below meth c D cA ad H locs ls X hP hS hl
  refine lv_icmp_eq X.1 X.2.1 hd ht (fun q => ?_) (fun q => ?_)
  · exact kt ((i32_eq hr).mp q) p lc e u m args below meth c D cA ad H locs ls X hP hS hl
  · exact kf (fun z => q ((i32_eq hr).mpr z)) p lc e u m args below meth c D cA ad H locs ls X hP hS hl
theorem g_if_ne {S : Shp} {M : Mth} {F : Option Value → Sto → Prop} {pc npc : Nat} {l : List (Nat × Value)} {st : List Value} {s : Sto} {tgt : Nat} {off : Int} {x : Int} (hd : decode M.1 pc = .ok (.ifCond .ne off, 3)) (hn : pc + 3 = npc) (ht : (pc : Int) + off = (tgt : Int)) (hr : -2147483648 ≤ x ∧ x < 2147483648) (kt : (¬ x = 0) → Go S M F tgt l st s) (kf : ¬ (¬ x = 0) → Go S M F npc l st s) : Go S M F pc l (iV x :: st) s := by
  subst hn
  intro p lc e u m args below meth c D cA ad H locs ls X hP hS hl
  refine lv_if_ne X.1 X.2.1 hd ht (fun q => ?_) (fun q => ?_)
  · exact kt ((not_congr (i32_eq (y := 0) ⟨hr, by omega, by omega⟩)).mp q) p lc e u m args below meth c D cA ad H locs ls X hP hS hl
  · exact kf (fun z => z ((i32_eq (y := 0) ⟨hr, by omega, by omega⟩).mp q)) p lc e u m args below meth c D cA ad H locs ls X hP hS hl
theorem g_icmp_ne {S : Shp} {M : Mth} {F : Option Value → Sto → Prop} {pc npc : Nat} {l : List (Nat × Value)} {st : List Value} {s : Sto} {tgt : Nat} {off : Int} {x y : Int} (hd : decode M.1 pc = .ok (.if_icmp .ne off, 3)) (hn : pc + 3 = npc) (ht : (pc : Int) + off = (tgt : Int)) (hr : (-2147483648 ≤ x ∧ x < 2147483648) ∧ -2147483648 ≤ y ∧ y < 2147483648) (kt : (¬ x = y) → Go S M F tgt l st s) (kf : ¬ (¬ x = y) → Go S M F npc l st s) : Go S M F pc l (iV y :: iV x :: st) s := by
  subst hn
  intro p lc e u m args below meth c D cA ad H locs ls X hP hS hl
  refine lv_icmp_ne X.1 X.2.1 hd ht (fun q => ?_) (fun q => ?_)
  · exact kt ((not_congr (i32_eq hr)).mp q) p lc e u m args below meth c D cA ad H locs ls X hP hS hl
  · exact kf (fun z => z ((i32_eq hr).mp q)) p lc e u m args below meth c D cA ad H locs ls X hP hS hl
theorem g_if_lt {S : Shp} {M : Mth} {F : Option Value → Sto → Prop} {pc npc : Nat} {l : List (Nat × Value)} {st : List Value} {s : Sto} {tgt : Nat} {off : Int} {x : Int} (hd : decode M.1 pc = .ok (.ifCond .lt off, 3)) (hn : pc + 3 = npc) (ht : (pc : Int) + off = (tgt : Int)) (hr : -2147483648 ≤ x ∧ x < 2147483648) (kt : (x < 0) → Go S M F tgt l st s) (kf : ¬ (x < 0) → Go S M F npc l st s) : Go S M F pc l (iV x :: st) s := by
  subst hn
  intro p lc e u m args below meth c D cA ad H locs ls X hP hS hl
  refine lv_if_lt X.1 X.2.1 hd ht (fun q => ?_) (fun q => ?_)
  · exact kt ((i32_lt (y := 0) ⟨hr, by omega, by omega⟩).mp q) p lc e u m args below meth c D cA ad H locs ls X hP hS hl
  · exact kf (fun z => q ((i32_lt (y := 0) ⟨hr, by omega, by omega⟩).mpr z)) p lc e u m args below meth c D cA ad H locs ls X hP hS hl
theorem g_icmp_lt {S : Shp} {M : Mth} {F : Option Value → Sto → Prop} {pc npc : Nat} {l : List (Nat × Value)} {st : List Value} {s : Sto} {tgt : Nat} {off : Int} {x y : Int} (hd : decode M.1 pc = .ok (.if_icmp .lt off, 3)) (hn : pc + 3 = npc) (ht : (pc : Int) + off = (tgt : Int)) (hr : (-2147483648 ≤ x ∧ x < 2147483648) ∧ -2147483648 ≤ y ∧ y < 2147483648) (kt : (x < y) → Go S M F tgt l st s) (kf : ¬ (x < y) → Go S M F npc l st s) : Go S M F pc l (iV y :: iV x :: st) s := by
  subst hn
  intro p lc e u m args below meth c D cA ad H locs ls X hP hS hl
  refine lv_icmp_lt X.1 X.2.1 hd ht (fun q => ?_) (fun q => ?_)
  · exact kt ((i32_lt hr).mp q) p lc e u m args below meth c D cA ad H locs ls X hP hS hl
  · exact kf (fun z => q ((i32_lt hr).mpr z)) p lc e u m args below meth c D cA ad H locs ls X hP hS hl
theorem g_if_ge {S : Shp} {M : Mth} {F : Option Value → Sto → Prop} {pc npc : Nat} {l : List (Nat × Value)} {st : List Value} {s : Sto} {tgt : Nat} {off : Int} {x : Int} (hd : decode M.1 pc = .ok (.ifCond .ge off, 3)) (hn : pc + 3 = npc) (ht : (pc : Int) + off = (tgt : Int)) (hr : -2147483648 ≤ x ∧ x < 2147483648) (kt : (0 ≤ x) → Go S M F tgt l st s) (kf : ¬ (0 ≤ x) → Go S M F npc l st s) : Go S M F pc l (iV x :: st) s := by
  subst hn
  intro p lc e u m args below meth c D cA ad H locs ls X hP hS hl
  refine lv_if_ge X.1 X.2.1 hd ht (fun q => ?_) (fun q => ?_)
  · exact kt ((i32_le (x := 0) ⟨⟨by omega, by omega⟩, hr⟩).mp q) p lc e u m args below meth c D cA ad H locs ls X hP hS hl
  · exact kf (fun z => q ((i32_le (x := 0) ⟨⟨by omega, by omega⟩, hr⟩).mpr z)) p lc e u m args below meth c D cA ad H locs ls X hP hS hl
theorem g_icmp_ge {S : Shp} {M : Mth} {F : Option Value → Sto → Prop} {pc npc : Nat} {l : List (Nat × Value)} {st : List Value} {s : Sto} {tgt : Nat} {off : Int} {x y : Int} (hd : decode M.1 pc = .ok (.if_icmp .ge off, 3)) (hn : pc + 3 = npc) (ht : (pc : Int) + off = (tgt : Int)) (hr : (-2147483648 ≤ x ∧ x < 2147483648) ∧ -2147483648 ≤ y ∧ y < 2147483648) (kt : (y ≤ x) → Go S M F tgt l st s) (kf : ¬ (y ≤ x) → Go S M F npc l st s) : Go S M F pc l (iV y :: iV x :: st) s := by
  subst hn
  intro p lc e u m args below meth c D cA ad H locs ls X hP hS hl
  refine lv_icmp_ge X.1 X.2.1 hd ht (fun q => ?_) (fun q => ?_)
  · exact kt ((i32_le ⟨hr.2, hr.1⟩).mp q) p lc e u m args below meth c D cA ad H locs ls X hP hS hl
  · exact kf (fun z => q ((i32_le ⟨hr.2, hr.1⟩).mpr z)) p lc e u m args below meth c D cA ad H locs ls X hP hS hl
theorem g_if_gt {S : Shp} {M : Mth} {F : Option Value → Sto → Prop} {pc npc : Nat} {l : List (Nat × Value)} {st : List Value} {s : Sto} {tgt : Nat} {off : Int} {x : Int} (hd : decode M.1 pc = .ok (.ifCond .gt off, 3)) (hn : pc + 3 = npc) (ht : (pc : Int) + off = (tgt : Int)) (hr : -2147483648 ≤ x ∧ x < 2147483648) (kt : (0 < x) → Go S M F tgt l st s) (kf : ¬ (0 < x) → Go S M F npc l st s) : Go S M F pc l (iV x :: st) s := by
  subst hn
  intro p lc e u m args below meth c D cA ad H locs ls X hP hS hl
  refine lv_if_gt X.1 X.2.1 hd ht (fun q => ?_) (fun q => ?_)
  · exact kt ((i32_lt (x := 0) ⟨⟨by omega, by omega⟩, hr⟩).mp q) p lc e u m args below meth c D cA ad H locs ls X hP hS hl
  · exact kf (fun z => q ((i32_lt (x := 0) ⟨⟨by omega, by omega⟩, hr⟩).mpr z)) p lc e u m args below meth c D cA ad H locs ls X hP hS hl
theorem g_icmp_gt {S : Shp} {M : Mth} {F : Option Value → Sto → Prop} {pc npc : Nat} {l : List (Nat × Value)} {st : List Value} {s : Sto} {tgt : Nat} {off : Int} {x y : Int} (hd : decode M.1 pc = .ok (.if_icmp .gt off, 3)) (hn : pc + 3 = npc) (ht : (pc : Int) + off = (tgt : Int)) (hr : (-2147483648 ≤ x ∧ x < 2147483648) ∧ -2147483648 ≤ y ∧ y < 2147483648) (kt : (y < x) → Go S M F tgt l st s) (kf : ¬ (y < x) → Go S M F npc l st s) : Go S M F pc l (iV y :: iV x :: st) s := by
  subst hn
  intro p lc e u m args below meth c D cA ad H locs ls X hP hS hl
  refine lv_icmp_gt X.1 X.2.1 hd ht (fun q => ?_) (fun q => ?_)
  · exact kt ((i32_lt ⟨hr.2, hr.1⟩).mp q) p lc e u m args below meth c D cA ad H locs ls X hP hS hl
  · exact kf (fun z => q ((i32_lt ⟨hr.2, hr.1⟩).mpr z)) p lc e u m args below meth c D cA ad H locs ls X hP hS hl
theorem g_if_le {S : Shp} {M : Mth} {F : Option Value → Sto → Prop} {pc npc : Nat} {l : List (Nat × Value)} {st : List Value} {s : Sto} {tgt : Nat} {off : Int} {x : Int} (hd : decode M.1 pc = .ok (.ifCond .le off, 3)) (hn : pc + 3 = npc) (ht : (pc : Int) + off = (tgt : Int)) (hr : -2147483648 ≤ x ∧ x < 2147483648) (kt : (x ≤ 0) → Go S M F tgt l st s) (kf : ¬ (x ≤ 0) → Go S M F npc l st s) : Go S M F pc l (iV x :: st) s := by
  subst hn
  intro p lc e u m args below meth c D cA ad H locs ls X hP hS hl
  refine lv_if_le X.1 X.2.1 hd ht (fun q => ?_) (fun q => ?_)
  · exact kt ((i32_le (y := 0) ⟨hr, by omega, by omega⟩).mp q) p lc e u m args below meth c D cA ad H locs ls X hP hS hl
  · exact kf (fun z => q ((i32_le (y := 0) ⟨hr, by omega, by omega⟩).mpr z)) p lc e u m args below meth c D cA ad H locs ls X hP hS hl
theorem g_icmp_le {S : Shp} {M : Mth} {F : Option Value → Sto → Prop} {pc npc : Nat} {l : List (Nat × Value)} {st : List Value} {s : Sto} {tgt : Nat} {off : Int} {x y : Int} (hd : decode M.1 pc = .ok (.if_icmp .le off, 3)) (hn : pc + 3 = npc) (ht : (pc : Int) + off = (tgt : Int)) (hr : (-2147483648 ≤ x ∧ x < 2147483648) ∧ -2147483648 ≤ y ∧ y < 2147483648) (kt : (x ≤ y) → Go S M F tgt l st s) (kf : ¬ (x ≤ y) → Go S M F npc l st s) : Go S M F pc l (iV y :: iV x :: st) s := by
  subst hn
  intro p lc e u m args below meth c D cA ad H locs ls X hP hS hl
  refine lv_icmp_le X.1 X.2.1 hd ht (fun q => ?_) (fun q => ?_)
  · exact kt ((i32_le hr).mp q) p lc e u m args below meth c D cA ad H locs ls X hP hS hl
  · exact kf (fun z => q ((i32_le hr).mpr z)) p lc e u m args below meth c D cA ad H locs ls X hP hS hl
theorem g_goto {S : Shp} {M : Mth} {F : Option Value → Sto → Prop} {pc npc : Nat} {l : List (Nat × Value)} {st : List Value} {s : Sto} {off : Int} (hd : decode M.1 pc = .ok (.goto off, 3)) (ht : (pc : Int) + off = (npc : Int)) (k : Go S M F npc l st s) : Go S M F pc l st s := by
  intro p lc e u m args below meth c D cA ad H locs ls X hP hS hl
  exact lv_goto X.1 X.2.1 hd ht (k p lc e u m args below meth c D cA ad H locs ls X hP hS hl)
def lcm (x y : Int) : Int := if y < x then 1 else if x = y then 0 else -1
theorem lg_lcm {x y : Int} (h : (-9223372036854775808 ≤ x ∧ x < 9223372036854775808) ∧ -9223372036854775808 ≤ y ∧ y < 9223372036854775808) : lg_cmp (Int64.ofInt x) (Int64.ofInt y) = Int32.ofInt (lcm x y) := by
  unfold lg_cmp lcm
  have e1 : (Int64.ofInt x > Int64.ofInt y) ↔ y < x := i64_lt ⟨h.2, h.1⟩
  have e2 : (Int64.ofInt x = Int64.ofInt y) ↔ x = y := i64_eq h
  simp only [e1, e2]
  split
  · rfl
  · split <;> rfl
theorem lcm_r (x y : Int) : -2147483648 ≤ lcm x y ∧ lcm x y < 2147483648 := by
  unfold lcm
  split
  · decide
  · split <;> decide
theorem lcm_eq (x y : Int) : lcm x y = 0 ↔ x = y := by unfold lcm; split <;> (try split) <;> omega
theorem lcm_lt (x y : Int) : lcm x y < 0 ↔ x < y := by unfold lcm; split <;> (try split) <;> omega
theorem lcm_ge (x y : Int) : 0 ≤ lcm x y ↔ y ≤ x := by unfold lcm; split <;> (try split) <;> omega
theorem lcm_gt (x y : Int) : 0 < lcm x y ↔ y < x := by unfold lcm; split <;> (try split) <;> omega
theorem lcm_le (x y : Int) : lcm x y ≤ 0 ↔ x ≤ y := by unfold lcm; split <;> (try split) <;> omega
theorem g_lcmp {S : Shp} {M : Mth} {F : Option Value → Sto → Prop} {pc npc : Nat} {l : List (Nat × Value)} {st : List Value} {s : Sto} {x y : Int} (hd : decode M.1 pc = .ok (.lcmp, 1)) (hn : pc + 1 = npc) (hr : (-9223372036854775808 ≤ x ∧ x < 9223372036854775808) ∧ -9223372036854775808 ≤ y ∧ y < 9223372036854775808) (k : Go S M F npc l (iV (lcm x y) :: st) s) : Go S M F pc l (jV y :: jV x :: st) s := by
  subst hn
  intro p lc e u m args below meth c D cA ad H locs ls X hP hS hl
  refine W.lcmp X.1 X.2.1 hd ?_
  rw [lg_lcm hr]
  exact k p lc e u m args below meth c D cA ad H locs ls X hP hS hl
theorem g_leq {S : Shp} {M : Mth} {F : Option Value → Sto → Prop} {pc npc : Nat} {l : List (Nat × Value)} {st : List Value} {s : Sto} {pc2 : Nat} {tgt : Nat} {off : Int} {x y : Int} (hd : decode M.1 pc = .ok (.lcmp, 1)) (hn2 : pc + 1 = pc2) (hd2 : decode M.1 pc2 = .ok (.ifCond .eq off, 3)) (hn : pc2 + 3 = npc) (ht : (pc2 : Int) + off = (tgt : Int)) (hr : (-9223372036854775808 ≤ x ∧ x < 9223372036854775808) ∧ -9223372036854775808 ≤ y ∧ y < 9223372036854775808) (kt : (x = y) → Go S M F tgt l st s) (kf : ¬ (x = y) → Go S M F npc l st s) : Go S M F pc l (jV y :: jV x :: st) s :=
  g_lcmp hd hn2 hr (g_if_eq hd2 hn ht (lcm_r x y) (fun q => kt ((lcm_eq x y).mp q)) (fun q => kf (fun z => q ((lcm_eq x y).mpr z))))
theorem g_lne {S : Shp} {M : Mth} {F : Option Value → Sto → Prop} {pc npc : Nat} {l : List (Nat × Value)} {st : List Value} {s : Sto} {pc2 : Nat} {tgt : Nat} {off : Int} {x y : Int} (hd : decode M.1 pc = .ok (.lcmp, 1)) (hn2 : pc + 1 = pc2) (hd2 : decode M.1 pc2 = .ok (.ifCond .ne off, 3)) (hn : pc2 + 3 = npc) (ht : (pc2 : Int) + off = (tgt : Int)) (hr : (-9223372036854775808 ≤ x ∧ x < 9223372036854775808) ∧ -9223372036854775808 ≤ y ∧ y < 9223372036854775808) (kt : (¬ x = y) → Go S M F tgt l st s) (kf : ¬ (¬ x = y) → Go S M F npc l st s) : Go S M F pc l (jV y :: jV x :: st) s :=
  g_lcmp hd hn2 hr (g_if_ne hd2 hn ht (lcm_r x y) (fun q => kt (fun z => q ((lcm_eq x y).mpr z))) (fun q => kf (fun z => q (fun w => z ((lcm_eq x y).mp w)))))
theorem g_llt {S : Shp} {M : Mth} {F : Option Value → Sto → Prop} {pc npc : Nat} {l : List (Nat × Value)} {st : List Value} {s : Sto} {pc2 : Nat} {tgt : Nat} {off : Int} {x y : Int} (hd : decode M.1 pc = .ok (.lcmp, 1)) (hn2 : pc + 1 = pc2) (hd2 : decode M.1 pc2 = .ok (.ifCond .lt off, 3)) (hn : pc2 + 3 = npc) (ht : (pc2 : Int) + off = (tgt : Int)) (hr : (-9223372036854775808 ≤ x ∧ x < 9223372036854775808) ∧ -9223372036854775808 ≤ y ∧ y < 9223372036854775808) (kt : (x < y) → Go S M F tgt l st s) (kf : ¬ (x < y) → Go S M F npc l st s) : Go S M F pc l (jV y :: jV x :: st) s :=
  g_lcmp hd hn2 hr (g_if_lt hd2 hn ht (lcm_r x y) (fun q => kt ((lcm_lt x y).mp q)) (fun q => kf (fun z => q ((lcm_lt x y).mpr z))))
theorem g_lge {S : Shp} {M : Mth} {F : Option Value → Sto → Prop} {pc npc : Nat} {l : List (Nat × Value)} {st : List Value} {s : Sto} {pc2 : Nat} {tgt : Nat} {off : Int} {x y : Int} (hd : decode M.1 pc = .ok (.lcmp, 1)) (hn2 : pc + 1 = pc2) (hd2 : decode M.1 pc2 = .ok (.ifCond .ge off, 3)) (hn : pc2 + 3 = npc) (ht : (pc2 : Int) + off = (tgt : Int)) (hr : (-9223372036854775808 ≤ x ∧ x < 9223372036854775808) ∧ -9223372036854775808 ≤ y ∧ y < 9223372036854775808) (kt : (y ≤ x) → Go S M F tgt l st s) (kf : ¬ (y ≤ x) → Go S M F npc l st s) : Go S M F pc l (jV y :: jV x :: st) s :=
  g_lcmp hd hn2 hr (g_if_ge hd2 hn ht (lcm_r x y) (fun q => kt ((lcm_ge x y).mp q)) (fun q => kf (fun z => q ((lcm_ge x y).mpr z))))
theorem g_lgt {S : Shp} {M : Mth} {F : Option Value → Sto → Prop} {pc npc : Nat} {l : List (Nat × Value)} {st : List Value} {s : Sto} {pc2 : Nat} {tgt : Nat} {off : Int} {x y : Int} (hd : decode M.1 pc = .ok (.lcmp, 1)) (hn2 : pc + 1 = pc2) (hd2 : decode M.1 pc2 = .ok (.ifCond .gt off, 3)) (hn : pc2 + 3 = npc) (ht : (pc2 : Int) + off = (tgt : Int)) (hr : (-9223372036854775808 ≤ x ∧ x < 9223372036854775808) ∧ -9223372036854775808 ≤ y ∧ y < 9223372036854775808) (kt : (y < x) → Go S M F tgt l st s) (kf : ¬ (y < x) → Go S M F npc l st s) : Go S M F pc l (jV y :: jV x :: st) s :=
  g_lcmp hd hn2 hr (g_if_gt hd2 hn ht (lcm_r x y) (fun q => kt ((lcm_gt x y).mp q)) (fun q => kf (fun z => q ((lcm_gt x y).mpr z))))
theorem g_lle {S : Shp} {M : Mth} {F : Option Value → Sto → Prop} {pc npc : Nat} {l : List (Nat × Value)} {st : List Value} {s : Sto} {pc2 : Nat} {tgt : Nat} {off : Int} {x y : Int} (hd : decode M.1 pc = .ok (.lcmp, 1)) (hn2 : pc + 1 = pc2) (hd2 : decode M.1 pc2 = .ok (.ifCond .le off, 3)) (hn : pc2 + 3 = npc) (ht : (pc2 : Int) + off = (tgt : Int)) (hr : (-9223372036854775808 ≤ x ∧ x < 9223372036854775808) ∧ -9223372036854775808 ≤ y ∧ y < 9223372036854775808) (kt : (x ≤ y) → Go S M F tgt l st s) (kf : ¬ (x ≤ y) → Go S M F npc l st s) : Go S M F pc l (jV y :: jV x :: st) s :=
  g_lcmp hd hn2 hr (g_if_le hd2 hn ht (lcm_r x y) (fun q => kt ((lcm_le x y).mp q)) (fun q => kf (fun z => q ((lcm_le x y).mpr z))))
def ar (S : Shp) (k t n : Nat) : Prop := k < nc S ∧ kd S k = t ∧ ln S k = n ∧ n < 2147483648
theorem wd_iald {S : Shp} {ad : Nat → Nat} {cA : Nat → ClassId} {s : Sto} {k n : Nat} (h : ar S k 1 n) : (wd S ad cA s)[k]? = some (ad k, .inl (cA 1, n, .inl (fun i => Int32.ofInt (s k i)))) := by
  obtain ⟨h1, h2, h3, -⟩ := h
  rw [wd_at h1]
  simp [cE, h2, h3]
theorem g_iald {S : Shp} {M : Mth} {F : Option Value → Sto → Prop} {pc npc : Nat} {l : List (Nat × Value)} {st : List Value} {s : Sto} {k n : Nat} {i : Int} (hd : decode M.1 pc = .ok (.iaload, 1)) (hn : pc + 1 = npc) (hk : ar S k 1 n) (hi : 0 ≤ i ∧ i < n) (k' : Go S M F npc l (iV (s k i.toNat) :: st) s) : Go S M F pc l (iV i :: .ref k :: st) s := by
  subst hn
  intro p lc e u m args below meth c D cA ad H locs ls X hP hS hl
  obtain ⟨a1, a2⟩ := i32_ix hi hk.2.2.2
  refine va_iald X.1 X.2.1 X.2.2.2.2.2.2.2.1 hP k 0 (wd_iald hk) rfl a1 hd ?_
  rw [a2]
  exact k' p lc e u m args below meth c D cA ad H locs ls X hP hS hl
theorem wd_lald {S : Shp} {ad : Nat → Nat} {cA : Nat → ClassId} {s : Sto} {k n : Nat} (h : ar S k 2 n) : (wd S ad cA s)[k]? = some (ad k, .inl (cA 2, n, .inr (.inl (fun i => Int64.ofInt (s k i))))) := by
  obtain ⟨h1, h2, h3, -⟩ := h
  rw [wd_at h1]
  simp [cE, h2, h3]
theorem g_lald {S : Shp} {M : Mth} {F : Option Value → Sto → Prop} {pc npc : Nat} {l : List (Nat × Value)} {st : List Value} {s : Sto} {k n : Nat} {i : Int} (hd : decode M.1 pc = .ok (.laload, 1)) (hn : pc + 1 = npc) (hk : ar S k 2 n) (hi : 0 ≤ i ∧ i < n) (k' : Go S M F npc l (jV (s k i.toNat) :: st) s) : Go S M F pc l (iV i :: .ref k :: st) s := by
  subst hn
  intro p lc e u m args below meth c D cA ad H locs ls X hP hS hl
  obtain ⟨a1, a2⟩ := i32_ix hi hk.2.2.2
  refine va_lald X.1 X.2.1 X.2.2.2.2.2.2.2.1 hP k 1 (wd_lald hk) rfl a1 hd ?_
  rw [a2]
  exact k' p lc e u m args below meth c D cA ad H locs ls X hP hS hl
theorem wd_cald {S : Shp} {ad : Nat → Nat} {cA : Nat → ClassId} {s : Sto} {k n : Nat} (h : ar S k 3 n) : (wd S ad cA s)[k]? = some (ad k, .inl (cA 3, n, .inl (fun i => Int32.ofInt (s k i)))) := by
  obtain ⟨h1, h2, h3, -⟩ := h
  rw [wd_at h1]
  simp [cE, h2, h3]
theorem g_cald {S : Shp} {M : Mth} {F : Option Value → Sto → Prop} {pc npc : Nat} {l : List (Nat × Value)} {st : List Value} {s : Sto} {k n : Nat} {i : Int} (hd : decode M.1 pc = .ok (.caload, 1)) (hn : pc + 1 = npc) (hk : ar S k 3 n) (hi : 0 ≤ i ∧ i < n) (k' : Go S M F npc l (iV (s k i.toNat) :: st) s) : Go S M F pc l (iV i :: .ref k :: st) s := by
  subst hn
  intro p lc e u m args below meth c D cA ad H locs ls X hP hS hl
  obtain ⟨a1, a2⟩ := i32_ix hi hk.2.2.2
  refine va_cald X.1 X.2.1 X.2.2.2.2.2.2.2.1 hP k 2 (wd_cald hk) rfl a1 hd ?_
  rw [a2]
  exact k' p lc e u m args below meth c D cA ad H locs ls X hP hS hl
theorem wd_zald {S : Shp} {ad : Nat → Nat} {cA : Nat → ClassId} {s : Sto} {k n : Nat} (h : ar S k 4 n) : (wd S ad cA s)[k]? = some (ad k, .inl (cA 4, n, .inl (fun i => Int32.ofInt (s k i)))) := by
  obtain ⟨h1, h2, h3, -⟩ := h
  rw [wd_at h1]
  simp [cE, h2, h3]
theorem g_zald {S : Shp} {M : Mth} {F : Option Value → Sto → Prop} {pc npc : Nat} {l : List (Nat × Value)} {st : List Value} {s : Sto} {k n : Nat} {i : Int} (hd : decode M.1 pc = .ok (.baload, 1)) (hn : pc + 1 = npc) (hk : ar S k 4 n) (hi : 0 ≤ i ∧ i < n) (k' : Go S M F npc l (iV (s k i.toNat) :: st) s) : Go S M F pc l (iV i :: .ref k :: st) s := by
  subst hn
  intro p lc e u m args below meth c D cA ad H locs ls X hP hS hl
  obtain ⟨a1, a2⟩ := i32_ix hi hk.2.2.2
  refine va_zald X.1 X.2.1 X.2.2.2.2.2.2.2.1 hP k 3 (wd_zald hk) rfl a1 hd ?_
  rw [a2]
  exact k' p lc e u m args below meth c D cA ad H locs ls X hP hS hl
theorem wd_iset {S : Shp} {ad : Nat → Nat} {cA : Nat → ClassId} {s : Sto} {k n t i : Nat} {x : Int} (h : ar S k t n) (ht : t = 1 ∨ t = 3 ∨ t = 4) : (wd S ad cA s).set k (ad k, .inl (cA t, n, .inl (upd (fun j => Int32.ofInt (s k j)) i (Int32.ofInt x)))) = wd S ad cA (up s k i x) := by
  obtain ⟨h1, h2, h3, -⟩ := h
  refine wd_set h1 ?_ (fun j _ hj => cE_up_ne hj)
  have e : (upd (fun j => Int32.ofInt (s k j)) i (Int32.ofInt x)) = (fun j => Int32.ofInt (up s k i x k j)) := by
    funext j
    by_cases hj : j = i
    · subst hj; simp [upd, up]
    · simp [upd, up, hj]
  rw [e]
  rcases ht with rfl | rfl | rfl <;> simp [cE, h2, h3]
theorem wd_jset {S : Shp} {ad : Nat → Nat} {cA : Nat → ClassId} {s : Sto} {k n i : Nat} {x : Int} (h : ar S k 2 n) : (wd S ad cA s).set k (ad k, .inl (cA 2, n, .inr (.inl (vp_updL (fun j => Int64.ofInt (s k j)) i (Int64.ofInt x))))) = wd S ad cA (up s k i x) := by
  obtain ⟨h1, h2, h3, -⟩ := h
  refine wd_set h1 ?_ (fun j _ hj => cE_up_ne hj)
  have e : (vp_updL (fun j => Int64.ofInt (s k j)) i (Int64.ofInt x)) = (fun j => Int64.ofInt (up s k i x k j)) := by
    funext j
    by_cases hj : j = i
    · subst hj; simp [vp_updL, up]
    · simp [vp_updL, up, hj]
  rw [e]
  simp [cE, h2, h3]
theorem g_iast {S : Shp} {M : Mth} {F : Option Value → Sto → Prop} {pc npc : Nat} {l : List (Nat × Value)} {st : List Value} {s : Sto} {k n : Nat} {i x : Int} (hd : decode M.1 pc = .ok (.iastore, 1)) (hn : pc + 1 = npc) (hk : ar S k 1 n) (hi : 0 ≤ i ∧ i < n) (k' : Go S M F npc l st (up s k i.toNat x)) : Go S M F pc l (iV x :: iV i :: .ref k :: st) s := by
  subst hn
  intro p lc e u m args below meth c D cA ad H locs ls X hP hS hl
  obtain ⟨a1, a2⟩ := i32_ix hi hk.2.2.2
  refine va_iast X.1 X.2.1 X.2.2.2.2.2.2.2.1 hP (wd_D X.2.2.2.2.2.2.2.2.1) hS k 0 (wd_iald hk) rfl a1 hd (fun H1 locs1 hP1 hD1 hS1 => ?_)
  rw [a2, wd_iset hk (Or.inl rfl)] at hP1
  exact k' p lc e u m args below meth c D cA ad H1 locs1 ls X hP1 hS1 hl
theorem g_last {S : Shp} {M : Mth} {F : Option Value → Sto → Prop} {pc npc : Nat} {l : List (Nat × Value)} {st : List Value} {s : Sto} {k n : Nat} {i x : Int} (hd : decode M.1 pc = .ok (.lastore, 1)) (hn : pc + 1 = npc) (hk : ar S k 2 n) (hi : 0 ≤ i ∧ i < n) (k' : Go S M F npc l st (up s k i.toNat x)) : Go S M F pc l (jV x :: iV i :: .ref k :: st) s := by
  subst hn
  intro p lc e u m args below meth c D cA ad H locs ls X hP hS hl
  obtain ⟨a1, a2⟩ := i32_ix hi hk.2.2.2
  refine va_last X.1 X.2.1 X.2.2.2.2.2.2.2.1 hP (wd_D X.2.2.2.2.2.2.2.2.1) hS k 1 (wd_lald hk) rfl a1 hd (fun H1 locs1 hP1 hD1 hS1 => ?_)
  rw [a2, wd_jset hk] at hP1
  exact k' p lc e u m args below meth c D cA ad H1 locs1 ls X hP1 hS1 hl
theorem g_cast {S : Shp} {M : Mth} {F : Option Value → Sto → Prop} {pc npc : Nat} {l : List (Nat × Value)} {st : List Value} {s : Sto} {k n : Nat} {i x : Int} (hd : decode M.1 pc = .ok (.castore, 1)) (hn : pc + 1 = npc) (hk : ar S k 3 n) (hi : 0 ≤ i ∧ i < n) (hx : vp_nar .char (Int32.ofInt x) = Int32.ofInt x) (k' : Go S M F npc l st (up s k i.toNat x)) : Go S M F pc l (iV x :: iV i :: .ref k :: st) s := by
  subst hn
  intro p lc e u m args below meth c D cA ad H locs ls X hP hS hl
  obtain ⟨a1, a2⟩ := i32_ix hi hk.2.2.2
  refine va_cast X.1 X.2.1 X.2.2.2.2.2.2.2.1 hP (wd_D X.2.2.2.2.2.2.2.2.1) hS k 2 (wd_cald hk) rfl a1 hd (fun H1 locs1 hP1 hD1 hS1 => ?_)
  rw [a2, hx, wd_iset hk (Or.inr (Or.inl rfl))] at hP1
  exact k' p lc e u m args below meth c D cA ad H1 locs1 ls X hP1 hS1 hl
theorem g_zast {S : Shp} {M : Mth} {F : Option Value → Sto → Prop} {pc npc : Nat} {l : List (Nat × Value)} {st : List Value} {s : Sto} {k n : Nat} {i x : Int} (hd : decode M.1 pc = .ok (.bastore, 1)) (hn : pc + 1 = npc) (hk : ar S k 4 n) (hi : 0 ≤ i ∧ i < n) (hx : vp_nar .boolean (Int32.ofInt x) = Int32.ofInt x) (k' : Go S M F npc l st (up s k i.toNat x)) : Go S M F pc l (iV x :: iV i :: .ref k :: st) s := by
  subst hn
  intro p lc e u m args below meth c D cA ad H locs ls X hP hS hl
  obtain ⟨a1, a2⟩ := i32_ix hi hk.2.2.2
  refine va_zast X.1 X.2.1 X.2.2.2.2.2.2.2.1 hP (wd_D X.2.2.2.2.2.2.2.2.1) hS k 3 (wd_zald hk) rfl a1 hd (fun H1 locs1 hP1 hD1 hS1 => ?_)
  rw [a2, hx, wd_iset hk (Or.inr (Or.inr rfl))] at hP1
  exact k' p lc e u m args below meth c D cA ad H1 locs1 ls X hP1 hS1 hl
theorem g_aald5 {S : Shp} {M : Mth} {F : Option Value → Sto → Prop} {pc npc : Nat} {l : List (Nat × Value)} {st : List Value} {s : Sto} {k n b : Nat} {i : Int} (hd : decode M.1 pc = .ok (.aaload, 1)) (hn : pc + 1 = npc) (hk : ar S k 5 n) (hi : 0 ≤ i ∧ i < n) (hb : fr S k i.toNat = some (b + i.toNat)) (k' : Go S M F npc l (.ref (b + i.toNat) :: st) s) : Go S M F pc l (iV i :: .ref k :: st) s := by
  subst hn
  intro p lc e u m args below meth c D cA ad H locs ls X hP hS hl
  obtain ⟨a1, a2⟩ := i32_ix hi hk.2.2.2
  have ha : (wd S ad cA s)[k]? = some (ad k, .inl (cA 5, n, .inr (.inr (.inr (.inr (fun i => (fr S k i).map ad)))))) := by
    rw [wd_at hk.1]
    simp [cE, hk.2.1, hk.2.2.1]
  have hlt : (Int32.ofInt i).toNatClampNeg < n := Nat.not_le.mp fun q => a1 (Or.inr q)
  refine W.aald (v := .ref (ad (b + i.toNat))) (ty := .array .int) X.1 X.2.1 (hP k _ ha) ((X.2.2.2.2.2.2.2.1.2 4 _ rfl).1 n (fun j => va_rf ((fr S k j).map ad))) rfl (fun q => by cases q) (by show ¬ (_ < 0 ∨ (arrV _ _ _).slots.size ≤ _); rw [arrV_size]; exact a1) ?_ rfl rfl hd (k' p lc e u m args below meth c D cA ad H locs ls X hP hS hl)
  show (arrV _ _ _).slots[_]? = _
  rw [arrV_read _ _ hlt, a2]
  show some (va_rf ((fr S k i.toNat).map ad)) = _
  rw [hb]
  rfl
theorem g_aald6 {S : Shp} {M : Mth} {F : Option Value → Sto → Prop} {pc npc : Nat} {l : List (Nat × Value)} {st : List Value} {s : Sto} {k n b : Nat} {i : Int} (hd : decode M.1 pc = .ok (.aaload, 1)) (hn : pc + 1 = npc) (hk : ar S k 6 n) (hi : 0 ≤ i ∧ i < n) (hb : fr S k i.toNat = some (b + i.toNat)) (k' : Go S M F npc l (.ref (b + i.toNat) :: st) s) : Go S M F pc l (iV i :: .ref k :: st) s := by
  subst hn
  intro p lc e u m args below meth c D cA ad H locs ls X hP hS hl
  obtain ⟨a1, a2⟩ := i32_ix hi hk.2.2.2
  have ha : (wd S ad cA s)[k]? = some (ad k, .inl (cA 6, n, .inr (.inr (.inr (.inr (fun i => (fr S k i).map ad)))))) := by
    rw [wd_at hk.1]
    simp [cE, hk.2.1, hk.2.2.1]
  have hlt : (Int32.ofInt i).toNatClampNeg < n := Nat.not_le.mp fun q => a1 (Or.inr q)
  refine W.aald (v := .ref (ad (b + i.toNat))) (ty := .array .long) X.1 X.2.1 (hP k _ ha) ((X.2.2.2.2.2.2.2.1.2 5 _ rfl).1 n (fun j => va_rf ((fr S k j).map ad))) rfl (fun q => by cases q) (by show ¬ (_ < 0 ∨ (arrV _ _ _).slots.size ≤ _); rw [arrV_size]; exact a1) ?_ rfl rfl hd (k' p lc e u m args below meth c D cA ad H locs ls X hP hS hl)
  show (arrV _ _ _).slots[_]? = _
  rw [arrV_read _ _ hlt, a2]
  show some (va_rf ((fr S k i.toNat).map ad)) = _
  rw [hb]
  rfl
theorem g_alen {S : Shp} {M : Mth} {F : Option Value → Sto → Prop} {pc npc : Nat} {l : List (Nat × Value)} {st : List Value} {s : Sto} {k n t : Nat} (hd : decode M.1 pc = .ok (.arraylength, 1)) (hn : pc + 1 = npc) (hk : ar S k t n) (ht : t = 1 ∨ t = 2 ∨ t = 3) (k' : Go S M F npc l (iV (n : Int) :: st) s) : Go S M F pc l (.ref k :: st) s := by
  subst hn
  intro p lc e0 u m args below meth c D cA ad H locs ls X hP hS hl
  have e : Int32.ofNat n = Int32.ofInt (n : Int) := (Int32.ofInt_eq_ofNat (n := n)).symm
  rcases ht with rfl | rfl | rfl
  · exact va_alen (ty := .int) X.1 X.2.1 X.2.2.2.2.2.2.2.1 hP k 0 (wd_iald hk) rfl e hd (k' p lc e0 u m args below meth c D cA ad H locs ls X hP hS hl)
  · exact va_alen (ty := .long) X.1 X.2.1 X.2.2.2.2.2.2.2.1 hP k 1 (wd_lald hk) rfl e hd (k' p lc e0 u m args below meth c D cA ad H locs ls X hP hS hl)
  · exact va_alen (ty := .char) X.1 X.2.1 X.2.2.2.2.2.2.2.1 hP k 2 (wd_cald hk) rfl e hd (k' p lc e0 u m args below meth c D cA ad H locs ls X hP hS hl)
theorem g_get {S : Shp} {M : Mth} {F : Option Value → Sto → Prop} {pc npc : Nat} {l : List (Nat × Value)} {st : List Value} {s : Sto} {C : String} {T : u_T} {N idx f k : Nat} {v : Value} (hd : decode M.1 pc = .ok (.getfield idx, 3)) (hn : pc + 3 = npc) (hk : k < nc S ∧ kd S k = 0 ∧ ln S k = N) (hcl : vwCl[ci S k]? = some (C, T, N)) (hws : ∀ w ∈ u_ws C T N, w ∈ TW) (hf : f < N) (hlink : Cond.fieldLink M.2.1 idx C (T f).2.1 (T f).2.2.1 ∈ TW) (hC : (T f).1 = C) (hv : fr S k f = none ∧ v = iV (s k f) ∨ ∃ j, fr S k f = some j ∧ v = .ref j) (k' : Go S M F npc l (v :: st) s) : Go S M F pc l (.ref k :: st) s := by
  subst hn
  intro p lc e u m args below meth c D cA ad H locs ls X hP hS hl
  have ha : (wd S ad cA s)[k]? = some (ad k, .inr (ci S k, (List.range N).map (fV S ad s k))) := by
    rw [wd_at hk.1]
    simp [cE, hk.2.1, hk.2.2]
  refine va_get X.1 X.2.1 (X.2.2.2.2.2.1) hws X.2.2.2.2.1 X.2.2.2.2.2.2.2.1 hP k ha hcl f hf (X.2.2.2.2.2.1 _ hlink) (fun x hx => by rw [hC] at hx; exact hx) (v := tv ad v) ?_ hd (k' p lc e u m args below meth c D cA ad H locs ls X hP hS hl)
  simp only [List.getElem?_map, List.getElem?_range hf, Option.map_some]
  rcases hv with ⟨h1, rfl⟩ | ⟨j, h1, rfl⟩
  · simp [fV, h1, iV, tv]
  · simp [fV, h1, tv]
theorem g_put {S : Shp} {M : Mth} {F : Option Value → Sto → Prop} {pc npc : Nat} {l : List (Nat × Value)} {st : List Value} {s : Sto} {C : String} {T : u_T} {N idx f k : Nat} {x : Int} (ty0 : Nat → FieldType) (hd : decode M.1 pc = .ok (.putfield idx, 3)) (hn : pc + 3 = npc) (hk : k < nc S ∧ kd S k = 0 ∧ ln S k = N) (hcl : vwCl[ci S k]? = some (C, T, N)) (hws : ∀ w ∈ u_ws C T N, w ∈ TW) (hty : ∀ k, k < N → parseFieldDescriptor (T k).2.2.1 = some (ty0 k)) (hnm : ∀ a, a < N → ∀ b, b < N → a ≠ b → (T a).2.1 ≠ (T b).2.1) (hf : f < N) (hlink : Cond.fieldLink M.2.1 idx C (T f).2.1 (T f).2.2.1 ∈ TW) (hC : (T f).1 = C) (hfin : (T f).2.2.2 = false) (hr : fr S k f = none) (hx : narrow (ty0 f) (iV x) = iV x ∧ fits (ty0 f) (iV x) = true) (k' : Go S M F npc l st (up s k f x)) : Go S M F pc l (iV x :: .ref k :: st) s := by
  subst hn
  intro p lc e9 u m args below meth c D cA ad H locs ls X hP hS hl
  have ha : (wd S ad cA s)[k]? = some (ad k, .inr (ci S k, (List.range N).map (fV S ad s k))) := by
    rw [wd_at hk.1]
    simp [cE, hk.2.1, hk.2.2]
  refine va_put X.1 X.2.1 (X.2.2.2.2.2.1) hws ty0 hty hnm X.2.2.2.2.1 X.2.2.2.2.2.2.2.1 hP (wd_D X.2.2.2.2.2.2.2.2.1) hS k ha hcl f hf (X.2.2.2.2.2.1 _ hlink) (fun x hx => by rw [hC] at hx; exact hx) hfin (hty f hf) hx.1 hx.2 (by simpa using hf) hd (fun H1 locs1 hP1 hD1 hS1 => ?_)
  have e : (wd S ad cA s).set k (ad k, .inr (ci S k, ((List.range N).map (fV S ad s k)).set f (iV x))) = wd S ad cA (up s k f x) := by
    refine wd_set hk.1 ?_ (fun j _ hj => cE_up_ne hj)
    have e2 : ((List.range N).map (fV S ad s k)).set f (iV x) = (List.range N).map (fV S ad (up s k f x) k) := by
      apply List.ext_getElem?
      intro j
      by_cases hj : j = f
      · subst hj
        rw [List.getElem?_set_self (by simpa using hf)]
        simp [hf, fV, hr, up, iV]
      · rw [List.getElem?_set_ne (Ne.symm hj)]
        by_cases hl : j < N
        · simp only [List.getElem?_map, List.getElem?_range hl, Option.map_some]
          congr 1
          unfold fV
          cases fr S k j with
          | some _ => rfl
          | none => simp [up, hj]
        · simp [hl]
    rw [e2]
    simp [cE, hk.2.1, hk.2.2]
  have hP2 : va_P D vwCl ((wd S ad cA s).set k (ad k, .inr (ci S k, ((List.range N).map (fV S ad s k)).set f (iV x)))) H1 := hP1
  rw [e] at hP2
  exact k' p lc e9 u m args below meth c D cA ad H1 locs1 ls X hP2 hS1 hl
theorem g_iret {S : Shp} {M : Mth} {F : Option Value → Sto → Prop} {pc npc : Nat} {l : List (Nat × Value)} {st : List Value} {s : Sto} {x : Int} {ty : FieldType} (hd : decode M.1 pc = .ok (.ireturn, 1)) (hr : M.2.2.2.1 = some ty) (hx : narrow ty (iV x) = iV x) (h : F (some (iV x)) s) : Go S M F pc l [iV x] s := by
  intro p lc e u m args below meth c D cA ad H locs ls X hP hS hl
  exact W.zret (ty := ty) X.1 X.2.1 (X.2.2.1.trans hr) hx (fun t ht hW => ⟨⟨some (iV x), s, rfl, h, by rw [ht]; exact hP⟩, hS.F ht⟩) hS.2.2 hd X.2.2.2.2.2.2.1
theorem g_lret {S : Shp} {M : Mth} {F : Option Value → Sto → Prop} {pc npc : Nat} {l : List (Nat × Value)} {st : List Value} {s : Sto} {x : Int} (hd : decode M.1 pc = .ok (.lreturn, 1)) (hr : M.2.2.2.1 = some .long) (h : F (some (jV x)) s) : Go S M F pc l [jV x] s := by
  intro p lc e u m args below meth c D cA ad H locs ls X hP hS hl
  exact W.lret X.1 X.2.1 (X.2.2.1.trans hr) (fun t ht hW => ⟨⟨some (jV x), s, rfl, h, by rw [ht]; exact hP⟩, hS.F ht⟩) hS.2.2 hd X.2.2.2.2.2.2.1
theorem g_ret {S : Shp} {M : Mth} {F : Option Value → Sto → Prop} {pc npc : Nat} {l : List (Nat × Value)} {st : List Value} {s : Sto} (hd : decode M.1 pc = .ok (.return_, 1)) (hr : M.2.2.2.1 = none) (h : F none s) : Go S M F pc l [] s := by
  intro p lc e u m args below meth c D cA ad H locs ls X hP hS hl
  exact W.vret X.1 X.2.1 (X.2.2.1.trans hr) (fun t ht hW => ⟨⟨none, s, rfl, h, by rw [ht]; exact hP⟩, hS.F ht⟩) hS.2.2 hd X.2.2.2.2.2.2.1
theorem g_aret {S : Shp} {M : Mth} {F : Option Value → Sto → Prop} {pc npc : Nat} {l : List (Nat × Value)} {st : List Value} {s : Sto} {k : Nat} {ty : FieldType} (hd : decode M.1 pc = .ok (.areturn, 1)) (hr : M.2.2.2.1 = some ty) (hrt : (∃ n, ty = .object n) ∨ ∃ t, ty = .array t) (h : F (some (.ref k)) s) : Go S M F pc l [.ref k] s := by
  intro p lc e u m args below meth c D cA ad H locs ls X hP hS hl
  exact W.aret X.1 X.2.1 (X.2.2.1.trans hr) hrt (Or.inr ⟨ad k, rfl⟩) (fun t ht hW => ⟨⟨some (.ref k), s, rfl, h, by rw [ht]; exact hP⟩, hS.F ht⟩) hS.2.2 hd X.2.2.2.2.2.2.1
theorem fb_pc {S : Shp} {D : va_G} {cA : Nat → ClassId} {ad : Nat → Nat} {av : List Value} {s : Sto} : FrameBlind (va_Pc av (fun U => va_P D vwCl (wd S ad cA s) U.heap ∧ va_K D vwCl (tysOf cA) U ∧ DJ S ad ∧ NW U ∧ XS ad (AW S ad) U U.heap)) := by
  intro a U g mk q
  obtain ⟨q1, q2, q3, q4, q5, q6⟩ := q
  exact ⟨q1, q2, va_K.moved (u := U) (U := U.calling g mk a) (Vm.Alike.refl U.vm) q3, q4, NW.same rfl q5, XS.same (u := U) (U := U.calling g mk a) rfl q6⟩
theorem pc_of {S : Shp} {M : Mth} {p : Program} {u : State} {m : MethodId} {args : Array Value} {meth : Method} {c : Code} {D : va_G} {cA : Nat → ClassId} {ad : Nat → Nat} {H : Heap} {locs : List Loc} {s : Sto} {av : List Value} (X : Cx S M p u m args meth c D cA ad) (hP : va_P D vwCl (wd S ad cA s) H) (hS : va_S (AW S ad) u.heap H locs) :
    ∀ U : State, U.heap = H → u.WarmedH U.vm → va_Pc av (fun U => va_P D vwCl (wd S ad cA s) U.heap ∧ va_K D vwCl (tysOf cA) U ∧ DJ S ad ∧ NW U ∧ XS ad (AW S ad) U U.heap) av.toArray U := by
  intro U hU hW
  obtain ⟨-, -, -, -, -, -, -, hK, hDJ, hN, hX⟩ := X
  exact ⟨rfl, by rw [hU]; exact hP, va_K.moved hW.alike hK, hDJ, hN.warm hW, by rw [hU]; exact hX.tr hW (fun a h1 h2 => hS.2.1 a h1 h2) (fun _ h => h)⟩
theorem g_run {S : Shp} {M : Mth} {F : Option Value → Sto → Prop} {pc : Nat} {l : List (Nat × Value)} {st0 : List Value} (st : List Value) {G : Option Value → Sto → Prop} {p : Program} {lc : Launch} {e : Env} {u : State} {m : MethodId} {args : Array Value} {below : List Frame} {meth : Method} {c : Code} {D : va_G} {cA : Nat → ClassId} {ad : Nat → Nat} {H : Heap} {locs : List Loc} {ls : Array Slot} {a : Array Value}
    (hr : va_Run p lc e M.2.2.2.2 u m args below meth c H locs 0 0 0 0 (F0 m pc ls st0) (ts ad st) (QQ S D cA ad G a) (AW S ad)) (X : Cx S M p u m args meth c D cA ad) (hS : va_S (AW S ad) u.heap H locs) (hl : lv_has ls M.2.2.1 (tl ad l)) (k : ∀ r s', G r s' → Go S M F (pc + 3) l (r.toList ++ st) s') :
    W p lc e M.2.2.2.2 u m args below meth c H locs 0 0 (MQ below (QQ S D cA ad F) args u 0 0 (AW S ad)) (F0 m pc ls st0) := by
  intro T hT Y
  obtain ⟨v, st₀, t, T', L, h0, X', hL, e1, e2, ⟨⟨r, s', hv, hp, hb⟩, hz, hk⟩, stp⟩ := hr T hT Y
  have hv' : v = r.map (tv ad) := Outcome.returned.inj hv
  subst hv'
  rw [h0] at hz hk
  have hP' : va_P D vwCl (wd S ad cA s') T'.heap := by rw [e1]; exact hb
  have hS' : va_S (AW S ad) u.heap T'.heap (locs ++ L) := ⟨Nat.le_trans hS.1 (by rw [e1]; exact hz), fun q h1 h2 => by rw [e1, hk q (Nat.lt_of_lt_of_le h1 hS.1) h2]; exact hS.2.1 q h1 h2, fun q hq => by
    rcases List.mem_append.mp hq with h | h
    · exact hS.2.2 q h
    · exact hL q h⟩
  obtain ⟨t2, a1, b1⟩ := k r s' hp p lc e u m args below meth c D cA ad T'.heap (locs ++ L) ls X hP' hS' hl T' rfl X'
  refine ⟨t2, stp t2 ?_, b1⟩
  have es : ts ad (r.toList ++ st) = (r.map (tv ad)).toList ++ ts ad st := by cases r <;> simp [ts]
  rw [es] at a1
  exact a1
def okV (M : Mth) (idx : Nat) (C : String) (y : MethodName) (cy : ByteArray) (maxL : Nat) (ret : Option FieldType) (n : Nat) : Prop :=
  (Cond.methodLink M.2.1 idx y ∈ TW ∧ Cond.instanceMethod y ∈ TW ∧ Cond.selects C y y ∈ TW ∧ Cond.initialized C ∈ TW ∧ Cond.code y cy maxL ret ∈ TW) ∧ y.cls = C ∧ y.cls ≠ "java/lang/invoke/MethodHandle" ∧ y.cls ≠ "java/lang/invoke/VarHandle" ∧ (parseMethodDescriptor y.desc).map (fun d => d.parameters.length) = some n
theorem g_callV {S : Shp} {M : Mth} {F : Option Value → Sto → Prop} {pc npc : Nat} {l : List (Nat × Value)} {st0 st : List Value} {s : Sto} {G : Option Value → Sto → Prop} {C : String} {y : MethodName} {cy : ByteArray} {maxL idx k n : Nat} {ret : Option FieldType} {R2 : Room} {as : List Value} {q : vw_C}
    (hd : decode M.1 pc = .ok (.invokevirtual idx, 3)) (hn : pc + 3 = npc) (hst : st0 = as.reverse ++ .ref k :: st) (hk : k < nc S ∧ kd S k = 0) (hcl : vwCl[ci S k]? = some q) (hq : q.1 = C) (hw : okV M idx C y cy maxL ret n) (hlen : as.length = n) (hcat : (st.map (fun v => v.category)).sum ≤ 8) (hR0 : R2.cells = 0 ∧ R2.slots = 0) (hR : R2.frames + 1 ≤ M.2.2.2.2.frames ∧ 8 + (maxL + 11) + R2.locals ≤ M.2.2.2.2.locals)
    (hS9 : Sp S y (Cond.code y cy maxL ret) R2 (.ref k :: as) s G) (k' : ∀ r s', G r s' → Go S M F npc l (r.toList ++ st) s') : Go S M F pc l st0 s := by
  subst hn hst hq
  intro p lc e u m args below meth c D cA ad H locs ls X hP hS hl
  obtain ⟨⟨w1, w2, w3, w4, w5⟩, w6, w7, w8, w9⟩ := hw
  have X' := X
  obtain ⟨hx, hb, hret, hml, hown, hts, hlk, hK, hDJ, hN, hXS⟩ := X
  have hG : GoodIn TW (wsV M.2.1 idx q.1 y (Cond.code y cy maxL ret :: TW)) := fun w hw => by
    have : w ∈ TW := by
      rcases List.mem_append.mp hw with h | h
      · simp only [List.mem_cons, List.not_mem_nil, or_false] at h
        rcases h with rfl | rfl | rfl | rfl <;> assumption
      · rcases List.mem_cons.mp h with rfl | h
        · exact w5
        · exact h
    exact ⟨this, good_of_word (List.mem_filter.mp this).2⟩
  have ha : (wd S ad cA s)[k]? = some (ad k, .inr (ci S k, (List.range (ln S k)).map (fV S ad s k))) := by
    rw [wd_at hk.1]
    simp [cE, hk.2]
  have hrev : ts ad (as.reverse ++ .ref k :: st) = (ts ad as).reverse ++ .ref (ad k) :: ts ad st := by simp [ts, tv]
  rw [hrev]
  refine g_run st (va_runV (As := ts ad as) (rest := ts ad st) ⟨hx, hb, hml, hown, hts⟩ (hS9 lc D cA ad) (cwV n hts hG rfl hR0.1 hR0.2 ⟨w6, w7, w8, w9⟩ hR) ⟨fb_pc, va_recv hK hP hcl ha, ?_⟩ rfl (by simp [ts, hlen]) hl.1 rfl (lv_room (by rw [ts_cat]; exact hcat)) hd ⟨Nat.zero_le _, Nat.zero_le _⟩) X' hS hl k'
  exact pc_of X' hP hS
def okS (M : Mth) (idx : Nat) (y : MethodName) (cy : ByteArray) (maxL : Nat) (ret : Option FieldType) (n : Nat) : Prop :=
  (Cond.methodLink M.2.1 idx y ∈ TW ∧ Cond.static y ∈ TW ∧ Cond.initialized y.cls ∈ TW ∧ Cond.code y cy maxL ret ∈ TW) ∧ y.cls ≠ "java/lang/invoke/MethodHandle" ∧ y.cls ≠ "java/lang/invoke/VarHandle" ∧ (parseMethodDescriptor y.desc).map (fun d => d.parameters.length) = some n
theorem g_callS {S : Shp} {M : Mth} {F : Option Value → Sto → Prop} {pc npc : Nat} {l : List (Nat × Value)} {st0 st : List Value} {s : Sto} {G : Option Value → Sto → Prop} {y : MethodName} {cy : ByteArray} {maxL idx n : Nat} {ret : Option FieldType} {R2 : Room} {as : List Value}
    (hd : decode M.1 pc = .ok (.invokestatic idx, 3)) (hn : pc + 3 = npc) (hst : st0 = as.reverse ++ st) (hw : okS M idx y cy maxL ret n) (hlen : as.length = n) (hcat : (st.map (fun v => v.category)).sum ≤ 8) (hR0 : R2.cells = 0 ∧ R2.slots = 0) (hR : R2.frames + 1 ≤ M.2.2.2.2.frames ∧ 8 + (maxL + 11) + R2.locals ≤ M.2.2.2.2.locals)
    (hS9 : Sp S y (Cond.code y cy maxL ret) R2 as s G) (k' : ∀ r s', G r s' → Go S M F npc l (r.toList ++ st) s') : Go S M F pc l st0 s := by
  subst hn hst
  intro p lc e u m args below meth c D cA ad H locs ls X hP hS hl
  obtain ⟨⟨w1, w2, w4, w5⟩, w7, w8, w9⟩ := hw
  have X' := X
  obtain ⟨hx, hb, hret, hml, hown, hts, hlk, hK, hDJ, hN, hXS⟩ := X
  have hG : GoodIn TW (Cond.code y cy maxL ret :: TW) := fun w hw => by
    have : w ∈ TW := by
      rcases List.mem_cons.mp hw with rfl | h
      · exact w5
      · exact h
    exact ⟨this, good_of_word (List.mem_filter.mp this).2⟩
  have hrev : ts ad (as.reverse ++ st) = (ts ad as).reverse ++ ts ad st := by simp [ts]
  rw [hrev]
  refine g_run st (va_runS (As := ts ad as) (rest := ts ad st) ⟨hx, hb, hml, hown, hts⟩ (hS9 lc D cA ad) ⟨callB_of n hts hG rfl hR0.1 hR0.2 (hts _ w4) (hts _ w1) ⟨w7, w8, w9⟩ hR, hts _ w2⟩ ⟨fb_pc, ?_⟩ rfl (by simp [ts, hlen]) hl.1 rfl (lv_room (by rw [ts_cat]; exact hcat)) hd ⟨Nat.zero_le _, Nat.zero_le _⟩) X' hS hl k'
  exact pc_of X' hP hS
/-- a private static method of the host, called by a nest mate -/
def okN (M : Mth) (idx : Nat) (y : MethodName) (cy : ByteArray) (maxL : Nat) (ret : Option FieldType) (n : Nat) : Prop :=
  ((M.2.1, idx, y, "ChipGame") ∈ nestM ∧ Cond.static y ∈ TW ∧ Cond.initialized y.cls ∈ TW ∧ Cond.code y cy maxL ret ∈ TW) ∧ y.cls ≠ "java/lang/invoke/MethodHandle" ∧ y.cls ≠ "java/lang/invoke/VarHandle" ∧ (parseMethodDescriptor y.desc).map (fun d => d.parameters.length) = some n
theorem g_callN {S : Shp} {M : Mth} {F : Option Value → Sto → Prop} {pc npc : Nat} {l : List (Nat × Value)} {st0 st : List Value} {s : Sto} {G : Option Value → Sto → Prop} {y : MethodName} {cy : ByteArray} {maxL idx n : Nat} {ret : Option FieldType} {R2 : Room} {as : List Value}
    (hd : decode M.1 pc = .ok (.invokestatic idx, 3)) (hn : pc + 3 = npc) (hst : st0 = as.reverse ++ st) (hw : okN M idx y cy maxL ret n) (hlen : as.length = n) (hcat : (st.map (fun v => v.category)).sum ≤ 8) (hR0 : R2.cells = 0 ∧ R2.slots = 0) (hR : R2.frames + 1 ≤ M.2.2.2.2.frames ∧ 8 + (maxL + 11) + R2.locals ≤ M.2.2.2.2.locals)
    (hS9 : Sp S y (Cond.code y cy maxL ret) R2 as s G) (k' : ∀ r s', G r s' → Go S M F npc l (r.toList ++ st) s') : Go S M F pc l st0 s := by
  subst hn hst
  intro p lc e u m args below meth c D cA ad H locs ls X hP hS hl
  obtain ⟨⟨w1, w2, w4, w5⟩, w7, w8, w9⟩ := hw
  have X' := X
  obtain ⟨hx, hb, hret, hml, hown, hts, hlk, hK, hDJ, hN, hXS⟩ := X
  have hG : GoodIn TW (Cond.code y cy maxL ret :: TW) := fun w hw => by
    have : w ∈ TW := by
      rcases List.mem_cons.mp hw with rfl | h
      · exact w5
      · exact h
    exact ⟨this, good_of_word (List.mem_filter.mp this).2⟩
  have hrev : ts ad (as.reverse ++ st) = (ts ad as).reverse ++ ts ad st := by simp [ts]
  rw [hrev]
  refine g_run st (va_runSN (As := ts ad as) (rest := ts ad st) ⟨hx, hb, hml, hown, hts⟩ (hS9 lc D cA ad) ⟨va_cnB n hts hG rfl hR0.1 hR0.2 (hN _ w1) (hts _ w4) ⟨w7, w8, w9⟩ hR, hts _ w2, trivial⟩ ⟨fb_pc, ?_⟩ rfl (by simp [ts, hlen]) hl.1 rfl (lv_room (by rw [ts_cat]; exact hcat)) hd ⟨Nat.zero_le _, Nat.zero_le _⟩) X' hS hl k'
  exact pc_of X' hP hS
end
section
theorem zz_end : True := trivial
end
