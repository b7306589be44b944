section
-- ===== PART A: goes FIRST, ahead of the names: the tables' words, and 'selects' of the private methods out of them =====
/-- a private method of a class that the tables say can be made, by its rows of tables_1 -/
def lw_okq (q : MethodName × Nat) : Prop := (q.1.cls ≠ "java/lang/invoke/MethodHandle" ∧ q.1.cls ≠ "java/lang/invoke/VarHandle") ∧ Cond.instantiable q.1.cls q.2 ∈ tables_1 ∧ Cond.privateMethod q.1 ∈ tables_1 ∧ Cond.instanceMethod q.1 ∈ tables_1
theorem lw_p0 : lw_okq (⟨"ChipGame$Graph", "countJoining", "(III)V"⟩, 8) := ⟨⟨by decide +kernel, by decide +kernel⟩, List.mem_of_getElem? (i := 22) (by decide +kernel), List.mem_of_getElem? (i := 237) (by decide +kernel), List.mem_of_getElem? (i := 238) (by decide +kernel)⟩
theorem lw_p1 : lw_okq (⟨"ChipGame", "startAnew", "(I)V"⟩, 12) := ⟨⟨by decide +kernel, by decide +kernel⟩, List.mem_of_getElem? (i := 14) (by decide +kernel), List.mem_of_getElem? (i := 282) (by decide +kernel), List.mem_of_getElem? (i := 283) (by decide +kernel)⟩
theorem lw_p2 : lw_okq (⟨"ChipGame", "forgetStates", "()V"⟩, 12) := ⟨⟨by decide +kernel, by decide +kernel⟩, List.mem_of_getElem? (i := 14) (by decide +kernel), List.mem_of_getElem? (i := 289) (by decide +kernel), List.mem_of_getElem? (i := 290) (by decide +kernel)⟩
theorem lw_p3 : lw_okq (⟨"ChipGame$Graph", "relabel", "(II)V"⟩, 8) := ⟨⟨by decide +kernel, by decide +kernel⟩, List.mem_of_getElem? (i := 22) (by decide +kernel), List.mem_of_getElem? (i := 339) (by decide +kernel), List.mem_of_getElem? (i := 340) (by decide +kernel)⟩
theorem lw_p4 : lw_okq (⟨"ChipGame", "isRecurrent", "()Z"⟩, 12) := ⟨⟨by decide +kernel, by decide +kernel⟩, List.mem_of_getElem? (i := 14) (by decide +kernel), List.mem_of_getElem? (i := 391) (by decide +kernel), List.mem_of_getElem? (i := 392) (by decide +kernel)⟩
theorem lw_p5 : lw_okq (⟨"ChipGame$Burning", "spreadFire", "()Z"⟩, 3) := ⟨⟨by decide +kernel, by decide +kernel⟩, List.mem_of_getElem? (i := 128) (by decide +kernel), List.mem_of_getElem? (i := 400) (by decide +kernel), List.mem_of_getElem? (i := 401) (by decide +kernel)⟩
theorem lw_p6 : lw_okq (⟨"ChipGame$Burning", "burnRound", "(I)I"⟩, 3) := ⟨⟨by decide +kernel, by decide +kernel⟩, List.mem_of_getElem? (i := 128) (by decide +kernel), List.mem_of_getElem? (i := 404) (by decide +kernel), List.mem_of_getElem? (i := 405) (by decide +kernel)⟩
theorem lw_p7 : lw_okq (⟨"ChipGame$Burning", "edgesToBurnt", "(II)I"⟩, 3) := ⟨⟨by decide +kernel, by decide +kernel⟩, List.mem_of_getElem? (i := 128) (by decide +kernel), List.mem_of_getElem? (i := 408) (by decide +kernel), List.mem_of_getElem? (i := 409) (by decide +kernel)⟩
theorem lw_p8 : lw_okq (⟨"ChipGame$Matrix", "isFree", "(I)Z"⟩, 5) := ⟨⟨by decide +kernel, by decide +kernel⟩, List.mem_of_getElem? (i := 162) (by decide +kernel), List.mem_of_getElem? (i := 437) (by decide +kernel), List.mem_of_getElem? (i := 438) (by decide +kernel)⟩
theorem lw_p9 : lw_okq (⟨"ChipGame$Matrix", "fillEdge", "(II)V"⟩, 5) := ⟨⟨by decide +kernel, by decide +kernel⟩, List.mem_of_getElem? (i := 162) (by decide +kernel), List.mem_of_getElem? (i := 442) (by decide +kernel), List.mem_of_getElem? (i := 443) (by decide +kernel)⟩
theorem lw_p10 : lw_okq (⟨"ChipGame$Matrix", "combineRows", "(IIJ)V"⟩, 5) := ⟨⟨by decide +kernel, by decide +kernel⟩, List.mem_of_getElem? (i := 162) (by decide +kernel), List.mem_of_getElem? (i := 450) (by decide +kernel), List.mem_of_getElem? (i := 451) (by decide +kernel)⟩
theorem lw_p11 : lw_okq (⟨"ChipGame$Firing", "fireWhilePossible", "([II)I"⟩, 3) := ⟨⟨by decide +kernel, by decide +kernel⟩, List.mem_of_getElem? (i := 145) (by decide +kernel), List.mem_of_getElem? (i := 478) (by decide +kernel), List.mem_of_getElem? (i := 479) (by decide +kernel)⟩
theorem lw_p12 : lw_okq (⟨"ChipGame$Firing", "giveAlong", "([IIII)V"⟩, 3) := ⟨⟨by decide +kernel, by decide +kernel⟩, List.mem_of_getElem? (i := 145) (by decide +kernel), List.mem_of_getElem? (i := 487) (by decide +kernel), List.mem_of_getElem? (i := 488) (by decide +kernel)⟩
theorem lw_p13 : lw_okq (⟨"ChipGame$Firing", "fireUnburnt", "([I)V"⟩, 3) := ⟨⟨by decide +kernel, by decide +kernel⟩, List.mem_of_getElem? (i := 145) (by decide +kernel), List.mem_of_getElem? (i := 500) (by decide +kernel), List.mem_of_getElem? (i := 501) (by decide +kernel)⟩
theorem lw_p14 : lw_okq (⟨"ChipGame$Firing", "mirror", "([I)V"⟩, 3) := ⟨⟨by decide +kernel, by decide +kernel⟩, List.mem_of_getElem? (i := 145) (by decide +kernel), List.mem_of_getElem? (i := 519) (by decide +kernel), List.mem_of_getElem? (i := 520) (by decide +kernel)⟩
theorem lw_p15 : lw_okq (⟨"ChipGame$Matrix", "fillWhole", "()V"⟩, 5) := ⟨⟨by decide +kernel, by decide +kernel⟩, List.mem_of_getElem? (i := 162) (by decide +kernel), List.mem_of_getElem? (i := 535) (by decide +kernel), List.mem_of_getElem? (i := 536) (by decide +kernel)⟩
def lw_privs_1 : List (MethodName × Nat) := [(⟨"ChipGame$Graph", "countJoining", "(III)V"⟩, 8), (⟨"ChipGame", "startAnew", "(I)V"⟩, 12), (⟨"ChipGame", "forgetStates", "()V"⟩, 12), (⟨"ChipGame$Graph", "relabel", "(II)V"⟩, 8), (⟨"ChipGame", "isRecurrent", "()Z"⟩, 12), (⟨"ChipGame$Burning", "spreadFire", "()Z"⟩, 3), (⟨"ChipGame$Burning", "burnRound", "(I)I"⟩, 3), (⟨"ChipGame$Burning", "edgesToBurnt", "(II)I"⟩, 3), (⟨"ChipGame$Matrix", "isFree", "(I)Z"⟩, 5), (⟨"ChipGame$Matrix", "fillEdge", "(II)V"⟩, 5), (⟨"ChipGame$Matrix", "combineRows", "(IIJ)V"⟩, 5), (⟨"ChipGame$Firing", "fireWhilePossible", "([II)I"⟩, 3), (⟨"ChipGame$Firing", "giveAlong", "([IIII)V"⟩, 3), (⟨"ChipGame$Firing", "fireUnburnt", "([I)V"⟩, 3), (⟨"ChipGame$Firing", "mirror", "([I)V"⟩, 3), (⟨"ChipGame$Matrix", "fillWhole", "()V"⟩, 5)]
theorem lw_r1 : ∀ q ∈ lw_privs_1, lw_okq q := List.forall_mem_cons.mpr ⟨lw_p0, List.forall_mem_cons.mpr ⟨lw_p1, List.forall_mem_cons.mpr ⟨lw_p2, List.forall_mem_cons.mpr ⟨lw_p3, List.forall_mem_cons.mpr ⟨lw_p4, List.forall_mem_cons.mpr ⟨lw_p5, List.forall_mem_cons.mpr ⟨lw_p6, List.forall_mem_cons.mpr ⟨lw_p7, List.forall_mem_cons.mpr ⟨lw_p8, List.forall_mem_cons.mpr ⟨lw_p9, List.forall_mem_cons.mpr ⟨lw_p10, List.forall_mem_cons.mpr ⟨lw_p11, List.forall_mem_cons.mpr ⟨lw_p12, List.forall_mem_cons.mpr ⟨lw_p13, List.forall_mem_cons.mpr ⟨lw_p14, List.forall_mem_cons.mpr ⟨lw_p15, fun _ h => absurd h List.not_mem_nil⟩⟩⟩⟩⟩⟩⟩⟩⟩⟩⟩⟩⟩⟩⟩⟩
theorem lw_p16 : lw_okq (⟨"ChipGame$Matrix", "clearAround", "(IJ)V"⟩, 5) := ⟨⟨by decide +kernel, by decide +kernel⟩, List.mem_of_getElem? (i := 162) (by decide +kernel), List.mem_of_getElem? (i := 561) (by decide +kernel), List.mem_of_getElem? (i := 562) (by decide +kernel)⟩
theorem lw_p17 : lw_okq (⟨"ChipGame$Matrix", "bringLeastToCorner", "(I)Z"⟩, 5) := ⟨⟨by decide +kernel, by decide +kernel⟩, List.mem_of_getElem? (i := 162) (by decide +kernel), List.mem_of_getElem? (i := 565) (by decide +kernel), List.mem_of_getElem? (i := 566) (by decide +kernel)⟩
theorem lw_p18 : lw_okq (⟨"ChipGame$Matrix", "swapRows", "(II)V"⟩, 5) := ⟨⟨by decide +kernel, by decide +kernel⟩, List.mem_of_getElem? (i := 162) (by decide +kernel), List.mem_of_getElem? (i := 569) (by decide +kernel), List.mem_of_getElem? (i := 570) (by decide +kernel)⟩
theorem lw_p19 : lw_okq (⟨"ChipGame$Matrix", "swapColumns", "(II)V"⟩, 5) := ⟨⟨by decide +kernel, by decide +kernel⟩, List.mem_of_getElem? (i := 162) (by decide +kernel), List.mem_of_getElem? (i := 573) (by decide +kernel), List.mem_of_getElem? (i := 574) (by decide +kernel)⟩
theorem lw_p20 : lw_okq (⟨"ChipGame$Matrix", "clearColumn", "(IJ)Z"⟩, 5) := ⟨⟨by decide +kernel, by decide +kernel⟩, List.mem_of_getElem? (i := 162) (by decide +kernel), List.mem_of_getElem? (i := 577) (by decide +kernel), List.mem_of_getElem? (i := 578) (by decide +kernel)⟩
theorem lw_p21 : lw_okq (⟨"ChipGame$Matrix", "addRow", "(IIJJ)V"⟩, 5) := ⟨⟨by decide +kernel, by decide +kernel⟩, List.mem_of_getElem? (i := 162) (by decide +kernel), List.mem_of_getElem? (i := 581) (by decide +kernel), List.mem_of_getElem? (i := 582) (by decide +kernel)⟩
theorem lw_p22 : lw_okq (⟨"ChipGame$Matrix", "clearRow", "(IJ)Z"⟩, 5) := ⟨⟨by decide +kernel, by decide +kernel⟩, List.mem_of_getElem? (i := 162) (by decide +kernel), List.mem_of_getElem? (i := 585) (by decide +kernel), List.mem_of_getElem? (i := 586) (by decide +kernel)⟩
theorem lw_p23 : lw_okq (⟨"ChipGame$Matrix", "addColumn", "(IIJJ)V"⟩, 5) := ⟨⟨by decide +kernel, by decide +kernel⟩, List.mem_of_getElem? (i := 162) (by decide +kernel), List.mem_of_getElem? (i := 589) (by decide +kernel), List.mem_of_getElem? (i := 590) (by decide +kernel)⟩
theorem lw_p24 : lw_okq (⟨"ChipGame$Matrix", "addUndividedRow", "(IJ)Z"⟩, 5) := ⟨⟨by decide +kernel, by decide +kernel⟩, List.mem_of_getElem? (i := 162) (by decide +kernel), List.mem_of_getElem? (i := 593) (by decide +kernel), List.mem_of_getElem? (i := 594) (by decide +kernel)⟩
theorem lw_p25 : lw_okq (⟨"ChipGame$Levels", "countEdgesInside", "()V"⟩, 4) := ⟨⟨by decide +kernel, by decide +kernel⟩, List.mem_of_getElem? (i := 205) (by decide +kernel), List.mem_of_getElem? (i := 606) (by decide +kernel), List.mem_of_getElem? (i := 607) (by decide +kernel)⟩
theorem lw_p26 : lw_okq (⟨"ChipGame$Levels", "sumConnected", "(I)V"⟩, 4) := ⟨⟨by decide +kernel, by decide +kernel⟩, List.mem_of_getElem? (i := 205) (by decide +kernel), List.mem_of_getElem? (i := 610) (by decide +kernel), List.mem_of_getElem? (i := 611) (by decide +kernel)⟩
theorem lw_p27 : lw_okq (⟨"ChipGame$Levels", "divideByYMinusOne", "()V"⟩, 4) := ⟨⟨by decide +kernel, by decide +kernel⟩, List.mem_of_getElem? (i := 205) (by decide +kernel), List.mem_of_getElem? (i := 617) (by decide +kernel), List.mem_of_getElem? (i := 618) (by decide +kernel)⟩
theorem lw_p28 : lw_okq (⟨"ChipGame$Trees", "lowestBorderEdge", "(II)I"⟩, 3) := ⟨⟨by decide +kernel, by decide +kernel⟩, List.mem_of_getElem? (i := 189) (by decide +kernel), List.mem_of_getElem? (i := 630) (by decide +kernel), List.mem_of_getElem? (i := 631) (by decide +kernel)⟩
theorem lw_p29 : lw_okq (⟨"ChipGame$Trees", "unmarkedEnd", "(II)I"⟩, 3) := ⟨⟨by decide +kernel, by decide +kernel⟩, List.mem_of_getElem? (i := 189) (by decide +kernel), List.mem_of_getElem? (i := 638) (by decide +kernel), List.mem_of_getElem? (i := 639) (by decide +kernel)⟩
def lw_privs_2 : List (MethodName × Nat) := [(⟨"ChipGame$Matrix", "clearAround", "(IJ)V"⟩, 5), (⟨"ChipGame$Matrix", "bringLeastToCorner", "(I)Z"⟩, 5), (⟨"ChipGame$Matrix", "swapRows", "(II)V"⟩, 5), (⟨"ChipGame$Matrix", "swapColumns", "(II)V"⟩, 5), (⟨"ChipGame$Matrix", "clearColumn", "(IJ)Z"⟩, 5), (⟨"ChipGame$Matrix", "addRow", "(IIJJ)V"⟩, 5), (⟨"ChipGame$Matrix", "clearRow", "(IJ)Z"⟩, 5), (⟨"ChipGame$Matrix", "addColumn", "(IIJJ)V"⟩, 5), (⟨"ChipGame$Matrix", "addUndividedRow", "(IJ)Z"⟩, 5), (⟨"ChipGame$Levels", "countEdgesInside", "()V"⟩, 4), (⟨"ChipGame$Levels", "sumConnected", "(I)V"⟩, 4), (⟨"ChipGame$Levels", "divideByYMinusOne", "()V"⟩, 4), (⟨"ChipGame$Trees", "lowestBorderEdge", "(II)I"⟩, 3), (⟨"ChipGame$Trees", "unmarkedEnd", "(II)I"⟩, 3)]
theorem lw_r2 : ∀ q ∈ lw_privs_2, lw_okq q := List.forall_mem_cons.mpr ⟨lw_p16, List.forall_mem_cons.mpr ⟨lw_p17, List.forall_mem_cons.mpr ⟨lw_p18, List.forall_mem_cons.mpr ⟨lw_p19, List.forall_mem_cons.mpr ⟨lw_p20, List.forall_mem_cons.mpr ⟨lw_p21, List.forall_mem_cons.mpr ⟨lw_p22, List.forall_mem_cons.mpr ⟨lw_p23, List.forall_mem_cons.mpr ⟨lw_p24, List.forall_mem_cons.mpr ⟨lw_p25, List.forall_mem_cons.mpr ⟨lw_p26, List.forall_mem_cons.mpr ⟨lw_p27, List.forall_mem_cons.mpr ⟨lw_p28, List.forall_mem_cons.mpr ⟨lw_p29, fun _ h => absurd h List.not_mem_nil⟩⟩⟩⟩⟩⟩⟩⟩⟩⟩⟩⟩⟩⟩
def lw_privs : List (MethodName × Nat) := lw_privs_1 ++ (lw_privs_2)
def lw_tbl : List Cond := k2_sels lw_privs ++ tables_1
theorem lw_privs_ok : ∀ q ∈ lw_privs, lw_okq q := by
  show ∀ q ∈ lw_privs_1 ++ (lw_privs_2), lw_okq q
  exact List.forall_mem_append.mpr ⟨lw_r1, lw_r2⟩
end
section
def RX0 : String := "ChipGame$Burning"
def TX0 : u_T := fun k => match k with
  | 0 => ("ChipGame$Burning", "round", "[I", true)
  | 1 => ("ChipGame$Burning", "needed", "[I", true)
  | _ => ("ChipGame$Burning", "graph", "LChipGame$Graph;", true)
def tyX0 : Nat → FieldType := fun k => match k with
  | 0 => .array .int
  | 1 => .array .int
  | _ => .object "ChipGame$Graph"
abbrev wsX00 : List Cond := u_ws RX0 TX0 3
theorem nmX0 : ∀ a, a < 3 → ∀ b, b < 3 → a ≠ b → (TX0 a).2.1 ≠ (TX0 b).2.1 := by decide +kernel
theorem tyX0_ok : ∀ k, k < 3 → parseFieldDescriptor (TX0 k).2.2.1 = some (tyX0 k) := by decide +kernel
abbrev cX0_init : ByteArray := prog_2_method_1_code
def yX0_init : MethodName := ⟨RX0, "<init>", "(LChipGame$Graph;)V"⟩
abbrev cX0_hasBurnt : ByteArray := prog_2_method_2_code
def yX0_hasBurnt : MethodName := ⟨RX0, "hasBurnt", "(I)Z"⟩
abbrev cX0_allBurn : ByteArray := prog_2_method_3_code
def yX0_allBurn : MethodName := ⟨RX0, "allBurn", "([I)Z"⟩
abbrev cX0_allBurnBySecondRule : ByteArray := prog_2_method_4_code
def yX0_allBurnBySecondRule : MethodName := ⟨RX0, "allBurnBySecondRule", "([I)Z"⟩
abbrev cX0_spreadFire : ByteArray := prog_2_method_5_code
def yX0_spreadFire : MethodName := ⟨RX0, "spreadFire", "()Z"⟩
abbrev cX0_burnRound : ByteArray := prog_2_method_6_code
def yX0_burnRound : MethodName := ⟨RX0, "burnRound", "(I)I"⟩
abbrev cX0_edgesToBurnt : ByteArray := prog_2_method_7_code
def yX0_edgesToBurnt : MethodName := ⟨RX0, "edgesToBurnt", "(II)I"⟩
def RX1 : String := "ChipGame$Firing"
def TX1 : u_T := fun k => match k with
  | 0 => ("ChipGame$Firing", "times", "[I", true)
  | 1 => ("ChipGame$Firing", "graph", "LChipGame$Graph;", true)
  | _ => ("ChipGame$Firing", "burning", "LChipGame$Burning;", true)
def tyX1 : Nat → FieldType := fun k => match k with
  | 0 => .array .int
  | 1 => .object "ChipGame$Graph"
  | _ => .object "ChipGame$Burning"
abbrev wsX10 : List Cond := u_ws RX1 TX1 3
theorem nmX1 : ∀ a, a < 3 → ∀ b, b < 3 → a ≠ b → (TX1 a).2.1 ≠ (TX1 b).2.1 := by decide +kernel
theorem tyX1_ok : ∀ k, k < 3 → parseFieldDescriptor (TX1 k).2.2.1 = some (tyX1 k) := by decide +kernel
abbrev cX1_init : ByteArray := prog_3_method_1_code
def yX1_init : MethodName := ⟨RX1, "<init>", "(LChipGame$Graph;LChipGame$Burning;)V"⟩
abbrev cX1_canFire : ByteArray := prog_3_method_2_code
def yX1_canFire : MethodName := ⟨RX1, "canFire", "([II)Z"⟩
abbrev cX1_isStable : ByteArray := prog_3_method_3_code
def yX1_isStable : MethodName := ⟨RX1, "isStable", "([I)Z"⟩
abbrev cX1_give : ByteArray := prog_3_method_4_code
def yX1_give : MethodName := ⟨RX1, "give", "([III)V"⟩
abbrev cX1_giveAlong : ByteArray := prog_3_method_5_code
def yX1_giveAlong : MethodName := ⟨RX1, "giveAlong", "([IIII)V"⟩
abbrev cX1_settle : ByteArray := prog_3_method_6_code
def yX1_settle : MethodName := ⟨RX1, "settle", "([I)I"⟩
abbrev cX1_fireWhilePossible : ByteArray := prog_3_method_7_code
def yX1_fireWhilePossible : MethodName := ⟨RX1, "fireWhilePossible", "([II)I"⟩
abbrev cX1_fireSets : ByteArray := prog_3_method_8_code
def yX1_fireSets : MethodName := ⟨RX1, "fireSets", "([I)I"⟩
abbrev cX1_fireUnburnt : ByteArray := prog_3_method_9_code
def yX1_fireUnburnt : MethodName := ⟨RX1, "fireUnburnt", "([I)V"⟩
abbrev cX1_toRecurrent : ByteArray := prog_3_method_10_code
def yX1_toRecurrent : MethodName := ⟨RX1, "toRecurrent", "([I)V"⟩
abbrev cX1_mirror : ByteArray := prog_3_method_11_code
def yX1_mirror : MethodName := ⟨RX1, "mirror", "([I)V"⟩
def RX2 : String := "ChipGame$Graph"
def TX2 : u_T := fun k => match k with
  | 0 => ("ChipGame$Graph", "nodes", "I", false)
  | 1 => ("ChipGame$Graph", "edges", "I", false)
  | 2 => ("ChipGame$Graph", "sink", "I", false)
  | 3 => ("ChipGame$Graph", "first", "[I", true)
  | 4 => ("ChipGame$Graph", "second", "[I", true)
  | 5 => ("ChipGame$Graph", "joining", "[[I", true)
  | 6 => ("ChipGame$Graph", "degrees", "[I", true)
  | _ => ("ChipGame$Graph", "labels", "[I", true)
def tyX2 : Nat → FieldType := fun k => match k with
  | 0 => .int
  | 1 => .int
  | 2 => .int
  | 3 => .array .int
  | 4 => .array .int
  | 5 => .array (.array .int)
  | 6 => .array .int
  | _ => .array .int
abbrev wsX20 : List Cond := u_ws RX2 TX2 8
theorem nmX2 : ∀ a, a < 8 → ∀ b, b < 8 → a ≠ b → (TX2 a).2.1 ≠ (TX2 b).2.1 := by decide +kernel
theorem tyX2_ok : ∀ k, k < 8 → parseFieldDescriptor (TX2 k).2.2.1 = some (tyX2 k) := by decide +kernel
abbrev cX2_init : ByteArray := prog_4_method_1_code
def yX2_init : MethodName := ⟨RX2, "<init>", "()V"⟩
abbrev cX2_clear : ByteArray := prog_4_method_2_code
def yX2_clear : MethodName := ⟨RX2, "clear", "(I)V"⟩
abbrev cX2_hasNode : ByteArray := prog_4_method_3_code
def yX2_hasNode : MethodName := ⟨RX2, "hasNode", "(I)Z"⟩
abbrev cX2_hasChipsAt : ByteArray := prog_4_method_4_code
def yX2_hasChipsAt : MethodName := ⟨RX2, "hasChipsAt", "(I)Z"⟩
abbrev cX2_hasEdge : ByteArray := prog_4_method_5_code
def yX2_hasEdge : MethodName := ⟨RX2, "hasEdge", "(I)Z"⟩
abbrev cX2_degreeOf : ByteArray := prog_4_method_6_code
def yX2_degreeOf : MethodName := ⟨RX2, "degreeOf", "(I)I"⟩
abbrev cX2_append : ByteArray := prog_4_method_7_code
def yX2_append : MethodName := ⟨RX2, "append", "(II)V"⟩
abbrev cX2_drop : ByteArray := prog_4_method_8_code
def yX2_drop : MethodName := ⟨RX2, "drop", "(I)V"⟩
abbrev cX2_countJoining : ByteArray := prog_4_method_9_code
def yX2_countJoining : MethodName := ⟨RX2, "countJoining", "(III)V"⟩
abbrev cX2_edgesAwayFromSink : ByteArray := prog_4_method_10_code
def yX2_edgesAwayFromSink : MethodName := ⟨RX2, "edgesAwayFromSink", "()I"⟩
abbrev cX2_allEdges : ByteArray := prog_4_method_11_code
def yX2_allEdges : MethodName := ⟨RX2, "allEdges", "()I"⟩
abbrev cX2_isConnected : ByteArray := prog_4_method_12_code
def yX2_isConnected : MethodName := ⟨RX2, "isConnected", "()Z"⟩
abbrev cX2_isSpanningTree : ByteArray := prog_4_method_13_code
def yX2_isSpanningTree : MethodName := ⟨RX2, "isSpanningTree", "(I)Z"⟩
abbrev cX2_findParts : ByteArray := prog_4_method_14_code
def yX2_findParts : MethodName := ⟨RX2, "findParts", "(I)I"⟩
abbrev cX2_relabel : ByteArray := prog_4_method_15_code
def yX2_relabel : MethodName := ⟨RX2, "relabel", "(II)V"⟩
def RX3 : String := "ChipGame$History"
def TX3 : u_T := fun k => match k with
  | 0 => ("ChipGame$History", "count", "I", false)
  | 1 => ("ChipGame$History", "oldest", "I", false)
  | _ => ("ChipGame$History", "states", "[[I", true)
def tyX3 : Nat → FieldType := fun k => match k with
  | 0 => .int
  | 1 => .int
  | _ => .array (.array .int)
abbrev wsX30 : List Cond := u_ws RX3 TX3 3
theorem nmX3 : ∀ a, a < 3 → ∀ b, b < 3 → a ≠ b → (TX3 a).2.1 ≠ (TX3 b).2.1 := by decide +kernel
theorem tyX3_ok : ∀ k, k < 3 → parseFieldDescriptor (TX3 k).2.2.1 = some (tyX3 k) := by decide +kernel
abbrev cX3_init : ByteArray := prog_5_method_1_code
def yX3_init : MethodName := ⟨RX3, "<init>", "()V"⟩
abbrev cX3_record : ByteArray := prog_5_method_2_code
def yX3_record : MethodName := ⟨RX3, "record", "([I)V"⟩
abbrev cX3_takeBack : ByteArray := prog_5_method_3_code
def yX3_takeBack : MethodName := ⟨RX3, "takeBack", "([I)V"⟩
abbrev cX3_forgetAll : ByteArray := prog_5_method_4_code
def yX3_forgetAll : MethodName := ⟨RX3, "forgetAll", "()V"⟩
def RX4 : String := "ChipGame$Levels"
def TX4 : u_T := fun k => match k with
  | 0 => ("ChipGame$Levels", "graph", "LChipGame$Graph;", true)
  | 1 => ("ChipGame$Levels", "edgesInside", "[I", true)
  | 2 => ("ChipGame$Levels", "sums", "[[J", true)
  | _ => ("ChipGame$Levels", "counts", "[J", true)
def tyX4 : Nat → FieldType := fun k => match k with
  | 0 => .object "ChipGame$Graph"
  | 1 => .array .int
  | 2 => .array (.array .long)
  | _ => .array .long
abbrev wsX40 : List Cond := u_ws RX4 TX4 4
theorem nmX4 : ∀ a, a < 4 → ∀ b, b < 4 → a ≠ b → (TX4 a).2.1 ≠ (TX4 b).2.1 := by decide +kernel
theorem tyX4_ok : ∀ k, k < 4 → parseFieldDescriptor (TX4 k).2.2.1 = some (tyX4 k) := by decide +kernel
abbrev cX4_init : ByteArray := prog_6_method_1_code
def yX4_init : MethodName := ⟨RX4, "<init>", "(LChipGame$Graph;)V"⟩
abbrev cX4_countAt : ByteArray := prog_6_method_2_code
def yX4_countAt : MethodName := ⟨RX4, "countAt", "(I)J"⟩
abbrev cX4_countEdgesInside : ByteArray := prog_6_method_3_code
def yX4_countEdgesInside : MethodName := ⟨RX4, "countEdgesInside", "()V"⟩
abbrev cX4_sumConnected : ByteArray := prog_6_method_4_code
def yX4_sumConnected : MethodName := ⟨RX4, "sumConnected", "(I)V"⟩
abbrev cX4_subtractShifted : ByteArray := prog_6_method_5_code
def yX4_subtractShifted : MethodName := ⟨RX4, "subtractShifted", "([J[JI)V"⟩
abbrev cX4_divideByYMinusOne : ByteArray := prog_6_method_6_code
def yX4_divideByYMinusOne : MethodName := ⟨RX4, "divideByYMinusOne", "()V"⟩
def RX5 : String := "ChipGame$Matrix"
def TX5 : u_T := fun k => match k with
  | 0 => ("ChipGame$Matrix", "factors", "[J", true)
  | 1 => ("ChipGame$Matrix", "factorCount", "I", false)
  | 2 => ("ChipGame$Matrix", "graph", "LChipGame$Graph;", true)
  | 3 => ("ChipGame$Matrix", "cells", "[[J", true)
  | _ => ("ChipGame$Matrix", "size", "I", false)
def tyX5 : Nat → FieldType := fun k => match k with
  | 0 => .array .long
  | 1 => .int
  | 2 => .object "ChipGame$Graph"
  | 3 => .array (.array .long)
  | _ => .int
abbrev wsX50 : List Cond := u_ws RX5 TX5 5
theorem nmX5 : ∀ a, a < 5 → ∀ b, b < 5 → a ≠ b → (TX5 a).2.1 ≠ (TX5 b).2.1 := by decide +kernel
theorem tyX5_ok : ∀ k, k < 5 → parseFieldDescriptor (TX5 k).2.2.1 = some (tyX5 k) := by decide +kernel
abbrev cX5_init : ByteArray := prog_7_method_1_code
def yX5_init : MethodName := ⟨RX5, "<init>", "(LChipGame$Graph;)V"⟩
abbrev cX5_fill : ByteArray := prog_7_method_2_code
def yX5_fill : MethodName := ⟨RX5, "fill", "(I)V"⟩
abbrev cX5_fillEdge : ByteArray := prog_7_method_3_code
def yX5_fillEdge : MethodName := ⟨RX5, "fillEdge", "(II)V"⟩
abbrev cX5_isFree : ByteArray := prog_7_method_4_code
def yX5_isFree : MethodName := ⟨RX5, "isFree", "(I)Z"⟩
abbrev cX5_fillWhole : ByteArray := prog_7_method_5_code
def yX5_fillWhole : MethodName := ⟨RX5, "fillWhole", "()V"⟩
abbrev cX5_eliminate : ByteArray := prog_7_method_6_code
def yX5_eliminate : MethodName := ⟨RX5, "eliminate", "()J"⟩
abbrev cX5_combineRows : ByteArray := prog_7_method_7_code
def yX5_combineRows : MethodName := ⟨RX5, "combineRows", "(IIJ)V"⟩
abbrev cX5_orderOf : ByteArray := prog_7_method_8_code
def yX5_orderOf : MethodName := ⟨RX5, "orderOf", "([I)J"⟩
abbrev cX5_findFactors : ByteArray := prog_7_method_9_code
def yX5_findFactors : MethodName := ⟨RX5, "findFactors", "()V"⟩
abbrev cX5_clearAround : ByteArray := prog_7_method_10_code
def yX5_clearAround : MethodName := ⟨RX5, "clearAround", "(IJ)V"⟩
abbrev cX5_bringLeastToCorner : ByteArray := prog_7_method_11_code
def yX5_bringLeastToCorner : MethodName := ⟨RX5, "bringLeastToCorner", "(I)Z"⟩
abbrev cX5_swapRows : ByteArray := prog_7_method_12_code
def yX5_swapRows : MethodName := ⟨RX5, "swapRows", "(II)V"⟩
abbrev cX5_swapColumns : ByteArray := prog_7_method_13_code
def yX5_swapColumns : MethodName := ⟨RX5, "swapColumns", "(II)V"⟩
abbrev cX5_clearColumn : ByteArray := prog_7_method_14_code
def yX5_clearColumn : MethodName := ⟨RX5, "clearColumn", "(IJ)Z"⟩
abbrev cX5_clearRow : ByteArray := prog_7_method_15_code
def yX5_clearRow : MethodName := ⟨RX5, "clearRow", "(IJ)Z"⟩
abbrev cX5_addRow : ByteArray := prog_7_method_16_code
def yX5_addRow : MethodName := ⟨RX5, "addRow", "(IIJJ)V"⟩
abbrev cX5_addColumn : ByteArray := prog_7_method_17_code
def yX5_addColumn : MethodName := ⟨RX5, "addColumn", "(IIJJ)V"⟩
abbrev cX5_addUndividedRow : ByteArray := prog_7_method_18_code
def yX5_addUndividedRow : MethodName := ⟨RX5, "addUndividedRow", "(IJ)Z"⟩
abbrev cX5_commonDivisor : ByteArray := prog_7_method_19_code
def yX5_commonDivisor : MethodName := ⟨RX5, "commonDivisor", "(JJ)J"⟩
def RX6 : String := "ChipGame$Shapes"
def TX6 : u_T := fun k => match k with
  | _ => ("", "", "", false)
def tyX6 : Nat → FieldType := fun k => match k with
  | _ => .int
abbrev wsX60 : List Cond := u_ws RX6 TX6 0
theorem nmX6 : ∀ a, a < 0 → ∀ b, b < 0 → a ≠ b → (TX6 a).2.1 ≠ (TX6 b).2.1 := by decide +kernel
theorem tyX6_ok : ∀ k, k < 0 → parseFieldDescriptor (TX6 k).2.2.1 = some (tyX6 k) := by decide +kernel
def RX7 : String := "ChipGame$Slots"
def TX7 : u_T := fun k => match k with
  | 0 => ("ChipGame$Slots", "taken", "[Z", true)
  | _ => ("ChipGame$Slots", "states", "[[I", true)
def tyX7 : Nat → FieldType := fun k => match k with
  | 0 => .array .boolean
  | _ => .array (.array .int)
abbrev wsX70 : List Cond := u_ws RX7 TX7 2
theorem nmX7 : ∀ a, a < 2 → ∀ b, b < 2 → a ≠ b → (TX7 a).2.1 ≠ (TX7 b).2.1 := by decide +kernel
theorem tyX7_ok : ∀ k, k < 2 → parseFieldDescriptor (TX7 k).2.2.1 = some (tyX7 k) := by decide +kernel
abbrev cX7_init : ByteArray := prog_9_method_1_code
def yX7_init : MethodName := ⟨RX7, "<init>", "()V"⟩
abbrev cX7_has : ByteArray := prog_9_method_2_code
def yX7_has : MethodName := ⟨RX7, "has", "(I)Z"⟩
abbrev cX7_isEmpty : ByteArray := prog_9_method_3_code
def yX7_isEmpty : MethodName := ⟨RX7, "isEmpty", "(I)Z"⟩
abbrev cX7_put : ByteArray := prog_9_method_4_code
def yX7_put : MethodName := ⟨RX7, "put", "(I[I)V"⟩
abbrev cX7_copyTo : ByteArray := prog_9_method_5_code
def yX7_copyTo : MethodName := ⟨RX7, "copyTo", "(I[I)V"⟩
abbrev cX7_forgetAll : ByteArray := prog_9_method_6_code
def yX7_forgetAll : MethodName := ⟨RX7, "forgetAll", "()V"⟩
def RX8 : String := "ChipGame$Text"
def TX8 : u_T := fun k => match k with
  | 0 => ("ChipGame$Text", "length", "I", false)
  | _ => ("ChipGame$Text", "signs", "[C", true)
def tyX8 : Nat → FieldType := fun k => match k with
  | 0 => .int
  | _ => .array .char
abbrev wsX80 : List Cond := u_ws RX8 TX8 2
theorem nmX8 : ∀ a, a < 2 → ∀ b, b < 2 → a ≠ b → (TX8 a).2.1 ≠ (TX8 b).2.1 := by decide +kernel
theorem tyX8_ok : ∀ k, k < 2 → parseFieldDescriptor (TX8 k).2.2.1 = some (tyX8 k) := by decide +kernel
abbrev cX8_init : ByteArray := prog_10_method_1_code
def yX8_init : MethodName := ⟨RX8, "<init>", "()V"⟩
def RX9 : String := "ChipGame$Trees"
def TX9 : u_T := fun k => match k with
  | 0 => ("ChipGame$Trees", "graph", "LChipGame$Graph;", true)
  | 1 => ("ChipGame$Trees", "matrix", "LChipGame$Matrix;", true)
  | _ => ("ChipGame$Trees", "used", "[I", true)
def tyX9 : Nat → FieldType := fun k => match k with
  | 0 => .object "ChipGame$Graph"
  | 1 => .object "ChipGame$Matrix"
  | _ => .array .int
abbrev wsX90 : List Cond := u_ws RX9 TX9 3
theorem nmX9 : ∀ a, a < 3 → ∀ b, b < 3 → a ≠ b → (TX9 a).2.1 ≠ (TX9 b).2.1 := by decide +kernel
theorem tyX9_ok : ∀ k, k < 3 → parseFieldDescriptor (TX9 k).2.2.1 = some (tyX9 k) := by decide +kernel
abbrev cX9_init : ByteArray := prog_11_method_1_code
def yX9_init : MethodName := ⟨RX9, "<init>", "(LChipGame$Graph;LChipGame$Matrix;)V"⟩
abbrev cX9_count : ByteArray := prog_11_method_2_code
def yX9_count : MethodName := ⟨RX9, "count", "(II)J"⟩
abbrev cX9_treeNumbered : ByteArray := prog_11_method_3_code
def yX9_treeNumbered : MethodName := ⟨RX9, "treeNumbered", "(I)I"⟩
abbrev cX9_treeOf : ByteArray := prog_11_method_4_code
def yX9_treeOf : MethodName := ⟨RX9, "treeOf", "([I)I"⟩
abbrev cX9_toStateOf : ByteArray := prog_11_method_5_code
def yX9_toStateOf : MethodName := ⟨RX9, "toStateOf", "(I[I)V"⟩
abbrev cX9_lowestBorderEdge : ByteArray := prog_11_method_6_code
def yX9_lowestBorderEdge : MethodName := ⟨RX9, "lowestBorderEdge", "(II)I"⟩
abbrev cX9_unmarkedEnd : ByteArray := prog_11_method_7_code
def yX9_unmarkedEnd : MethodName := ⟨RX9, "unmarkedEnd", "(II)I"⟩
abbrev cX9_isIn : ByteArray := prog_11_method_8_code
def yX9_isIn : MethodName := ⟨RX9, "isIn", "(II)Z"⟩
def RX10 : String := "ChipGame"
def TX10 : u_T := fun k => match k with
  | 0 => ("ChipGame", "graph", "LChipGame$Graph;", true)
  | 1 => ("ChipGame", "text", "LChipGame$Text;", true)
  | 2 => ("ChipGame", "history", "LChipGame$History;", true)
  | 3 => ("ChipGame", "slots", "LChipGame$Slots;", true)
  | 4 => ("ChipGame", "burning", "LChipGame$Burning;", true)
  | 5 => ("ChipGame", "firing", "LChipGame$Firing;", true)
  | 6 => ("ChipGame", "matrix", "LChipGame$Matrix;", true)
  | 7 => ("ChipGame", "trees", "LChipGame$Trees;", true)
  | 8 => ("ChipGame", "levels", "LChipGame$Levels;", true)
  | 9 => ("ChipGame", "state", "[I", true)
  | 10 => ("ChipGame", "copy", "[I", true)
  | _ => ("ChipGame", "otherCopy", "[I", true)
def tyX10 : Nat → FieldType := fun k => match k with
  | 0 => .object "ChipGame$Graph"
  | 1 => .object "ChipGame$Text"
  | 2 => .object "ChipGame$History"
  | 3 => .object "ChipGame$Slots"
  | 4 => .object "ChipGame$Burning"
  | 5 => .object "ChipGame$Firing"
  | 6 => .object "ChipGame$Matrix"
  | 7 => .object "ChipGame$Trees"
  | 8 => .object "ChipGame$Levels"
  | 9 => .array .int
  | 10 => .array .int
  | _ => .array .int
abbrev wsX100 : List Cond := u_ws RX10 TX10 12
theorem nmX10 : ∀ a, a < 12 → ∀ b, b < 12 → a ≠ b → (TX10 a).2.1 ≠ (TX10 b).2.1 := by decide +kernel
theorem tyX10_ok : ∀ k, k < 12 → parseFieldDescriptor (TX10 k).2.2.1 = some (tyX10 k) := by decide +kernel
abbrev cX10_init : ByteArray := prog_1_method_1_code
def yX10_init : MethodName := ⟨RX10, "<init>", "()V"⟩
abbrev cX10_reset : ByteArray := prog_1_method_2_code
def yX10_reset : MethodName := ⟨RX10, "reset", "(I)I"⟩
abbrev cX10_addEdge : ByteArray := prog_1_method_3_code
def yX10_addEdge : MethodName := ⟨RX10, "addEdge", "(II)I"⟩
abbrev cX10_removeEdge : ByteArray := prog_1_method_4_code
def yX10_removeEdge : MethodName := ⟨RX10, "removeEdge", "(I)I"⟩
abbrev cX10_setSink : ByteArray := prog_1_method_5_code
def yX10_setSink : MethodName := ⟨RX10, "setSink", "(I)I"⟩
abbrev cX10_value : ByteArray := prog_1_method_9_code
def yX10_value : MethodName := ⟨RX10, "value", "(I)I"⟩
abbrev cX10_degree : ByteArray := prog_1_method_10_code
def yX10_degree : MethodName := ⟨RX10, "degree", "(I)I"⟩
abbrev cX10_edge : ByteArray := prog_1_method_11_code
def yX10_edge : MethodName := ⟨RX10, "edge", "(IZ)I"⟩
abbrev cX10_setChips : ByteArray := prog_1_method_12_code
def yX10_setChips : MethodName := ⟨RX10, "setChips", "(II)I"⟩
abbrev cX10_chips : ByteArray := prog_1_method_13_code
def yX10_chips : MethodName := ⟨RX10, "chips", "(I)I"⟩
abbrev cX10_fire : ByteArray := prog_1_method_14_code
def yX10_fire : MethodName := ⟨RX10, "fire", "(I)I"⟩
abbrev cX10_stabilize : ByteArray := prog_1_method_15_code
def yX10_stabilize : MethodName := ⟨RX10, "stabilize", "()I"⟩
abbrev cX10_firings : ByteArray := prog_1_method_16_code
def yX10_firings : MethodName := ⟨RX10, "firings", "(I)I"⟩
abbrev cX10_reduce : ByteArray := prog_1_method_17_code
def yX10_reduce : MethodName := ⟨RX10, "reduce", "()I"⟩
abbrev cX10_makeRecurrent : ByteArray := prog_1_method_18_code
def yX10_makeRecurrent : MethodName := ⟨RX10, "makeRecurrent", "()I"⟩
abbrev cX10_kind : ByteArray := prog_1_method_19_code
def yX10_kind : MethodName := ⟨RX10, "kind", "()I"⟩
abbrev cX10_burnt : ByteArray := prog_1_method_20_code
def yX10_burnt : MethodName := ⟨RX10, "burnt", "(I)I"⟩
abbrev cX10_undo : ByteArray := prog_1_method_21_code
def yX10_undo : MethodName := ⟨RX10, "undo", "()I"⟩
abbrev cX10_keep : ByteArray := prog_1_method_22_code
def yX10_keep : MethodName := ⟨RX10, "keep", "(I)I"⟩
abbrev cX10_load : ByteArray := prog_1_method_23_code
def yX10_load : MethodName := ⟨RX10, "load", "(I)I"⟩
abbrev cX10_add : ByteArray := prog_1_method_24_code
def yX10_add : MethodName := ⟨RX10, "add", "(I)I"⟩
abbrev cX10_isSameClass : ByteArray := prog_1_method_25_code
def yX10_isSameClass : MethodName := ⟨RX10, "isSameClass", "(I)I"⟩
abbrev cX10_treeCount : ByteArray := prog_1_method_26_code
def yX10_treeCount : MethodName := ⟨RX10, "treeCount", "()J"⟩
abbrev cX10_identity : ByteArray := prog_1_method_27_code
def yX10_identity : MethodName := ⟨RX10, "identity", "(I)I"⟩
abbrev cX10_order : ByteArray := prog_1_method_28_code
def yX10_order : MethodName := ⟨RX10, "order", "()I"⟩
abbrev cX10_factor : ByteArray := prog_1_method_29_code
def yX10_factor : MethodName := ⟨RX10, "factor", "(I)J"⟩
abbrev cX10_level : ByteArray := prog_1_method_30_code
def yX10_level : MethodName := ⟨RX10, "level", "()I"⟩
abbrev cX10_levelCount : ByteArray := prog_1_method_31_code
def yX10_levelCount : MethodName := ⟨RX10, "levelCount", "(I)I"⟩
abbrev cX10_tree : ByteArray := prog_1_method_32_code
def yX10_tree : MethodName := ⟨RX10, "tree", "()I"⟩
abbrev cX10_takeTree : ByteArray := prog_1_method_33_code
def yX10_takeTree : MethodName := ⟨RX10, "takeTree", "(I)I"⟩
abbrev cX10_treeAt : ByteArray := prog_1_method_34_code
def yX10_treeAt : MethodName := ⟨RX10, "treeAt", "(I)I"⟩
abbrev cX10_startAnew : ByteArray := prog_1_method_35_code
def yX10_startAnew : MethodName := ⟨RX10, "startAnew", "(I)V"⟩
abbrev cX10_forgetStates : ByteArray := prog_1_method_36_code
def yX10_forgetStates : MethodName := ⟨RX10, "forgetStates", "()V"⟩
abbrev cX10_isRecurrent : ByteArray := prog_1_method_37_code
def yX10_isRecurrent : MethodName := ⟨RX10, "isRecurrent", "()Z"⟩
abbrev cX10_sumOf : ByteArray := prog_1_method_38_code
def yX10_sumOf : MethodName := ⟨RX10, "sumOf", "([I)I"⟩
abbrev cX10_clearChips : ByteArray := prog_1_method_39_code
def yX10_clearChips : MethodName := ⟨RX10, "clearChips", "([I)V"⟩
abbrev cX10_copyChips : ByteArray := prog_1_method_40_code
def yX10_copyChips : MethodName := ⟨RX10, "copyChips", "([I[I)V"⟩
abbrev cX10_isEqual : ByteArray := prog_1_method_41_code
def yX10_isEqual : MethodName := ⟨RX10, "isEqual", "([I[I)Z"⟩
def RX11 : String := "ChipGameModel"
def TX11 : u_T := fun k => match k with
  | _ => ("", "", "", false)
def tyX11 : Nat → FieldType := fun k => match k with
  | _ => .int
abbrev wsX110 : List Cond := u_ws RX11 TX11 0
theorem nmX11 : ∀ a, a < 0 → ∀ b, b < 0 → a ≠ b → (TX11 a).2.1 ≠ (TX11 b).2.1 := by decide +kernel
theorem tyX11_ok : ∀ k, k < 0 → parseFieldDescriptor (TX11 k).2.2.1 = some (tyX11 k) := by decide +kernel
def RJ6 : String := "java/lang/Integer"
def TJ6 : u_T := fun k => match k with
  | _ => ("", "", "", false)
def tyJ6 : Nat → FieldType := fun k => match k with
  | _ => .int
abbrev wsJ60 : List Cond := u_ws RJ6 TJ6 0
theorem nmJ6 : ∀ a, a < 0 → ∀ b, b < 0 → a ≠ b → (TJ6 a).2.1 ≠ (TJ6 b).2.1 := by decide +kernel
theorem tyJ6_ok : ∀ k, k < 0 → parseFieldDescriptor (TJ6 k).2.2.1 = some (tyJ6 k) := by decide +kernel
abbrev cJ6_bitCount_0f7a4 : ByteArray := prog_14_method_49_code
def yJ6_bitCount_0f7a4 : MethodName := ⟨RJ6, "bitCount", "(I)I"⟩
def RJ9 : String := "java/lang/Math"
def TJ9 : u_T := fun k => match k with
  | _ => ("", "", "", false)
def tyJ9 : Nat → FieldType := fun k => match k with
  | _ => .int
abbrev wsJ90 : List Cond := u_ws RJ9 TJ9 0
theorem nmJ9 : ∀ a, a < 0 → ∀ b, b < 0 → a ≠ b → (TJ9 a).2.1 ≠ (TJ9 b).2.1 := by decide +kernel
theorem tyJ9_ok : ∀ k, k < 0 → parseFieldDescriptor (TJ9 k).2.2.1 = some (tyJ9 k) := by decide +kernel
abbrev cJ9_floorMod_f86c9 : ByteArray := prog_15_method_52_code
def yJ9_floorMod_f86c9 : MethodName := ⟨RJ9, "floorMod", "(JJ)J"⟩
abbrev cJ9_abs_067f4 : ByteArray := prog_15_method_61_code
def yJ9_abs_067f4 : MethodName := ⟨RJ9, "abs", "(J)J"⟩
def RL : String := "ChipGameLaw"
abbrev cL_cell : ByteArray := method_2_code
def yL_cell : MethodName := ⟨RL, "cell", "([II)I"⟩
abbrev cL_low : ByteArray := method_3_code
def yL_low : MethodName := ⟨RL, "low", "(II)I"⟩
abbrev cL_joins : ByteArray := method_4_code
def yL_joins : MethodName := ⟨RL, "joins", "(LChipGame;II)I"⟩
abbrev cL_read : ByteArray := method_5_code
def yL_read : MethodName := ⟨RL, "read", "(LChipGame;[I)V"⟩
abbrev cL_lay : ByteArray := method_6_code
def yL_lay : MethodName := ⟨RL, "lay", "(LChipGame;[I)V"⟩
abbrev cL_are : ByteArray := method_7_code
def yL_are : MethodName := ⟨RL, "are", "(LChipGame;[I)Z"⟩
abbrev cL_settles : ByteArray := method_8_code
def yL_settles : MethodName := ⟨RL, "settles", "(LChipGame;I)Z"⟩
abbrev cL_classes : ByteArray := method_9_code
def yL_classes : MethodName := ⟨RL, "classes", "(LChipGame;)Z"⟩
abbrev cL_sumOf : ByteArray := method_10_code
def yL_sumOf : MethodName := ⟨RL, "sumOf", "([I)I"⟩
abbrev cL_group : ByteArray := method_11_code
def yL_group : MethodName := ⟨RL, "group", "(LChipGame;)Z"⟩
abbrev cL_burning : ByteArray := method_12_code
def yL_burning : MethodName := ⟨RL, "burning", "(LChipGame;)Z"⟩
abbrev cL_errors : ByteArray := method_13_code
def yL_errors : MethodName := ⟨RL, "errors", "(LChipGame;)Z"⟩
abbrev cL_law : ByteArray := code
def yL_law : MethodName := ⟨RL, "law", "([I)Z"⟩
abbrev vwCl : List vw_C := [(RX0, TX0, 3), (RX1, TX1, 3), (RX2, TX2, 8), (RX3, TX3, 3), (RX4, TX4, 4), (RX5, TX5, 5), (RX7, TX7, 2), (RX8, TX8, 2), (RX9, TX9, 3), (RX10, TX10, 12)]
end
section
/-! CORE 1: stores of whole numbers, values, the world of cells that a store stands for -/
abbrev Sto : Type := Nat → Nat → Int
def up (s : Sto) (k i : Nat) (x : Int) : Sto := fun k' i' => if k' = k ∧ i' = i then x else s k' i'
theorem up_eq (s : Sto) (k i : Nat) (x : Int) : up s k i x k i = x := by simp [up]
theorem up_ne {s : Sto} {k i : Nat} {x : Int} {k' i' : Nat} (h : ¬ (k' = k ∧ i' = i)) : up s k i x k' i' = s k' i' := if_neg h
theorem up_k {s : Sto} {k i : Nat} {x : Int} {k' i' : Nat} (h : k' ≠ k) : up s k i x k' i' = s k' i' := up_ne (fun q => h q.1)
theorem up_i {s : Sto} {k i : Nat} {x : Int} {k' i' : Nat} (h : i' ≠ i) : up s k i x k' i' = s k' i' := up_ne (fun q => h q.2)
def iV (x : Int) : Value := .int (Int32.ofInt x)
def jV (x : Int) : Value := .long (Int64.ofInt x)
def tv (ad : Nat → Nat) (v : Value) : Value := match v with
  | .ref k => .ref (ad k)
  | v => v
theorem tv_cat (ad : Nat → Nat) (v : Value) : (tv ad v).category = v.category := by cases v <;> rfl
def tl (ad : Nat → Nat) (l : List (Nat × Value)) : List (Nat × Value) := l.map (fun q => (q.1, tv ad q.2))
def ts (ad : Nat → Nat) (st : List Value) : List Value := st.map (tv ad)
theorem ts_cat (ad : Nat → Nat) (st : List Value) : (ts ad st).map (fun v => v.category) = st.map (fun v => v.category) := by
  induction st with
  | nil => rfl
  | cons a r ih => simp [ts, tv_cat] at ih ⊢
theorem ts_rev (ad : Nat → Nat) (as : List Value) : ts ad as.reverse = (ts ad as).reverse := by simp [ts]
theorem tl_args (ad : Nat → Nat) (as : List Value) : ∀ i, lv_args i (ts ad as) = tl ad (lv_args i as) := by
  induction as with
  | nil => intro i; rfl
  | cons a r ih =>
    intro i
    show (i, tv ad a) :: lv_args (if (tv ad a).category = 2 then i + 2 else i + 1) (ts ad r) = _
    rw [tv_cat, ih]
    rfl
theorem lg_ts (ad : Nat → Nat) (as : List Value) : (lg_sl (ts ad as)).length = (lg_sl as).length := by
  induction as with
  | nil => rfl
  | cons a r ih =>
    have e : ∀ (v : Value) (w : List Value), lg_sl (v :: w) = (if v.category = 2 then [Slot.val v, .second] else [.val v]) ++ lg_sl w := fun v w => by simp [lg_sl]
    show (lg_sl (tv ad a :: ts ad r)).length = _
    rw [e, e, List.length_append, List.length_append, ih, tv_cat]
    congr 1
    by_cases h : a.category = 2 <;> simp [h]
/-- how many cells; each cell's kind (0 object, 1 int, 2 long, 3 char, 4 boolean, 5 rows of ints, 6 rows of longs), length, class; its references -/
abbrev Shp : Type := Nat × (Nat → Nat × Nat × Nat) × (Nat → Nat → Option Nat)
def nc (S : Shp) : Nat := S.1
def kd (S : Shp) (k : Nat) : Nat := (S.2.1 k).1
def ln (S : Shp) (k : Nat) : Nat := (S.2.1 k).2.1
def ci (S : Shp) (k : Nat) : Nat := (S.2.1 k).2.2
def fr (S : Shp) (k i : Nat) : Option Nat := S.2.2 k i
def fV (S : Shp) (ad : Nat → Nat) (s : Sto) (k i : Nat) : Value := match fr S k i with
  | some j => .ref (ad j)
  | none => .int (Int32.ofInt (s k i))
def cE (S : Shp) (ad : Nat → Nat) (cA : Nat → ClassId) (s : Sto) (k : Nat) : va_E :=
  if kd S k = 0 then .inr (ci S k, (List.range (ln S k)).map (fV S ad s k))
  else if kd S k = 2 then .inl (cA 2, ln S k, .inr (.inl (fun i => Int64.ofInt (s k i))))
  else if kd S k = 5 then .inl (cA 5, ln S k, .inr (.inr (.inr (.inr (fun i => (fr S k i).map ad)))))
  else if kd S k = 6 then .inl (cA 6, ln S k, .inr (.inr (.inr (.inr (fun i => (fr S k i).map ad)))))
  else .inl (cA (kd S k), ln S k, .inl (fun i => Int32.ofInt (s k i)))
def wd (S : Shp) (ad : Nat → Nat) (cA : Nat → ClassId) (s : Sto) : va_W := (List.range (nc S)).map (fun k => (ad k, cE S ad cA s k))
theorem wd_at {S : Shp} {ad : Nat → Nat} {cA : Nat → ClassId} {s : Sto} {k : Nat} (h : k < nc S) : (wd S ad cA s)[k]? = some (ad k, cE S ad cA s k) := by
  simp [wd, h]
theorem wd_get {S : Shp} {ad : Nat → Nat} {cA : Nat → ClassId} {s : Sto} {k : Nat} {q : Nat × va_E} (h : (wd S ad cA s)[k]? = some q) : k < nc S ∧ q = (ad k, cE S ad cA s k) := by
  by_cases hk : k < nc S
  · rw [wd_at hk] at h
    exact ⟨hk, (Option.some.inj h).symm⟩
  · simp [wd, hk] at h
def AW (S : Shp) (ad : Nat → Nat) : Nat → Prop := fun q => ∃ k, k < nc S ∧ q = ad k
def DJ (S : Shp) (ad : Nat → Nat) : Prop := ∀ i j, i < nc S → j < nc S → ad i = ad j → i = j
theorem wd_D {S : Shp} {ad : Nat → Nat} {cA : Nat → ClassId} {s : Sto} (h : DJ S ad) : va_D (AW S ad) (wd S ad cA s) := by
  refine ⟨fun i j p q hi hj e => ?_, fun k q hk => ?_⟩
  · obtain ⟨h1, rfl⟩ := wd_get hi
    obtain ⟨h2, rfl⟩ := wd_get hj
    exact h i j h1 h2 e
  · obtain ⟨h1, rfl⟩ := wd_get hk
    exact ⟨k, h1, rfl⟩
theorem wd_set {S : Shp} {ad : Nat → Nat} {cA : Nat → ClassId} {s s' : Sto} {k : Nat} {e : va_E} (hk : k < nc S) (he : e = cE S ad cA s' k) (ho : ∀ j, j < nc S → j ≠ k → cE S ad cA s j = cE S ad cA s' j) : (wd S ad cA s).set k (ad k, e) = wd S ad cA s' := by
  subst he
  apply List.ext_getElem?
  intro j
  by_cases hj : j = k
  · subst hj
    rw [List.getElem?_set_self (by simp [wd, hk]), wd_at hk]
  · rw [List.getElem?_set_ne (Ne.symm hj)]
    by_cases hl : j < nc S
    · rw [wd_at hl, wd_at hl, ho j hl hj]
    · simp [wd, hl]
theorem cE_up_ne {S : Shp} {ad : Nat → Nat} {cA : Nat → ClassId} {s : Sto} {k i : Nat} {x : Int} {j : Nat} (h : j ≠ k) : cE S ad cA s j = cE S ad cA (up s k i x) j := by
  have e : ∀ i', up s k i x j i' = s j i' := fun i' => up_k h
  have e2 : fV S ad (up s k i x) j = fV S ad s j := by
    funext i'
    unfold fV
    cases fr S j i' with
    | some _ => rfl
    | none => simp [e]
  unfold cE
  simp only [e, e2]
def tysOf (cA : Nat → ClassId) : List (ClassId × FieldType) := [(cA 1, .int), (cA 2, .long), (cA 3, .char), (cA 4, .boolean), (cA 5, .array .int), (cA 6, .array .long)]
def TW : List Cond := lw_tbl.filter goodWord
theorem tw_in {w : Cond} (h : w ∈ lw_tbl) (g : goodWord w = true) : w ∈ TW := List.mem_filter.mpr ⟨h, g⟩
theorem tw_good {c : Cond} (hc : c ∈ TW) {ws : List Cond} (h : ∀ w ∈ ws, w ∈ TW) : GoodIn (c :: TW) ws := fun w hw => ⟨List.mem_cons_of_mem _ (h w hw), good_of_word (List.mem_filter.mp (h w hw)).2⟩
theorem ofInt_toInt32 {x : Int} (h : -2147483648 ≤ x ∧ x < 2147483648) : (Int32.ofInt x).toInt = x := by
  have e : ((Int32.size : Nat) : Int) = 4294967296 := rfl
  rw [Int32.toInt_ofInt, Int.bmod_eq_of_le] <;> omega
theorem ofInt_toInt64 {x : Int} (h : -9223372036854775808 ≤ x ∧ x < 9223372036854775808) : (Int64.ofInt x).toInt = x := by
  have e : ((Int64.size : Nat) : Int) = 18446744073709551616 := rfl
  rw [Int64.toInt_ofInt, Int.bmod_eq_of_le] <;> omega
theorem i32_lt {x y : Int} (h : (-2147483648 ≤ x ∧ x < 2147483648) ∧ -2147483648 ≤ y ∧ y < 2147483648) : Int32.ofInt x < Int32.ofInt y ↔ x < y := by
  rw [Int32.lt_iff_toInt_lt, ofInt_toInt32 h.1, ofInt_toInt32 h.2]
theorem i32_le {x y : Int} (h : (-2147483648 ≤ x ∧ x < 2147483648) ∧ -2147483648 ≤ y ∧ y < 2147483648) : Int32.ofInt x ≤ Int32.ofInt y ↔ x ≤ y := by
  rw [Int32.le_iff_toInt_le, ofInt_toInt32 h.1, ofInt_toInt32 h.2]
theorem i32_eq {x y : Int} (h : (-2147483648 ≤ x ∧ x < 2147483648) ∧ -2147483648 ≤ y ∧ y < 2147483648) : Int32.ofInt x = Int32.ofInt y ↔ x = y := by
  rw [← Int32.toInt_inj, ofInt_toInt32 h.1, ofInt_toInt32 h.2]
theorem i64_lt {x y : Int} (h : (-9223372036854775808 ≤ x ∧ x < 9223372036854775808) ∧ -9223372036854775808 ≤ y ∧ y < 9223372036854775808) : Int64.ofInt x < Int64.ofInt y ↔ x < y := by
  rw [Int64.lt_iff_toInt_lt, ofInt_toInt64 h.1, ofInt_toInt64 h.2]
theorem i64_eq {x y : Int} (h : (-9223372036854775808 ≤ x ∧ x < 9223372036854775808) ∧ -9223372036854775808 ≤ y ∧ y < 9223372036854775808) : Int64.ofInt x = Int64.ofInt y ↔ x = y := by
  rw [← Int64.toInt_inj, ofInt_toInt64 h.1, ofInt_toInt64 h.2]
theorem i32_add (x y : Int) : Int32.ofInt x + Int32.ofInt y = Int32.ofInt (x + y) := (Int32.ofInt_add x y).symm
theorem i32_sub (x y : Int) : Int32.ofInt x - Int32.ofInt y = Int32.ofInt (x - y) := (Int32.ofInt_sub x y).symm
theorem i32_mul (x y : Int) : Int32.ofInt x * Int32.ofInt y = Int32.ofInt (x * y) := (Int32.ofInt_mul x y).symm
theorem i32_neg (x : Int) : -Int32.ofInt x = Int32.ofInt (-x) := (Int32.ofInt_neg x).symm
theorem i64_add (x y : Int) : Int64.ofInt x + Int64.ofInt y = Int64.ofInt (x + y) := (Int64.ofInt_add x y).symm
theorem i64_sub (x y : Int) : Int64.ofInt x - Int64.ofInt y = Int64.ofInt (x - y) := (Int64.ofInt_sub x y).symm
theorem i64_mul (x y : Int) : Int64.ofInt x * Int64.ofInt y = Int64.ofInt (x * y) := (Int64.ofInt_mul x y).symm
theorem i64_neg (x : Int) : -Int64.ofInt x = Int64.ofInt (-x) := (Int64.ofInt_neg x).symm
theorem i32_div {x y : Int} (h : (-2147483648 ≤ x ∧ x < 2147483648) ∧ -2147483648 ≤ y ∧ y < 2147483648) : Int32.ofInt x / Int32.ofInt y = Int32.ofInt (x.tdiv y) := by
  apply Int32.toInt_inj.mp
  rw [Int32.toInt_div, ofInt_toInt32 h.1, ofInt_toInt32 h.2, Int32.toInt_ofInt]
theorem i64_div {x y : Int} (h : (-9223372036854775808 ≤ x ∧ x < 9223372036854775808) ∧ -9223372036854775808 ≤ y ∧ y < 9223372036854775808) : Int64.ofInt x / Int64.ofInt y = Int64.ofInt (x.tdiv y) := by
  apply Int64.toInt_inj.mp
  rw [Int64.toInt_div, ofInt_toInt64 h.1, ofInt_toInt64 h.2, Int64.toInt_ofInt]
theorem i32_rem {x y : Int} (h : (-2147483648 ≤ x ∧ x < 2147483648) ∧ -2147483648 ≤ y ∧ y < 2147483648) : Int32.ofInt x - Int32.ofInt x / Int32.ofInt y * Int32.ofInt y = Int32.ofInt (x.tmod y) := by
  rw [i32_div h, i32_mul, i32_sub]
  congr 1
  have := Int.mul_tdiv_add_tmod x y
  rw [Int.mul_comm] at this
  omega
theorem i64_rem {x y : Int} (h : (-9223372036854775808 ≤ x ∧ x < 9223372036854775808) ∧ -9223372036854775808 ≤ y ∧ y < 9223372036854775808) : Int64.ofInt x - Int64.ofInt x / Int64.ofInt y * Int64.ofInt y = Int64.ofInt (x.tmod y) := by
  rw [i64_div h, i64_mul, i64_sub]
  congr 1
  have := Int.mul_tdiv_add_tmod x y
  rw [Int.mul_comm] at this
  omega
theorem i32_ix {i : Int} {n : Nat} (h : 0 ≤ i ∧ i < n) (hn : n < 2147483648) : vp_in (Int32.ofInt i) n ∧ (Int32.ofInt i).toNatClampNeg = i.toNat := by
  have e := ofInt_toInt32 (x := i) (by omega)
  refine ⟨vp_in_iff.mpr (by rw [e]; omega), ?_⟩
  show (Int32.ofInt i).toInt.toNat = i.toNat
  rw [e]
def iand (x y : Int) : Int := (Int32.ofInt x &&& Int32.ofInt y).toInt
def ior (x y : Int) : Int := (Int32.ofInt x ||| Int32.ofInt y).toInt
def ixor (x y : Int) : Int := (Int32.ofInt x ^^^ Int32.ofInt y).toInt
def ishl (x y : Int) : Int := (Int32.ofInt x <<< (Int32.ofInt y &&& 31)).toInt
def ishr (x y : Int) : Int := (Int32.ofInt x >>> (Int32.ofInt y &&& 31)).toInt
theorem i32_inv (a : Int32) : Int32.ofInt a.toInt = a := Int32.ofInt_toInt a
theorem i32_i2l {x : Int} (h : -2147483648 ≤ x ∧ x < 2147483648) : (Int32.ofInt x).toInt64 = Int64.ofInt x := by
  apply Int64.toInt_inj.mp
  rw [Int32.toInt_toInt64, ofInt_toInt32 h, ofInt_toInt64 (by omega)]
theorem i64_l2i (x : Int) : (Int64.ofInt x).toInt32 = Int32.ofInt x := Int64.toInt32_ofInt
end
section
/-! CORE 2: what a method may take as given; the judgement Go; contracts Sp; returns and calls -/
def nestM : List (String × Nat × MethodName × String) := [("ChipGame", 11, yX2_init, "ChipGame"), ("ChipGame", 20, yX8_init, "ChipGame"), ("ChipGame", 27, yX3_init, "ChipGame"), ("ChipGame", 34, yX7_init, "ChipGame"), ("ChipGame$Firing", 55, yX10_clearChips, "ChipGame"), ("ChipGame$History", 23, yX10_copyChips, "ChipGame"), ("ChipGame$Slots", 24, yX10_copyChips, "ChipGame"), ("ChipGame$Trees", 47, yX10_clearChips, "ChipGame")]
def NW (U : State) : Prop := ∀ q ∈ nestM, va_Nw (.methodLinkNest q.1 q.2.1 q.2.2.1 q.2.2.2) U
theorem NW.warm {s U : State} (hW : s.WarmedH U.vm) (h : NW s) : NW U := fun q hq => va_Nw.warmM hW (h q hq)
theorem NW.same {u U : State} (e : u.vm = U.vm) (h : NW u) : NW U := fun q hq => va_Nw.same rfl e (h q hq)
/-- the law's script, outside of all that is changed -/
def XS (ad : Nat → Nat) (A : Nat → Prop) (U : State) (H : Heap) : Prop := ∃ (L : Nat) (xs : Nat → Int32), va_X (ad 2000) L xs U H ∧ L ≤ 260 ∧ ad 2000 < H.size ∧ ¬ A (ad 2000)
theorem XS.tr {ad : Nat → Nat} {A B : Nat → Prop} {s U : State} {H0 H : Heap} (h : XS ad A s H0) (hW : s.WarmedH U.vm) (hs : H0.size ≤ H.size) (hq : ∀ a : Nat, a < H0.size → ¬ A a → H[a]? = H0[a]?) (hAB : B (ad 2000) → A (ad 2000)) : XS ad B U H := by
  obtain ⟨L, xs, h1, hL, h2, h3⟩ := h
  exact ⟨L, xs, (h1.moved hW.alike).kept (hq _ h2 h3), hL, Nat.lt_of_lt_of_le h2 hs, fun q => h3 (hAB q)⟩
theorem XS.same {ad : Nat → Nat} {A : Nat → Prop} {u U : State} {H : Heap} (e : U.vm = u.vm) (h : XS ad A u H) : XS ad A U H := by
  obtain ⟨L, xs, h1, h2⟩ := h
  have m : u.vm.Alike U.vm := by rw [e]; exact Vm.Alike.refl _
  exact ⟨L, xs, h1.moved m, h2⟩
/-- a method: its code, its class, its places for locals, what it returns, its room -/
abbrev Mth : Type := ByteArray × String × Nat × Option FieldType × Room
/-- how the method M ends with r -/
def retI (M : Mth) (pc : Nat) (r : Option Value) : Prop :=
  (r = none ∧ decode M.1 pc = .ok (.return_, 1) ∧ M.2.2.2.1 = none) ∨ (∃ (x : Int) (ty : FieldType), r = some (iV x) ∧ decode M.1 pc = .ok (.ireturn, 1) ∧ M.2.2.2.1 = some ty ∧ narrow ty (iV x) = iV x) ∨ ∃ x : Int, r = some (jV x) ∧ decode M.1 pc = .ok (.lreturn, 1) ∧ M.2.2.2.1 = some .long
def RetOK (S : Shp) (M : Mth) (F : Option Value → Sto → Prop) (p : Program) (lc : Launch) (e : Env) (u : State) (m : MethodId) (args : Array Value) (below : List Frame) (meth : Method) (c : Code) (D : va_G) (cA : Nat → ClassId) (ad : Nat → Nat) (A : Nat → Prop) (Z : State → Prop) : Prop :=
  ∀ (H : Heap) (locs : List Loc) (ls : Array Slot) (pc cs ss : Nat) (r : Option Value) (s' : Sto), F r s' → va_P D vwCl (wd S ad cA s') H → va_S A u.heap H locs → retI M pc r → cs ≤ M.2.2.2.2.cells ∧ ss ≤ M.2.2.2.2.slots → W p lc e M.2.2.2.2 u m args below meth c H locs cs ss Z (F0 m pc ls (ts ad r.toList))
def Cx (S : Shp) (M : Mth) (F : Option Value → Sto → Prop) (p : Program) (lc : Launch) (e : Env) (s : State) (m : MethodId) (args : Array Value) (below : List Frame) (meth : Method) (c : Code) (D : va_G) (cA : Nat → ClassId) (ad : Nat → Nat) (A : Nat → Prop) (Z : State → Prop) : Prop :=
  p.tables.exec = Jvm.exec ∧ c.code = M.1 ∧ meth.sig.returnType = M.2.2.2.1 ∧ c.maxLocals = M.2.2.1 ∧ s.vm.findClass M.2.1 = some m.cls ∧ (∀ w ∈ TW, w.before args s = true) ∧ meth.locks = false ∧ va_K D vwCl (tysOf cA) s ∧ DJ S ad ∧ NW s ∧ XS ad A s s.heap ∧ (∀ k, k < nc S → A (ad k)) ∧ (∀ q, s.heap.size ≤ q → A q) ∧ RetOK S M F p lc e s m args below meth c D cA ad A Z
def QQ (S : Shp) (D : va_G) (cA : Nat → ClassId) (ad : Nat → Nat) (b : Nat) (F : Option Value → Sto → Prop) : Array Value → State → Outcome → State → Prop := fun _ st oc t =>
  (∃ (r : Option Value) (s' : Sto), oc = .returned (r.map (tv ad)) ∧ F r s' ∧ va_P D vwCl (wd S ad cA s') t.heap) ∧ va_F (fun q => AW S ad q ∨ b ≤ q) st t
def Go (S : Shp) (M : Mth) (F : Option Value → Sto → Prop) (cs ss : Nat) (pc : Nat) (l : List (Nat × Value)) (st : List Value) (s : Sto) : Prop :=
  ∀ (p : Program) (lc : Launch) (e : Env) (u : State) (m : MethodId) (args : Array Value) (below : List Frame) (meth : Method) (c : Code) (D : va_G) (cA : Nat → ClassId) (ad : Nat → Nat) (H : Heap) (locs : List Loc) (ls : Array Slot) (A : Nat → Prop) (Z : State → Prop),
    Cx S M F p lc e u m args below meth c D cA ad A Z → va_P D vwCl (wd S ad cA s) H → va_S A u.heap H locs → lv_has ls M.2.2.1 (tl ad l) →
    W p lc e M.2.2.2.2 u m args below meth c H locs cs ss Z (F0 m pc ls (ts ad st))
def PcB (S : Shp) (D : va_G) (cA : Nat → ClassId) (ad : Nat → Nat) (b : Nat) (s : Sto) : State → Prop := fun U => va_P D vwCl (wd S ad cA s) U.heap ∧ va_K D vwCl (tysOf cA) U ∧ DJ S ad ∧ NW U ∧ XS ad (fun q => AW S ad q ∨ b ≤ q) U U.heap ∧ U.heap.size = b
/-- a contract: from the store s, with the arguments, the method returns with F -/
def Sp (S : Shp) (y : MethodName) (w : Cond) (R : Room) (as : List Value) (s : Sto) (F : Option Value → Sto → Prop) : Prop :=
  ∀ (l : Launch) (D : va_G) (cA : Nat → ClassId) (ad : Nat → Nat) (b : Nat), Met l y (w :: TW) R (va_Pc (ts ad as) (PcB S D cA ad b s)) (QQ S D cA ad b F) R.cells R.slots (fun q => AW S ad q ∨ b ≤ q)
def SpI (S : Shp) (y : MethodName) (w : Cond) (R : Room) (as : List Value) (s : Sto) (F : Int → Sto → Prop) : Prop := Sp S y w R as s (fun r s' => ∃ x, r = some (iV x) ∧ F x s')
def SpJ (S : Shp) (y : MethodName) (w : Cond) (R : Room) (as : List Value) (s : Sto) (F : Int → Sto → Prop) : Prop := Sp S y w R as s (fun r s' => ∃ x, r = some (jV x) ∧ F x s')
def SpV (S : Shp) (y : MethodName) (w : Cond) (R : Room) (as : List Value) (s : Sto) (F : Sto → Prop) : Prop := Sp S y w R as s (fun r s' => r = none ∧ F s')
theorem QQ.mono {S : Shp} {D : va_G} {cA : Nat → ClassId} {ad : Nat → Nat} {b : Nat} {F G : Option Value → Sto → Prop} (h : ∀ r s, F r s → G r s) {a : Array Value} {st t : State} {o : Outcome} (q : QQ S D cA ad b F a st o t) : QQ S D cA ad b G a st o t := by
  obtain ⟨⟨r, s', h1, h2, h3⟩, h4⟩ := q
  exact ⟨⟨r, s', h1, h r s' h2, h3⟩, h4⟩
theorem Sp.mono {S : Shp} {y : MethodName} {w : Cond} {R : Room} {as : List Value} {s : Sto} {F G : Option Value → Sto → Prop} (h : ∀ r s, F r s → G r s) (k : Sp S y w R as s F) : Sp S y w R as s G := by
  intro l D cA ad b
  exact MetFree.mono (k l D cA ad b) (fun _ _ h => h) (fun _ _ _ _ _ h => h) (fun _ _ _ _ _ q => ⟨q.1.mono h, q.2⟩)
theorem Go.mono {S : Shp} {M : Mth} {F G : Option Value → Sto → Prop} {cs ss pc : Nat} {l : List (Nat × Value)} {st : List Value} {s : Sto} (h : ∀ r s, F r s → G r s) (k : Go S M F cs ss pc l st s) : Go S M G cs ss pc l st s := by
  intro p lc e u m args below meth c D cA ad H locs ls A Z X hP hS hl
  obtain ⟨x1, x2, x3, x4, x5, x6, x7, x8, x9, x10, x11, x12, x13, x14⟩ := X
  exact k p lc e u m args below meth c D cA ad H locs ls A Z ⟨x1, x2, x3, x4, x5, x6, x7, x8, x9, x10, x11, x12, x13, fun H locs ls pc cs ss r s' hF => x14 H locs ls pc cs ss r s' (h r s' hF)⟩ hP hS hl
/-- a contract out of a walk of the body -/
theorem Sp.body {S : Shp} {y : MethodName} {cc : ByteArray} {nL : Nat} {ret : Option FieldType} {R : Room} {as : List Value} {s : Sto} {F : Option Value → Sto → Prop} (hy : plainFor y = true) (hn : (lg_sl as).length ≤ nL)
    (k : Go S (cc, y.cls, nL, ret, R) F 0 0 0 (lv_args 0 as) [] s) : Sp S y (Cond.code y cc nL ret) R as s F := by
  intro l D cA ad b
  refine va_MetF (cc := cc) (maxL := nL) (ret := ret) hy rfl ?_
  intro p e u m args below meth c s₁ B hml hv
  obtain ⟨rfl, hP, hK, hDJ, hN, hX, hz⟩ := hv
  have hts : ∀ w ∈ (Cond.code y cc nL ret :: TW), w.before (ts ad as).toArray u = true := atoms_spec (ws := Cond.code y cc nL ret :: TW) B.pre
  have hown : u.vm.findClass y.cls = some m.cls := findClass_of_methodNamed B.named
  rw [lg_entry_eq]
  have hl := lv_entry (ts ad as) (n := nL) (by rw [lg_ts]; exact hn)
  rw [tl_args] at hl
  refine k p l e u m _ below meth c D cA ad u.heap [] _ (fun q => AW S ad q ∨ b ≤ q) _ ⟨B.exec, B.bytes, B.returns, hml, hown, fun w hw => hts w (List.mem_cons_of_mem _ hw), B.notSynchronized, hK, hDJ, hN, hX, fun k hk => Or.inl ⟨k, hk, rfl⟩, fun q hq => Or.inr (by omega), ?_⟩ hP va_S.rf hl
  intro H locs ls pc cs ss r s' hF hP2 hS2 hr hc
  have hb := B.bytes
  have hrt := B.returns
  refine W.widen hc.1 hc.2 ?_
  rcases hr with ⟨rfl, hd, h2⟩ | ⟨x, ty, rfl, hd, h2, h3⟩ | ⟨x, rfl, hd, h2⟩
  · exact W.vret B.exec hb (hrt.trans h2) (fun t ht hW => ⟨⟨none, s', rfl, hF, by rw [ht]; exact hP2⟩, hS2.F ht⟩) hS2.2.2 hd B.notSynchronized
  · exact W.zret (ty := ty) B.exec hb (hrt.trans h2) h3 (fun t ht hW => ⟨⟨some (iV x), s', rfl, hF, by rw [ht]; exact hP2⟩, hS2.F ht⟩) hS2.2.2 hd B.notSynchronized
  · exact W.lret B.exec hb (hrt.trans h2) (fun t ht hW => ⟨⟨some (jV x), s', rfl, hF, by rw [ht]; exact hP2⟩, hS2.F ht⟩) hS2.2.2 hd B.notSynchronized
def lins (q : Nat × Value) (l : List (Nat × Value)) : List (Nat × Value) := match l with
  | [] => [q]
  | a :: r => if q.1 < a.1 then q :: a :: r else a :: lins q r
theorem lins_mem {q a : Nat × Value} {l : List (Nat × Value)} (h : a ∈ lins q l) : a = q ∨ a ∈ l := by
  induction l with
  | nil => exact Or.inl (List.mem_singleton.mp h)
  | cons b r ih =>
    unfold lins at h
    split at h
    · rcases List.mem_cons.mp h with h | h
      · exact Or.inl h
      · exact Or.inr h
    · rcases List.mem_cons.mp h with h | h
      · exact Or.inr (by rw [h]; exact List.mem_cons_self)
      · rcases ih h with h | h
        · exact Or.inl h
        · exact Or.inr (List.mem_cons_of_mem _ h)
def keep1 (i : Nat) (q : Nat × Value) : Bool := !(q.1 == i) && !(q.1 + 1 == i && q.2.category == 2)
def keep2 (i : Nat) (q : Nat × Value) : Bool := !(q.1 == i) && (!(q.1 == i + 1) && !(q.1 + 1 == i && q.2.category == 2))
def lset (l : List (Nat × Value)) (i : Nat) (v : Value) : List (Nat × Value) := lins (i, v) (l.filter (keep1 i))
def lset2 (l : List (Nat × Value)) (i : Nat) (v : Value) : List (Nat × Value) := lins (i, v) (l.filter (keep2 i))
def lget (l : List (Nat × Value)) (i : Nat) : Option Value := (l.find? (fun q => q.1 == i)).map (fun q => q.2)
theorem lget_at {ad : Nat → Nat} {ls : Array Slot} {nL : Nat} {l : List (Nat × Value)} {i : Nat} {v : Value} (h : lv_has ls nL (tl ad l)) (e : lget l i = some v) : ls[i]? = some (.val (tv ad v)) := by
  unfold lget at e
  cases hf : l.find? (fun q => q.1 == i) with
  | none => rw [hf] at e; cases e
  | some q =>
    rw [hf] at e
    have h1 := List.mem_of_find?_eq_some hf
    have h2 := List.find?_some hf
    have hi : q.1 = i := by simpa using h2
    have hv : q.2 = v := Option.some.inj e
    have := h.2.2 (q.1, tv ad q.2) (List.mem_map.mpr ⟨q, h1, rfl⟩)
    rw [hi, hv] at this
    exact this
theorem lset_has {ad : Nat → Nat} {ls : Array Slot} {nL : Nat} {l : List (Nat × Value)} {i : Nat} {v : Value} (h : lv_has ls nL ((i, tv ad v) :: (tl ad l).filter (fun q => !(q.1 == i) && !(q.1 + 1 == i && q.2.category == 2)))) : lv_has ls nL (tl ad (lset l i v)) := by
  refine ⟨h.1, h.2.1, fun q hq => ?_⟩
  obtain ⟨a, ha, rfl⟩ := List.mem_map.mp hq
  rcases lins_mem ha with rfl | ha
  · exact h.2.2 _ List.mem_cons_self
  · obtain ⟨h1, h2⟩ := List.mem_filter.mp ha
    refine h.2.2 _ (List.mem_cons_of_mem _ (List.mem_filter.mpr ⟨List.mem_map.mpr ⟨a, h1, rfl⟩, ?_⟩))
    simp only [tv_cat]
    exact h2
theorem lset2_has {ad : Nat → Nat} {ls : Array Slot} {nL : Nat} {l : List (Nat × Value)} {i : Nat} {v : Value} (h : lv_has ls nL ((i, tv ad v) :: (tl ad l).filter (fun q => !(q.1 == i) && (!(q.1 == i + 1) && !(q.1 + 1 == i && q.2.category == 2))))) : lv_has ls nL (tl ad (lset2 l i v)) := by
  refine ⟨h.1, h.2.1, fun q hq => ?_⟩
  obtain ⟨a, ha, rfl⟩ := List.mem_map.mp hq
  rcases lins_mem ha with rfl | ha
  · exact h.2.2 _ List.mem_cons_self
  · obtain ⟨h1, h2⟩ := List.mem_filter.mp ha
    refine h.2.2 _ (List.mem_cons_of_mem _ (List.mem_filter.mpr ⟨List.mem_map.mpr ⟨a, h1, rfl⟩, ?_⟩))
    simp only [tv_cat]
    exact h2
/-- some locals are forgotten -/
theorem Go.lsub {S : Shp} {M : Mth} {F : Option Value → Sto → Prop} {cs ss pc : Nat} {l l' : List (Nat × Value)} {st : List Value} {s : Sto} (is : List Nat) (h : lv_pick l is = l') (k : Go S M F cs ss pc l' st s) : Go S M F cs ss pc l st s := by
  intro p lc e u m args below meth c D cA ad H locs ls A Z X hP hS hl
  refine k p lc e u m args below meth c D cA ad H locs ls A Z X hP hS ⟨hl.1, hl.2.1, fun q hq => ?_⟩
  obtain ⟨a, ha, rfl⟩ := List.mem_map.mp hq
  rw [← h] at ha
  obtain ⟨j, -, hj⟩ := List.mem_filterMap.mp ha
  exact hl.2.2 _ (List.mem_map.mpr ⟨a, List.mem_of_getElem? hj, rfl⟩)
end
section
/-! CORE 3: a row an instruction -/
theorem g_iconst {S : Shp} {cs ss : Nat} {M : Mth} {F : Option Value → Sto → Prop} {pc npc : Nat} {l : List (Nat × Value)} {st : List Value} {s : Sto} {n : Int} (hd : decode M.1 pc = .ok (.iconst n, 1)) (hn : pc + 1 = npc) (k : Go S M F cs ss npc l (iV n :: st) s) : Go S M F cs ss pc l (st) s := by
  subst hn
  intro p lc e u m args below meth c D cA ad H locs ls A Z X hP hS hl
  exact lv_iconst X.1 X.2.1 hd rfl (k p lc e u m args below meth c D cA ad H locs ls A Z X hP hS hl)
theorem g_bipush {S : Shp} {cs ss : Nat} {M : Mth} {F : Option Value → Sto → Prop} {pc npc : Nat} {l : List (Nat × Value)} {st : List Value} {s : Sto} {n : Int} {x : Int} (hd : decode M.1 pc = .ok (.bipush n, 2)) (hn : pc + 2 = npc) (hv : (Int8.ofInt n).toInt32 = Int32.ofInt x) (k : Go S M F cs ss npc l (iV x :: st) s) : Go S M F cs ss pc l (st) s := by
  subst hn
  intro p lc e u m args below meth c D cA ad H locs ls A Z X hP hS hl
  exact lv_bipush X.1 X.2.1 hd hv (k p lc e u m args below meth c D cA ad H locs ls A Z X hP hS hl)
theorem g_sipush {S : Shp} {cs ss : Nat} {M : Mth} {F : Option Value → Sto → Prop} {pc npc : Nat} {l : List (Nat × Value)} {st : List Value} {s : Sto} {n : Int} {x : Int} (hd : decode M.1 pc = .ok (.sipush n, 3)) (hn : pc + 3 = npc) (hv : (Int16.ofInt n).toInt32 = Int32.ofInt x) (k : Go S M F cs ss npc l (iV x :: st) s) : Go S M F cs ss pc l (st) s := by
  subst hn
  intro p lc e u m args below meth c D cA ad H locs ls A Z X hP hS hl
  exact lv_sipush X.1 X.2.1 hd hv (k p lc e u m args below meth c D cA ad H locs ls A Z X hP hS hl)
theorem g_lconst {S : Shp} {cs ss : Nat} {M : Mth} {F : Option Value → Sto → Prop} {pc npc : Nat} {l : List (Nat × Value)} {st : List Value} {s : Sto} {n : Fin 2} {x : Int} (hd : decode M.1 pc = .ok (.lconst n, 1)) (hn : pc + 1 = npc) (hv : Int64.ofNat (n : Nat) = Int64.ofInt x) (k : Go S M F cs ss npc l (jV x :: st) s) : Go S M F cs ss pc l (st) s := by
  subst hn
  intro p lc e u m args below meth c D cA ad H locs ls A Z X hP hS hl
  exact lv_lconst X.1 X.2.1 hd hv (k p lc e u m args below meth c D cA ad H locs ls A Z X hP hS hl)
theorem g_ldc {S : Shp} {cs ss : Nat} {M : Mth} {F : Option Value → Sto → Prop} {pc npc : Nat} {l : List (Nat × Value)} {st : List Value} {s : Sto} {index : Nat} {x : Int} (hd : decode M.1 pc = .ok (.ldc index, 2)) (hn : pc + 2 = npc) (hc : Cond.constant M.2.1 index (Int32.ofInt x) ∈ TW) (k : Go S M F cs ss npc l (iV x :: st) s) : Go S M F cs ss pc l (st) s := by
  subst hn
  intro p lc e u m args below meth c D cA ad H locs ls A Z X hP hS hl
  exact lv_ldc X.1 X.2.1 X.2.2.2.2.1 (X.2.2.2.2.2.1 _ hc) hd (k p lc e u m args below meth c D cA ad H locs ls A Z X hP hS hl)
theorem g_ldc2 {S : Shp} {cs ss : Nat} {M : Mth} {F : Option Value → Sto → Prop} {pc npc : Nat} {l : List (Nat × Value)} {st : List Value} {s : Sto} {index : Nat} {x : Int} (hd : decode M.1 pc = .ok (.ldc2_w index, 3)) (hn : pc + 3 = npc) (hc : Cond.constantLong M.2.1 index (Int64.ofInt x) ∈ TW) (k : Go S M F cs ss npc l (jV x :: st) s) : Go S M F cs ss pc l (st) s := by
  subst hn
  intro p lc e u m args below meth c D cA ad H locs ls A Z X hP hS hl
  exact lv_ldc2 X.1 X.2.1 X.2.2.2.2.1 (X.2.2.2.2.2.1 _ hc) hd (k p lc e u m args below meth c D cA ad H locs ls A Z X hP hS hl)
theorem g_iload_n {S : Shp} {cs ss : Nat} {M : Mth} {F : Option Value → Sto → Prop} {pc npc : Nat} {l : List (Nat × Value)} {st : List Value} {s : Sto} {j : Fin 4} {i : Nat} {x : Int} (hd : decode M.1 pc = .ok (.iload_n j, 1)) (hn : pc + 1 = npc) (hi : (j : Nat) = i) (hg : lget l i = some (iV x)) (k : Go S M F cs ss npc l (iV x :: st) s) : Go S M F cs ss pc l (st) s := by
  subst hn
  intro p lc e u m args below meth c D cA ad H locs ls A Z X hP hS hl
  exact lv_iload_n X.1 X.2.1 hd hi (lget_at hl hg) (k p lc e u m args below meth c D cA ad H locs ls A Z X hP hS hl)
theorem g_iload {S : Shp} {cs ss : Nat} {M : Mth} {F : Option Value → Sto → Prop} {pc npc : Nat} {l : List (Nat × Value)} {st : List Value} {s : Sto} {i : Nat} {x : Int} (hd : decode M.1 pc = .ok (.iload i, 2)) (hn : pc + 2 = npc) (hg : lget l i = some (iV x)) (k : Go S M F cs ss npc l (iV x :: st) s) : Go S M F cs ss pc l (st) s := by
  subst hn
  intro p lc e u m args below meth c D cA ad H locs ls A Z X hP hS hl
  exact lv_iload X.1 X.2.1 hd (lget_at hl hg) (k p lc e u m args below meth c D cA ad H locs ls A Z X hP hS hl)
theorem g_lload_n {S : Shp} {cs ss : Nat} {M : Mth} {F : Option Value → Sto → Prop} {pc npc : Nat} {l : List (Nat × Value)} {st : List Value} {s : Sto} {j : Fin 4} {i : Nat} {x : Int} (hd : decode M.1 pc = .ok (.lload_n j, 1)) (hn : pc + 1 = npc) (hi : (j : Nat) = i) (hg : lget l i = some (jV x)) (k : Go S M F cs ss npc l (jV x :: st) s) : Go S M F cs ss pc l (st) s := by
  subst hn
  intro p lc e u m args below meth c D cA ad H locs ls A Z X hP hS hl
  exact lv_lload_n X.1 X.2.1 hd hi (lget_at hl hg) (k p lc e u m args below meth c D cA ad H locs ls A Z X hP hS hl)
theorem g_lload {S : Shp} {cs ss : Nat} {M : Mth} {F : Option Value → Sto → Prop} {pc npc : Nat} {l : List (Nat × Value)} {st : List Value} {s : Sto} {i : Nat} {x : Int} (hd : decode M.1 pc = .ok (.lload i, 2)) (hn : pc + 2 = npc) (hg : lget l i = some (jV x)) (k : Go S M F cs ss npc l (jV x :: st) s) : Go S M F cs ss pc l (st) s := by
  subst hn
  intro p lc e u m args below meth c D cA ad H locs ls A Z X hP hS hl
  exact lv_lload X.1 X.2.1 hd (lget_at hl hg) (k p lc e u m args below meth c D cA ad H locs ls A Z X hP hS hl)
theorem g_aload_n {S : Shp} {cs ss : Nat} {M : Mth} {F : Option Value → Sto → Prop} {pc npc : Nat} {l : List (Nat × Value)} {st : List Value} {s : Sto} {j : Fin 4} {i : Nat} {x : Nat} (hd : decode M.1 pc = .ok (.aload_n j, 1)) (hn : pc + 1 = npc) (hi : (j : Nat) = i) (hg : lget l i = some (.ref x)) (k : Go S M F cs ss npc l (.ref x :: st) s) : Go S M F cs ss pc l (st) s := by
  subst hn
  intro p lc e u m args below meth c D cA ad H locs ls A Z X hP hS hl
  exact lv_aload_n X.1 X.2.1 hd hi (lget_at hl hg) (k p lc e u m args below meth c D cA ad H locs ls A Z X hP hS hl)
theorem g_aload {S : Shp} {cs ss : Nat} {M : Mth} {F : Option Value → Sto → Prop} {pc npc : Nat} {l : List (Nat × Value)} {st : List Value} {s : Sto} {i : Nat} {x : Nat} (hd : decode M.1 pc = .ok (.aload i, 2)) (hn : pc + 2 = npc) (hg : lget l i = some (.ref x)) (k : Go S M F cs ss npc l (.ref x :: st) s) : Go S M F cs ss pc l (st) s := by
  subst hn
  intro p lc e u m args below meth c D cA ad H locs ls A Z X hP hS hl
  exact lv_aload X.1 X.2.1 hd (lget_at hl hg) (k p lc e u m args below meth c D cA ad H locs ls A Z X hP hS hl)
theorem g_istore_n {S : Shp} {cs ss : Nat} {M : Mth} {F : Option Value → Sto → Prop} {pc npc : Nat} {l : List (Nat × Value)} {st : List Value} {s : Sto} {j : Fin 4} {i : Nat} {x : Int} {l' : List (Nat × Value)} (hd : decode M.1 pc = .ok (.istore_n j, 1)) (hn : pc + 1 = npc) (hi : (j : Nat) = i) (hb : i < M.2.2.1) (hl' : lset l i (iV x) = l') (k : Go S M F cs ss npc l' st s) : Go S M F cs ss pc l (iV x :: st) s := by
  subst hn hl'
  intro p lc e u m args below meth c D cA ad H locs ls A Z X hP hS hl
  refine lv_istore_n X.1 X.2.1 hd hi hl hb rfl (fun ls' h' => ?_)
  exact k p lc e u m args below meth c D cA ad H locs ls' A Z X hP hS (lset_has h')
theorem g_istore {S : Shp} {cs ss : Nat} {M : Mth} {F : Option Value → Sto → Prop} {pc npc : Nat} {l : List (Nat × Value)} {st : List Value} {s : Sto} {i : Nat} {x : Int} {l' : List (Nat × Value)} (hd : decode M.1 pc = .ok (.istore i, 2)) (hn : pc + 2 = npc) (hb : i < M.2.2.1) (hl' : lset l i (iV x) = l') (k : Go S M F cs ss npc l' st s) : Go S M F cs ss pc l (iV x :: st) s := by
  subst hn hl'
  intro p lc e u m args below meth c D cA ad H locs ls A Z X hP hS hl
  refine lv_istore X.1 X.2.1 hd hl hb rfl (fun ls' h' => ?_)
  exact k p lc e u m args below meth c D cA ad H locs ls' A Z X hP hS (lset_has h')
theorem g_astore_n {S : Shp} {cs ss : Nat} {M : Mth} {F : Option Value → Sto → Prop} {pc npc : Nat} {l : List (Nat × Value)} {st : List Value} {s : Sto} {j : Fin 4} {i : Nat} {x : Nat} {l' : List (Nat × Value)} (hd : decode M.1 pc = .ok (.astore_n j, 1)) (hn : pc + 1 = npc) (hi : (j : Nat) = i) (hb : i < M.2.2.1) (hl' : lset l i (.ref x) = l') (k : Go S M F cs ss npc l' st s) : Go S M F cs ss pc l (.ref x :: st) s := by
  subst hn hl'
  intro p lc e u m args below meth c D cA ad H locs ls A Z X hP hS hl
  refine lv_astore_n X.1 X.2.1 hd hi hl hb rfl (fun ls' h' => ?_)
  exact k p lc e u m args below meth c D cA ad H locs ls' A Z X hP hS (lset_has h')
theorem g_astore {S : Shp} {cs ss : Nat} {M : Mth} {F : Option Value → Sto → Prop} {pc npc : Nat} {l : List (Nat × Value)} {st : List Value} {s : Sto} {i : Nat} {x : Nat} {l' : List (Nat × Value)} (hd : decode M.1 pc = .ok (.astore i, 2)) (hn : pc + 2 = npc) (hb : i < M.2.2.1) (hl' : lset l i (.ref x) = l') (k : Go S M F cs ss npc l' st s) : Go S M F cs ss pc l (.ref x :: st) s := by
  subst hn hl'
  intro p lc e u m args below meth c D cA ad H locs ls A Z X hP hS hl
  refine lv_astore X.1 X.2.1 hd hl hb rfl (fun ls' h' => ?_)
  exact k p lc e u m args below meth c D cA ad H locs ls' A Z X hP hS (lset_has h')
theorem g_lstore_n {S : Shp} {cs ss : Nat} {M : Mth} {F : Option Value → Sto → Prop} {pc npc : Nat} {l : List (Nat × Value)} {st : List Value} {s : Sto} {j : Fin 4} {i : Nat} {x : Int} {l' : List (Nat × Value)} (hd : decode M.1 pc = .ok (.lstore_n j, 1)) (hn : pc + 1 = npc) (hi : (j : Nat) = i) (hb : i + 1 < M.2.2.1) (hl' : lset2 l i (jV x) = l') (k : Go S M F cs ss npc l' st s) : Go S M F cs ss pc l (jV x :: st) s := by
  subst hn hl'
  intro p lc e u m args below meth c D cA ad H locs ls A Z X hP hS hl
  refine lv_lstore_n X.1 X.2.1 hd hi hl hb rfl (fun ls' h' => ?_)
  exact k p lc e u m args below meth c D cA ad H locs ls' A Z X hP hS (lset2_has h')
theorem g_lstore {S : Shp} {cs ss : Nat} {M : Mth} {F : Option Value → Sto → Prop} {pc npc : Nat} {l : List (Nat × Value)} {st : List Value} {s : Sto} {i : Nat} {x : Int} {l' : List (Nat × Value)} (hd : decode M.1 pc = .ok (.lstore i, 2)) (hn : pc + 2 = npc) (hb : i + 1 < M.2.2.1) (hl' : lset2 l i (jV x) = l') (k : Go S M F cs ss npc l' st s) : Go S M F cs ss pc l (jV x :: st) s := by
  subst hn hl'
  intro p lc e u m args below meth c D cA ad H locs ls A Z X hP hS hl
  refine lv_lstore X.1 X.2.1 hd hl hb rfl (fun ls' h' => ?_)
  exact k p lc e u m args below meth c D cA ad H locs ls' A Z X hP hS (lset2_has h')
theorem g_iinc {S : Shp} {cs ss : Nat} {M : Mth} {F : Option Value → Sto → Prop} {pc npc : Nat} {l : List (Nat × Value)} {st : List Value} {s : Sto} {i : Nat} {n x y : Int} {l' : List (Nat × Value)} (hd : decode M.1 pc = .ok (.iinc i n, 3)) (hn : pc + 3 = npc) (hb : i < M.2.2.1) (hg : lget l i = some (iV x)) (hy : x + n = y) (hl' : lset l i (iV y) = l') (k : Go S M F cs ss npc l' st s) : Go S M F cs ss pc l st s := by
  subst hn hl' hy
  intro p lc e u m args below meth c D cA ad H locs ls A Z X hP hS hl
  have hq := lget_at hl hg
  have hl2 : lv_has ls M.2.2.1 ((i, Value.int (Int32.ofInt x)) :: tl ad l) := ⟨hl.1, hl.2.1, fun q hq2 => by
    rcases List.mem_cons.mp hq2 with rfl | h
    · exact hq
    · exact hl.2.2 q h⟩
  refine lv_iinc (k := 0) X.1 X.2.1 hd hl2 rfl (i32_add x n) hb rfl (fun ls' h' => ?_)
  refine k p lc e u m args below meth c D cA ad H locs ls' A Z X hP hS (lset_has ⟨h'.1, h'.2.1, fun q hq2 => h'.2.2 q ?_⟩)
  rcases List.mem_cons.mp hq2 with h | h
  · exact h ▸ List.mem_cons_self
  · obtain ⟨h1, h2⟩ := List.mem_filter.mp h
    exact List.mem_cons_of_mem _ (List.mem_filter.mpr ⟨List.mem_cons_of_mem _ h1, h2⟩)
theorem g_iadd {S : Shp} {cs ss : Nat} {M : Mth} {F : Option Value → Sto → Prop} {pc npc : Nat} {l : List (Nat × Value)} {st : List Value} {s : Sto} {x y : Int} (hd : decode M.1 pc = .ok (.iadd, 1)) (hn : pc + 1 = npc) (k : Go S M F cs ss npc l (iV (x + y) :: st) s) : Go S M F cs ss pc l (iV y :: iV x :: st) s := by
  subst hn
  intro p lc e u m args below meth c D cA ad H locs ls A Z X hP hS hl
  refine lv_iadd X.1 X.2.1 hd ?_
  rw [i32_add x y]
  exact k p lc e u m args below meth c D cA ad H locs ls A Z X hP hS hl
theorem g_isub {S : Shp} {cs ss : Nat} {M : Mth} {F : Option Value → Sto → Prop} {pc npc : Nat} {l : List (Nat × Value)} {st : List Value} {s : Sto} {x y : Int} (hd : decode M.1 pc = .ok (.isub, 1)) (hn : pc + 1 = npc) (k : Go S M F cs ss npc l (iV (x - y) :: st) s) : Go S M F cs ss pc l (iV y :: iV x :: st) s := by
  subst hn
  intro p lc e u m args below meth c D cA ad H locs ls A Z X hP hS hl
  refine lv_isub X.1 X.2.1 hd ?_
  rw [i32_sub x y]
  exact k p lc e u m args below meth c D cA ad H locs ls A Z X hP hS hl
theorem g_imul {S : Shp} {cs ss : Nat} {M : Mth} {F : Option Value → Sto → Prop} {pc npc : Nat} {l : List (Nat × Value)} {st : List Value} {s : Sto} {x y : Int} (hd : decode M.1 pc = .ok (.imul, 1)) (hn : pc + 1 = npc) (k : Go S M F cs ss npc l (iV (x * y) :: st) s) : Go S M F cs ss pc l (iV y :: iV x :: st) s := by
  subst hn
  intro p lc e u m args below meth c D cA ad H locs ls A Z X hP hS hl
  refine lv_imul X.1 X.2.1 hd ?_
  rw [i32_mul x y]
  exact k p lc e u m args below meth c D cA ad H locs ls A Z X hP hS hl
theorem g_iand {S : Shp} {cs ss : Nat} {M : Mth} {F : Option Value → Sto → Prop} {pc npc : Nat} {l : List (Nat × Value)} {st : List Value} {s : Sto} {x y : Int} (hd : decode M.1 pc = .ok (.iand, 1)) (hn : pc + 1 = npc) (k : Go S M F cs ss npc l (iV (iand x y) :: st) s) : Go S M F cs ss pc l (iV y :: iV x :: st) s := by
  subst hn
  intro p lc e u m args below meth c D cA ad H locs ls A Z X hP hS hl
  refine lv_iand X.1 X.2.1 hd ?_
  rw [← i32_inv (Int32.ofInt x &&& Int32.ofInt y)]
  exact k p lc e u m args below meth c D cA ad H locs ls A Z X hP hS hl
theorem g_ior {S : Shp} {cs ss : Nat} {M : Mth} {F : Option Value → Sto → Prop} {pc npc : Nat} {l : List (Nat × Value)} {st : List Value} {s : Sto} {x y : Int} (hd : decode M.1 pc = .ok (.ior, 1)) (hn : pc + 1 = npc) (k : Go S M F cs ss npc l (iV (ior x y) :: st) s) : Go S M F cs ss pc l (iV y :: iV x :: st) s := by
  subst hn
  intro p lc e u m args below meth c D cA ad H locs ls A Z X hP hS hl
  refine lv_ior X.1 X.2.1 hd ?_
  rw [← i32_inv (Int32.ofInt x ||| Int32.ofInt y)]
  exact k p lc e u m args below meth c D cA ad H locs ls A Z X hP hS hl
theorem g_ixor {S : Shp} {cs ss : Nat} {M : Mth} {F : Option Value → Sto → Prop} {pc npc : Nat} {l : List (Nat × Value)} {st : List Value} {s : Sto} {x y : Int} (hd : decode M.1 pc = .ok (.ixor, 1)) (hn : pc + 1 = npc) (k : Go S M F cs ss npc l (iV (ixor x y) :: st) s) : Go S M F cs ss pc l (iV y :: iV x :: st) s := by
  subst hn
  intro p lc e u m args below meth c D cA ad H locs ls A Z X hP hS hl
  refine lv_ixor X.1 X.2.1 hd ?_
  rw [← i32_inv (Int32.ofInt x ^^^ Int32.ofInt y)]
  exact k p lc e u m args below meth c D cA ad H locs ls A Z X hP hS hl
theorem g_ishl {S : Shp} {cs ss : Nat} {M : Mth} {F : Option Value → Sto → Prop} {pc npc : Nat} {l : List (Nat × Value)} {st : List Value} {s : Sto} {x y : Int} (hd : decode M.1 pc = .ok (.ishl, 1)) (hn : pc + 1 = npc) (k : Go S M F cs ss npc l (iV (ishl x y) :: st) s) : Go S M F cs ss pc l (iV y :: iV x :: st) s := by
  subst hn
  intro p lc e u m args below meth c D cA ad H locs ls A Z X hP hS hl
  refine lv_ishl X.1 X.2.1 hd ?_
  rw [← i32_inv (Int32.ofInt x <<< (Int32.ofInt y &&& 31))]
  exact k p lc e u m args below meth c D cA ad H locs ls A Z X hP hS hl
theorem g_ishr {S : Shp} {cs ss : Nat} {M : Mth} {F : Option Value → Sto → Prop} {pc npc : Nat} {l : List (Nat × Value)} {st : List Value} {s : Sto} {x y : Int} (hd : decode M.1 pc = .ok (.ishr, 1)) (hn : pc + 1 = npc) (k : Go S M F cs ss npc l (iV (ishr x y) :: st) s) : Go S M F cs ss pc l (iV y :: iV x :: st) s := by
  subst hn
  intro p lc e u m args below meth c D cA ad H locs ls A Z X hP hS hl
  refine lv_ishr X.1 X.2.1 hd ?_
  rw [← i32_inv (Int32.ofInt x >>> (Int32.ofInt y &&& 31))]
  exact k p lc e u m args below meth c D cA ad H locs ls A Z X hP hS hl
theorem g_ineg {S : Shp} {cs ss : Nat} {M : Mth} {F : Option Value → Sto → Prop} {pc npc : Nat} {l : List (Nat × Value)} {st : List Value} {s : Sto} {x : Int} (hd : decode M.1 pc = .ok (.ineg, 1)) (hn : pc + 1 = npc) (k : Go S M F cs ss npc l (iV (-x) :: st) s) : Go S M F cs ss pc l (iV x :: st) s := by
  subst hn
  intro p lc e u m args below meth c D cA ad H locs ls A Z X hP hS hl
  refine lv_ineg X.1 X.2.1 hd ?_
  rw [i32_neg]
  exact k p lc e u m args below meth c D cA ad H locs ls A Z X hP hS hl
theorem g_idiv {S : Shp} {cs ss : Nat} {M : Mth} {F : Option Value → Sto → Prop} {pc npc : Nat} {l : List (Nat × Value)} {st : List Value} {s : Sto} {x y : Int} (hd : decode M.1 pc = .ok (.idiv, 1)) (hn : pc + 1 = npc) (hr : (-2147483648 ≤ x ∧ x < 2147483648) ∧ -2147483648 ≤ y ∧ y < 2147483648) (h0 : ¬ y = 0) (k : Go S M F cs ss npc l (iV (x.tdiv y) :: st) s) : Go S M F cs ss pc l (iV y :: iV x :: st) s := by
  subst hn
  intro p lc e u m args below meth c D cA ad H locs ls A Z X hP hS hl
  refine lv_idiv X.1 X.2.1 hd (fun z => h0 ((i32_eq (x := y) (y := 0) ⟨hr.2, by omega, by omega⟩).mp z)) ?_
  rw [i32_div hr]
  exact k p lc e u m args below meth c D cA ad H locs ls A Z X hP hS hl
theorem g_irem {S : Shp} {cs ss : Nat} {M : Mth} {F : Option Value → Sto → Prop} {pc npc : Nat} {l : List (Nat × Value)} {st : List Value} {s : Sto} {x y : Int} (hd : decode M.1 pc = .ok (.irem, 1)) (hn : pc + 1 = npc) (hr : (-2147483648 ≤ x ∧ x < 2147483648) ∧ -2147483648 ≤ y ∧ y < 2147483648) (h0 : ¬ y = 0) (k : Go S M F cs ss npc l (iV (x.tmod y) :: st) s) : Go S M F cs ss pc l (iV y :: iV x :: st) s := by
  subst hn
  intro p lc e u m args below meth c D cA ad H locs ls A Z X hP hS hl
  refine lv_irem X.1 X.2.1 hd (fun z => h0 ((i32_eq (x := y) (y := 0) ⟨hr.2, by omega, by omega⟩).mp z)) ?_
  rw [i32_rem hr]
  exact k p lc e u m args below meth c D cA ad H locs ls A Z X hP hS hl
theorem g_ladd {S : Shp} {cs ss : Nat} {M : Mth} {F : Option Value → Sto → Prop} {pc npc : Nat} {l : List (Nat × Value)} {st : List Value} {s : Sto} {x y : Int} (hd : decode M.1 pc = .ok (.ladd, 1)) (hn : pc + 1 = npc) (k : Go S M F cs ss npc l (jV (x + y) :: st) s) : Go S M F cs ss pc l (jV y :: jV x :: st) s := by
  subst hn
  intro p lc e u m args below meth c D cA ad H locs ls A Z X hP hS hl
  refine lv_ladd X.1 X.2.1 hd ?_
  rw [i64_add x y]
  exact k p lc e u m args below meth c D cA ad H locs ls A Z X hP hS hl
theorem g_lsub {S : Shp} {cs ss : Nat} {M : Mth} {F : Option Value → Sto → Prop} {pc npc : Nat} {l : List (Nat × Value)} {st : List Value} {s : Sto} {x y : Int} (hd : decode M.1 pc = .ok (.lsub, 1)) (hn : pc + 1 = npc) (k : Go S M F cs ss npc l (jV (x - y) :: st) s) : Go S M F cs ss pc l (jV y :: jV x :: st) s := by
  subst hn
  intro p lc e u m args below meth c D cA ad H locs ls A Z X hP hS hl
  refine lv_lsub X.1 X.2.1 hd ?_
  rw [i64_sub x y]
  exact k p lc e u m args below meth c D cA ad H locs ls A Z X hP hS hl
theorem g_lmul {S : Shp} {cs ss : Nat} {M : Mth} {F : Option Value → Sto → Prop} {pc npc : Nat} {l : List (Nat × Value)} {st : List Value} {s : Sto} {x y : Int} (hd : decode M.1 pc = .ok (.lmul, 1)) (hn : pc + 1 = npc) (k : Go S M F cs ss npc l (jV (x * y) :: st) s) : Go S M F cs ss pc l (jV y :: jV x :: st) s := by
  subst hn
  intro p lc e u m args below meth c D cA ad H locs ls A Z X hP hS hl
  refine lv_lmul X.1 X.2.1 hd ?_
  rw [i64_mul x y]
  exact k p lc e u m args below meth c D cA ad H locs ls A Z X hP hS hl
theorem g_lneg {S : Shp} {cs ss : Nat} {M : Mth} {F : Option Value → Sto → Prop} {pc npc : Nat} {l : List (Nat × Value)} {st : List Value} {s : Sto} {x : Int} (hd : decode M.1 pc = .ok (.lneg, 1)) (hn : pc + 1 = npc) (k : Go S M F cs ss npc l (jV (-x) :: st) s) : Go S M F cs ss pc l (jV x :: st) s := by
  subst hn
  intro p lc e u m args below meth c D cA ad H locs ls A Z X hP hS hl
  refine lv_lneg X.1 X.2.1 hd ?_
  rw [i64_neg]
  exact k p lc e u m args below meth c D cA ad H locs ls A Z X hP hS hl
theorem g_ldiv {S : Shp} {cs ss : Nat} {M : Mth} {F : Option Value → Sto → Prop} {pc npc : Nat} {l : List (Nat × Value)} {st : List Value} {s : Sto} {x y : Int} (hd : decode M.1 pc = .ok (.ldiv, 1)) (hn : pc + 1 = npc) (hr : (-9223372036854775808 ≤ x ∧ x < 9223372036854775808) ∧ -9223372036854775808 ≤ y ∧ y < 9223372036854775808) (h0 : ¬ y = 0) (k : Go S M F cs ss npc l (jV (x.tdiv y) :: st) s) : Go S M F cs ss pc l (jV y :: jV x :: st) s := by
  subst hn
  intro p lc e u m args below meth c D cA ad H locs ls A Z X hP hS hl
  refine lv_ldiv X.1 X.2.1 hd (fun z => h0 ((i64_eq (x := y) (y := 0) ⟨hr.2, by omega, by omega⟩).mp z)) ?_
  rw [i64_div hr]
  exact k p lc e u m args below meth c D cA ad H locs ls A Z X hP hS hl
theorem g_lrem {S : Shp} {cs ss : Nat} {M : Mth} {F : Option Value → Sto → Prop} {pc npc : Nat} {l : List (Nat × Value)} {st : List Value} {s : Sto} {x y : Int} (hd : decode M.1 pc = .ok (.lrem, 1)) (hn : pc + 1 = npc) (hr : (-9223372036854775808 ≤ x ∧ x < 9223372036854775808) ∧ -9223372036854775808 ≤ y ∧ y < 9223372036854775808) (h0 : ¬ y = 0) (k : Go S M F cs ss npc l (jV (x.tmod y) :: st) s) : Go S M F cs ss pc l (jV y :: jV x :: st) s := by
  subst hn
  intro p lc e u m args below meth c D cA ad H locs ls A Z X hP hS hl
  refine lv_lrem X.1 X.2.1 hd (fun z => h0 ((i64_eq (x := y) (y := 0) ⟨hr.2, by omega, by omega⟩).mp z)) ?_
  rw [i64_rem hr]
  exact k p lc e u m args below meth c D cA ad H locs ls A Z X hP hS hl
theorem g_i2l {S : Shp} {cs ss : Nat} {M : Mth} {F : Option Value → Sto → Prop} {pc npc : Nat} {l : List (Nat × Value)} {st : List Value} {s : Sto} {x : Int} (hd : decode M.1 pc = .ok (.i2l, 1)) (hn : pc + 1 = npc) (hr : -2147483648 ≤ x ∧ x < 2147483648) (k : Go S M F cs ss npc l (jV x :: st) s) : Go S M F cs ss pc l (iV x :: st) s := by
  subst hn
  intro p lc e u m args below meth c D cA ad H locs ls A Z X hP hS hl
  exact lv_i2l X.1 X.2.1 hd (i32_i2l hr) (k p lc e u m args below meth c D cA ad H locs ls A Z X hP hS hl)
theorem g_l2i {S : Shp} {cs ss : Nat} {M : Mth} {F : Option Value → Sto → Prop} {pc npc : Nat} {l : List (Nat × Value)} {st : List Value} {s : Sto} {x : Int} (hd : decode M.1 pc = .ok (.l2i, 1)) (hn : pc + 1 = npc) (k : Go S M F cs ss npc l (iV x :: st) s) : Go S M F cs ss pc l (jV x :: st) s := by
  subst hn
  intro p lc e u m args below meth c D cA ad H locs ls A Z X hP hS hl
  exact lv_l2i X.1 X.2.1 hd (i64_l2i x) (k p lc e u m args below meth c D cA ad H locs ls A Z X hP hS hl)
theorem g_dup {S : Shp} {cs ss : Nat} {M : Mth} {F : Option Value → Sto → Prop} {pc npc : Nat} {l : List (Nat × Value)} {st : List Value} {s : Sto} {v : Value} (hd : decode M.1 pc = .ok (.dup, 1)) (hn : pc + 1 = npc) (hc : v.category = 1) (k : Go S M F cs ss npc l (v :: v :: st) s) : Go S M F cs ss pc l (v :: st) s := by
  subst hn
  intro p lc e u m args below meth c D cA ad H locs ls A Z X hP hS hl
  exact lv_dup X.1 X.2.1 hd (by rw [tv_cat]; exact hc) (k p lc e u m args below meth c D cA ad H locs ls A Z X hP hS hl)
theorem g_pop {S : Shp} {cs ss : Nat} {M : Mth} {F : Option Value → Sto → Prop} {pc npc : Nat} {l : List (Nat × Value)} {st : List Value} {s : Sto} {v : Value} (hd : decode M.1 pc = .ok (.pop, 1)) (hn : pc + 1 = npc) (hc : v.category = 1) (k : Go S M F cs ss npc l (st) s) : Go S M F cs ss pc l (v :: st) s := by
  subst hn
  intro p lc e u m args below meth c D cA ad H locs ls A Z X hP hS hl
  exact lv_pop X.1 X.2.1 hd (by rw [tv_cat]; exact hc) (k p lc e u m args below meth c D cA ad H locs ls A Z X hP hS hl)
theorem g_dup2 {S : Shp} {cs ss : Nat} {M : Mth} {F : Option Value → Sto → Prop} {pc npc : Nat} {l : List (Nat × Value)} {st : List Value} {s : Sto} {v w : Value} (hd : decode M.1 pc = .ok (.dup2, 1)) (hn : pc + 1 = npc) (hc : v.category = 1) (hc2 : w.category = 1) (k : Go S M F cs ss npc l (v :: w :: v :: w :: st) s) : Go S M F cs ss pc l (v :: w :: st) s := by
  subst hn
  intro p lc e u m args below meth c D cA ad H locs ls A Z X hP hS hl
  exact lv_dup2_11 X.1 X.2.1 hd (by rw [tv_cat]; exact hc) (by rw [tv_cat]; exact hc2) (k p lc e u m args below meth c D cA ad H locs ls A Z X hP hS hl)
theorem g_if_eq {S : Shp} {cs ss : Nat} {M : Mth} {F : Option Value → Sto → Prop} {pc npc : Nat} {l : List (Nat × Value)} {st : List Value} {s : Sto} {tgt : Nat} {off : Int} {x : Int} (hd : decode M.1 pc = .ok (.ifCond .eq off, 3)) (hn : pc + 3 = npc) (ht : (pc : Int) + off = (tgt : Int)) (hr : -2147483648 ≤ x ∧ x < 2147483648) (kt : (x = 0) → Go S M F cs ss tgt l st s) (kf : ¬ (x = 0) → Go S M F cs ss npc l st s) : Go S M F cs ss pc l (iV x :: st) s := by
  subst hn
  intro p lc e u m args below meth c D cA ad H locs ls A Z X hP hS hl
  refine lv_if_eq X.1 X.2.1 hd ht (fun q => ?_) (fun q => ?_)
  · exact kt ((i32_eq (y := 0) ⟨hr, by omega, by omega⟩).mp q) p lc e u m args below meth c D cA ad H locs ls A Z X hP hS hl
  · exact kf (fun z => q ((i32_eq (y := 0) ⟨hr, by omega, by omega⟩).mpr z)) p lc e u m args below meth c D cA ad H locs ls A Z X hP hS hl
theorem g_icmp_eq {S : Shp} {cs ss : Nat} {M : Mth} {F : Option Value → Sto → Prop} {pc npc : Nat} {l : List (Nat × Value)} {st : List Value} {s : Sto} {tgt : Nat} {off : Int} {x y : Int} (hd : decode M.1 pc = .ok (.if_icmp .eq off, 3)) (hn : pc + 3 = npc) (ht : (pc : Int) + off = (tgt : Int)) (hr : (-2147483648 ≤ x ∧ x < 2147483648) ∧ -2147483648 ≤ y ∧ y < 2147483648) (kt : (x = y) → Go S M F cs ss tgt l st s) (kf : ¬ (x = y) → Go S M F cs ss npc l st s) : Go S M F cs ss pc l (iV y :: iV x :: st) s := by
  subst hn
  intro p lc e u m args below meth c D cA ad H locs ls A Z X hP hS hl
  refine lv_icmp_eq X.1 X.2.1 hd ht (fun q => ?_) (fun q => ?_)
  · exact kt ((i32_eq hr).mp q) p lc e u m args below meth c D cA ad H locs ls A Z X hP hS hl
  · exact kf (fun z => q ((i32_eq hr).mpr z)) p lc e u m args below meth c D cA ad H locs ls A Z X hP hS hl
theorem g_if_ne {S : Shp} {cs ss : Nat} {M : Mth} {F : Option Value → Sto → Prop} {pc npc : Nat} {l : List (Nat × Value)} {st : List Value} {s : Sto} {tgt : Nat} {off : Int} {x : Int} (hd : decode M.1 pc = .ok (.ifCond .ne off, 3)) (hn : pc + 3 = npc) (ht : (pc : Int) + off = (tgt : Int)) (hr : -2147483648 ≤ x ∧ x < 2147483648) (kt : (¬ x = 0) → Go S M F cs ss tgt l st s) (kf : ¬ (¬ x = 0) → Go S M F cs ss npc l st s) : Go S M F cs ss pc l (iV x :: st) s := by
  subst hn
  intro p lc e u m args below meth c D cA ad H locs ls A Z X hP hS hl
  refine lv_if_ne X.1 X.2.1 hd ht (fun q => ?_) (fun q => ?_)
  · exact kt ((not_congr (i32_eq (y := 0) ⟨hr, by omega, by omega⟩)).mp q) p lc e u m args below meth c D cA ad H locs ls A Z X hP hS hl
  · exact kf (fun z => z ((i32_eq (y := 0) ⟨hr, by omega, by omega⟩).mp q)) p lc e u m args below meth c D cA ad H locs ls A Z X hP hS hl
theorem g_icmp_ne {S : Shp} {cs ss : Nat} {M : Mth} {F : Option Value → Sto → Prop} {pc npc : Nat} {l : List (Nat × Value)} {st : List Value} {s : Sto} {tgt : Nat} {off : Int} {x y : Int} (hd : decode M.1 pc = .ok (.if_icmp .ne off, 3)) (hn : pc + 3 = npc) (ht : (pc : Int) + off = (tgt : Int)) (hr : (-2147483648 ≤ x ∧ x < 2147483648) ∧ -2147483648 ≤ y ∧ y < 2147483648) (kt : (¬ x = y) → Go S M F cs ss tgt l st s) (kf : ¬ (¬ x = y) → Go S M F cs ss npc l st s) : Go S M F cs ss pc l (iV y :: iV x :: st) s := by
  subst hn
  intro p lc e u m args below meth c D cA ad H locs ls A Z X hP hS hl
  refine lv_icmp_ne X.1 X.2.1 hd ht (fun q => ?_) (fun q => ?_)
  · exact kt ((not_congr (i32_eq hr)).mp q) p lc e u m args below meth c D cA ad H locs ls A Z X hP hS hl
  · exact kf (fun z => z ((i32_eq hr).mp q)) p lc e u m args below meth c D cA ad H locs ls A Z X hP hS hl
theorem g_if_lt {S : Shp} {cs ss : Nat} {M : Mth} {F : Option Value → Sto → Prop} {pc npc : Nat} {l : List (Nat × Value)} {st : List Value} {s : Sto} {tgt : Nat} {off : Int} {x : Int} (hd : decode M.1 pc = .ok (.ifCond .lt off, 3)) (hn : pc + 3 = npc) (ht : (pc : Int) + off = (tgt : Int)) (hr : -2147483648 ≤ x ∧ x < 2147483648) (kt : (x < 0) → Go S M F cs ss tgt l st s) (kf : ¬ (x < 0) → Go S M F cs ss npc l st s) : Go S M F cs ss pc l (iV x :: st) s := by
  subst hn
  intro p lc e u m args below meth c D cA ad H locs ls A Z X hP hS hl
  refine lv_if_lt X.1 X.2.1 hd ht (fun q => ?_) (fun q => ?_)
  · exact kt ((i32_lt (y := 0) ⟨hr, by omega, by omega⟩).mp q) p lc e u m args below meth c D cA ad H locs ls A Z X hP hS hl
  · exact kf (fun z => q ((i32_lt (y := 0) ⟨hr, by omega, by omega⟩).mpr z)) p lc e u m args below meth c D cA ad H locs ls A Z X hP hS hl
theorem g_icmp_lt {S : Shp} {cs ss : Nat} {M : Mth} {F : Option Value → Sto → Prop} {pc npc : Nat} {l : List (Nat × Value)} {st : List Value} {s : Sto} {tgt : Nat} {off : Int} {x y : Int} (hd : decode M.1 pc = .ok (.if_icmp .lt off, 3)) (hn : pc + 3 = npc) (ht : (pc : Int) + off = (tgt : Int)) (hr : (-2147483648 ≤ x ∧ x < 2147483648) ∧ -2147483648 ≤ y ∧ y < 2147483648) (kt : (x < y) → Go S M F cs ss tgt l st s) (kf : ¬ (x < y) → Go S M F cs ss npc l st s) : Go S M F cs ss pc l (iV y :: iV x :: st) s := by
  subst hn
  intro p lc e u m args below meth c D cA ad H locs ls A Z X hP hS hl
  refine lv_icmp_lt X.1 X.2.1 hd ht (fun q => ?_) (fun q => ?_)
  · exact kt ((i32_lt hr).mp q) p lc e u m args below meth c D cA ad H locs ls A Z X hP hS hl
  · exact kf (fun z => q ((i32_lt hr).mpr z)) p lc e u m args below meth c D cA ad H locs ls A Z X hP hS hl
theorem g_if_ge {S : Shp} {cs ss : Nat} {M : Mth} {F : Option Value → Sto → Prop} {pc npc : Nat} {l : List (Nat × Value)} {st : List Value} {s : Sto} {tgt : Nat} {off : Int} {x : Int} (hd : decode M.1 pc = .ok (.ifCond .ge off, 3)) (hn : pc + 3 = npc) (ht : (pc : Int) + off = (tgt : Int)) (hr : -2147483648 ≤ x ∧ x < 2147483648) (kt : (0 ≤ x) → Go S M F cs ss tgt l st s) (kf : ¬ (0 ≤ x) → Go S M F cs ss npc l st s) : Go S M F cs ss pc l (iV x :: st) s := by
  subst hn
  intro p lc e u m args below meth c D cA ad H locs ls A Z X hP hS hl
  refine lv_if_ge X.1 X.2.1 hd ht (fun q => ?_) (fun q => ?_)
  · exact kt ((i32_le (x := 0) ⟨⟨by omega, by omega⟩, hr⟩).mp q) p lc e u m args below meth c D cA ad H locs ls A Z X hP hS hl
  · exact kf (fun z => q ((i32_le (x := 0) ⟨⟨by omega, by omega⟩, hr⟩).mpr z)) p lc e u m args below meth c D cA ad H locs ls A Z X hP hS hl
theorem g_icmp_ge {S : Shp} {cs ss : Nat} {M : Mth} {F : Option Value → Sto → Prop} {pc npc : Nat} {l : List (Nat × Value)} {st : List Value} {s : Sto} {tgt : Nat} {off : Int} {x y : Int} (hd : decode M.1 pc = .ok (.if_icmp .ge off, 3)) (hn : pc + 3 = npc) (ht : (pc : Int) + off = (tgt : Int)) (hr : (-2147483648 ≤ x ∧ x < 2147483648) ∧ -2147483648 ≤ y ∧ y < 2147483648) (kt : (y ≤ x) → Go S M F cs ss tgt l st s) (kf : ¬ (y ≤ x) → Go S M F cs ss npc l st s) : Go S M F cs ss pc l (iV y :: iV x :: st) s := by
  subst hn
  intro p lc e u m args below meth c D cA ad H locs ls A Z X hP hS hl
  refine lv_icmp_ge X.1 X.2.1 hd ht (fun q => ?_) (fun q => ?_)
  · exact kt ((i32_le ⟨hr.2, hr.1⟩).mp q) p lc e u m args below meth c D cA ad H locs ls A Z X hP hS hl
  · exact kf (fun z => q ((i32_le ⟨hr.2, hr.1⟩).mpr z)) p lc e u m args below meth c D cA ad H locs ls A Z X hP hS hl
theorem g_if_gt {S : Shp} {cs ss : Nat} {M : Mth} {F : Option Value → Sto → Prop} {pc npc : Nat} {l : List (Nat × Value)} {st : List Value} {s : Sto} {tgt : Nat} {off : Int} {x : Int} (hd : decode M.1 pc = .ok (.ifCond .gt off, 3)) (hn : pc + 3 = npc) (ht : (pc : Int) + off = (tgt : Int)) (hr : -2147483648 ≤ x ∧ x < 2147483648) (kt : (0 < x) → Go S M F cs ss tgt l st s) (kf : ¬ (0 < x) → Go S M F cs ss npc l st s) : Go S M F cs ss pc l (iV x :: st) s := by
  subst hn
  intro p lc e u m args below meth c D cA ad H locs ls A Z X hP hS hl
  refine lv_if_gt X.1 X.2.1 hd ht (fun q => ?_) (fun q => ?_)
  · exact kt ((i32_lt (x := 0) ⟨⟨by omega, by omega⟩, hr⟩).mp q) p lc e u m args below meth c D cA ad H locs ls A Z X hP hS hl
  · exact kf (fun z => q ((i32_lt (x := 0) ⟨⟨by omega, by omega⟩, hr⟩).mpr z)) p lc e u m args below meth c D cA ad H locs ls A Z X hP hS hl
theorem g_icmp_gt {S : Shp} {cs ss : Nat} {M : Mth} {F : Option Value → Sto → Prop} {pc npc : Nat} {l : List (Nat × Value)} {st : List Value} {s : Sto} {tgt : Nat} {off : Int} {x y : Int} (hd : decode M.1 pc = .ok (.if_icmp .gt off, 3)) (hn : pc + 3 = npc) (ht : (pc : Int) + off = (tgt : Int)) (hr : (-2147483648 ≤ x ∧ x < 2147483648) ∧ -2147483648 ≤ y ∧ y < 2147483648) (kt : (y < x) → Go S M F cs ss tgt l st s) (kf : ¬ (y < x) → Go S M F cs ss npc l st s) : Go S M F cs ss pc l (iV y :: iV x :: st) s := by
  subst hn
  intro p lc e u m args below meth c D cA ad H locs ls A Z X hP hS hl
  refine lv_icmp_gt X.1 X.2.1 hd ht (fun q => ?_) (fun q => ?_)
  · exact kt ((i32_lt ⟨hr.2, hr.1⟩).mp q) p lc e u m args below meth c D cA ad H locs ls A Z X hP hS hl
  · exact kf (fun z => q ((i32_lt ⟨hr.2, hr.1⟩).mpr z)) p lc e u m args below meth c D cA ad H locs ls A Z X hP hS hl
theorem g_if_le {S : Shp} {cs ss : Nat} {M : Mth} {F : Option Value → Sto → Prop} {pc npc : Nat} {l : List (Nat × Value)} {st : List Value} {s : Sto} {tgt : Nat} {off : Int} {x : Int} (hd : decode M.1 pc = .ok (.ifCond .le off, 3)) (hn : pc + 3 = npc) (ht : (pc : Int) + off = (tgt : Int)) (hr : -2147483648 ≤ x ∧ x < 2147483648) (kt : (x ≤ 0) → Go S M F cs ss tgt l st s) (kf : ¬ (x ≤ 0) → Go S M F cs ss npc l st s) : Go S M F cs ss pc l (iV x :: st) s := by
  subst hn
  intro p lc e u m args below meth c D cA ad H locs ls A Z X hP hS hl
  refine lv_if_le X.1 X.2.1 hd ht (fun q => ?_) (fun q => ?_)
  · exact kt ((i32_le (y := 0) ⟨hr, by omega, by omega⟩).mp q) p lc e u m args below meth c D cA ad H locs ls A Z X hP hS hl
  · exact kf (fun z => q ((i32_le (y := 0) ⟨hr, by omega, by omega⟩).mpr z)) p lc e u m args below meth c D cA ad H locs ls A Z X hP hS hl
theorem g_icmp_le {S : Shp} {cs ss : Nat} {M : Mth} {F : Option Value → Sto → Prop} {pc npc : Nat} {l : List (Nat × Value)} {st : List Value} {s : Sto} {tgt : Nat} {off : Int} {x y : Int} (hd : decode M.1 pc = .ok (.if_icmp .le off, 3)) (hn : pc + 3 = npc) (ht : (pc : Int) + off = (tgt : Int)) (hr : (-2147483648 ≤ x ∧ x < 2147483648) ∧ -2147483648 ≤ y ∧ y < 2147483648) (kt : (x ≤ y) → Go S M F cs ss tgt l st s) (kf : ¬ (x ≤ y) → Go S M F cs ss npc l st s) : Go S M F cs ss pc l (iV y :: iV x :: st) s := by
  subst hn
  intro p lc e u m args below meth c D cA ad H locs ls A Z X hP hS hl
  refine lv_icmp_le X.1 X.2.1 hd ht (fun q => ?_) (fun q => ?_)
  · exact kt ((i32_le hr).mp q) p lc e u m args below meth c D cA ad H locs ls A Z X hP hS hl
  · exact kf (fun z => q ((i32_le hr).mpr z)) p lc e u m args below meth c D cA ad H locs ls A Z X hP hS hl
theorem g_goto {S : Shp} {cs ss : Nat} {M : Mth} {F : Option Value → Sto → Prop} {pc npc : Nat} {l : List (Nat × Value)} {st : List Value} {s : Sto} {off : Int} (hd : decode M.1 pc = .ok (.goto off, 3)) (ht : (pc : Int) + off = (npc : Int)) (k : Go S M F cs ss npc l st s) : Go S M F cs ss pc l st s := by
  intro p lc e u m args below meth c D cA ad H locs ls A Z X hP hS hl
  exact lv_goto X.1 X.2.1 hd ht (k p lc e u m args below meth c D cA ad H locs ls A Z X hP hS hl)
def lcm (x y : Int) : Int := if y < x then 1 else if x = y then 0 else -1
theorem lg_lcm {x y : Int} (h : (-9223372036854775808 ≤ x ∧ x < 9223372036854775808) ∧ -9223372036854775808 ≤ y ∧ y < 9223372036854775808) : lg_cmp (Int64.ofInt x) (Int64.ofInt y) = Int32.ofInt (lcm x y) := by
  unfold lg_cmp lcm
  have e1 : (Int64.ofInt x > Int64.ofInt y) ↔ y < x := i64_lt ⟨h.2, h.1⟩
  have e2 : (Int64.ofInt x = Int64.ofInt y) ↔ x = y := i64_eq h
  simp only [e1, e2]
  split
  · rfl
  · split <;> rfl
theorem lcm_r (x y : Int) : -2147483648 ≤ lcm x y ∧ lcm x y < 2147483648 := by
  unfold lcm
  split
  · decide
  · split <;> decide
theorem lcm_eq (x y : Int) : lcm x y = 0 ↔ x = y := by unfold lcm; split <;> (try split) <;> omega
theorem lcm_lt (x y : Int) : lcm x y < 0 ↔ x < y := by unfold lcm; split <;> (try split) <;> omega
theorem lcm_ge (x y : Int) : 0 ≤ lcm x y ↔ y ≤ x := by unfold lcm; split <;> (try split) <;> omega
theorem lcm_gt (x y : Int) : 0 < lcm x y ↔ y < x := by unfold lcm; split <;> (try split) <;> omega
theorem lcm_le (x y : Int) : lcm x y ≤ 0 ↔ x ≤ y := by unfold lcm; split <;> (try split) <;> omega
theorem g_lcmp {S : Shp} {cs ss : Nat} {M : Mth} {F : Option Value → Sto → Prop} {pc npc : Nat} {l : List (Nat × Value)} {st : List Value} {s : Sto} {x y : Int} (hd : decode M.1 pc = .ok (.lcmp, 1)) (hn : pc + 1 = npc) (hr : (-9223372036854775808 ≤ x ∧ x < 9223372036854775808) ∧ -9223372036854775808 ≤ y ∧ y < 9223372036854775808) (k : Go S M F cs ss npc l (iV (lcm x y) :: st) s) : Go S M F cs ss pc l (jV y :: jV x :: st) s := by
  subst hn
  intro p lc e u m args below meth c D cA ad H locs ls A Z X hP hS hl
  refine W.lcmp X.1 X.2.1 hd ?_
  rw [lg_lcm hr]
  exact k p lc e u m args below meth c D cA ad H locs ls A Z X hP hS hl
theorem g_leq {S : Shp} {cs ss : Nat} {M : Mth} {F : Option Value → Sto → Prop} {pc npc : Nat} {l : List (Nat × Value)} {st : List Value} {s : Sto} {pc2 : Nat} {tgt : Nat} {off : Int} {x y : Int} (hd : decode M.1 pc = .ok (.lcmp, 1)) (hn2 : pc + 1 = pc2) (hd2 : decode M.1 pc2 = .ok (.ifCond .eq off, 3)) (hn : pc2 + 3 = npc) (ht : (pc2 : Int) + off = (tgt : Int)) (hr : (-9223372036854775808 ≤ x ∧ x < 9223372036854775808) ∧ -9223372036854775808 ≤ y ∧ y < 9223372036854775808) (kt : (x = y) → Go S M F cs ss tgt l st s) (kf : ¬ (x = y) → Go S M F cs ss npc l st s) : Go S M F cs ss pc l (jV y :: jV x :: st) s :=
  g_lcmp hd hn2 hr (g_if_eq hd2 hn ht (lcm_r x y) (fun q => kt ((lcm_eq x y).mp q)) (fun q => kf (fun z => q ((lcm_eq x y).mpr z))))
theorem g_lne {S : Shp} {cs ss : Nat} {M : Mth} {F : Option Value → Sto → Prop} {pc npc : Nat} {l : List (Nat × Value)} {st : List Value} {s : Sto} {pc2 : Nat} {tgt : Nat} {off : Int} {x y : Int} (hd : decode M.1 pc = .ok (.lcmp, 1)) (hn2 : pc + 1 = pc2) (hd2 : decode M.1 pc2 = .ok (.ifCond .ne off, 3)) (hn : pc2 + 3 = npc) (ht : (pc2 : Int) + off = (tgt : Int)) (hr : (-9223372036854775808 ≤ x ∧ x < 9223372036854775808) ∧ -9223372036854775808 ≤ y ∧ y < 9223372036854775808) (kt : (¬ x = y) → Go S M F cs ss tgt l st s) (kf : ¬ (¬ x = y) → Go S M F cs ss npc l st s) : Go S M F cs ss pc l (jV y :: jV x :: st) s :=
  g_lcmp hd hn2 hr (g_if_ne hd2 hn ht (lcm_r x y) (fun q => kt (fun z => q ((lcm_eq x y).mpr z))) (fun q => kf (fun z => q (fun w => z ((lcm_eq x y).mp w)))))
theorem g_llt {S : Shp} {cs ss : Nat} {M : Mth} {F : Option Value → Sto → Prop} {pc npc : Nat} {l : List (Nat × Value)} {st : List Value} {s : Sto} {pc2 : Nat} {tgt : Nat} {off : Int} {x y : Int} (hd : decode M.1 pc = .ok (.lcmp, 1)) (hn2 : pc + 1 = pc2) (hd2 : decode M.1 pc2 = .ok (.ifCond .lt off, 3)) (hn : pc2 + 3 = npc) (ht : (pc2 : Int) + off = (tgt : Int)) (hr : (-9223372036854775808 ≤ x ∧ x < 9223372036854775808) ∧ -9223372036854775808 ≤ y ∧ y < 9223372036854775808) (kt : (x < y) → Go S M F cs ss tgt l st s) (kf : ¬ (x < y) → Go S M F cs ss npc l st s) : Go S M F cs ss pc l (jV y :: jV x :: st) s :=
  g_lcmp hd hn2 hr (g_if_lt hd2 hn ht (lcm_r x y) (fun q => kt ((lcm_lt x y).mp q)) (fun q => kf (fun z => q ((lcm_lt x y).mpr z))))
theorem g_lge {S : Shp} {cs ss : Nat} {M : Mth} {F : Option Value → Sto → Prop} {pc npc : Nat} {l : List (Nat × Value)} {st : List Value} {s : Sto} {pc2 : Nat} {tgt : Nat} {off : Int} {x y : Int} (hd : decode M.1 pc = .ok (.lcmp, 1)) (hn2 : pc + 1 = pc2) (hd2 : decode M.1 pc2 = .ok (.ifCond .ge off, 3)) (hn : pc2 + 3 = npc) (ht : (pc2 : Int) + off = (tgt : Int)) (hr : (-9223372036854775808 ≤ x ∧ x < 9223372036854775808) ∧ -9223372036854775808 ≤ y ∧ y < 9223372036854775808) (kt : (y ≤ x) → Go S M F cs ss tgt l st s) (kf : ¬ (y ≤ x) → Go S M F cs ss npc l st s) : Go S M F cs ss pc l (jV y :: jV x :: st) s :=
  g_lcmp hd hn2 hr (g_if_ge hd2 hn ht (lcm_r x y) (fun q => kt ((lcm_ge x y).mp q)) (fun q => kf (fun z => q ((lcm_ge x y).mpr z))))
theorem g_lgt {S : Shp} {cs ss : Nat} {M : Mth} {F : Option Value → Sto → Prop} {pc npc : Nat} {l : List (Nat × Value)} {st : List Value} {s : Sto} {pc2 : Nat} {tgt : Nat} {off : Int} {x y : Int} (hd : decode M.1 pc = .ok (.lcmp, 1)) (hn2 : pc + 1 = pc2) (hd2 : decode M.1 pc2 = .ok (.ifCond .gt off, 3)) (hn : pc2 + 3 = npc) (ht : (pc2 : Int) + off = (tgt : Int)) (hr : (-9223372036854775808 ≤ x ∧ x < 9223372036854775808) ∧ -9223372036854775808 ≤ y ∧ y < 9223372036854775808) (kt : (y < x) → Go S M F cs ss tgt l st s) (kf : ¬ (y < x) → Go S M F cs ss npc l st s) : Go S M F cs ss pc l (jV y :: jV x :: st) s :=
  g_lcmp hd hn2 hr (g_if_gt hd2 hn ht (lcm_r x y) (fun q => kt ((lcm_gt x y).mp q)) (fun q => kf (fun z => q ((lcm_gt x y).mpr z))))
theorem g_lle {S : Shp} {cs ss : Nat} {M : Mth} {F : Option Value → Sto → Prop} {pc npc : Nat} {l : List (Nat × Value)} {st : List Value} {s : Sto} {pc2 : Nat} {tgt : Nat} {off : Int} {x y : Int} (hd : decode M.1 pc = .ok (.lcmp, 1)) (hn2 : pc + 1 = pc2) (hd2 : decode M.1 pc2 = .ok (.ifCond .le off, 3)) (hn : pc2 + 3 = npc) (ht : (pc2 : Int) + off = (tgt : Int)) (hr : (-9223372036854775808 ≤ x ∧ x < 9223372036854775808) ∧ -9223372036854775808 ≤ y ∧ y < 9223372036854775808) (kt : (x ≤ y) → Go S M F cs ss tgt l st s) (kf : ¬ (x ≤ y) → Go S M F cs ss npc l st s) : Go S M F cs ss pc l (jV y :: jV x :: st) s :=
  g_lcmp hd hn2 hr (g_if_le hd2 hn ht (lcm_r x y) (fun q => kt ((lcm_le x y).mp q)) (fun q => kf (fun z => q ((lcm_le x y).mpr z))))
def ar (S : Shp) (k t n : Nat) : Prop := k < nc S ∧ kd S k = t ∧ ln S k = n ∧ n < 2147483648
theorem wd_iald {S : Shp} {ad : Nat → Nat} {cA : Nat → ClassId} {s : Sto} {k n : Nat} (h : ar S k 1 n) : (wd S ad cA s)[k]? = some (ad k, .inl (cA 1, n, .inl (fun i => Int32.ofInt (s k i)))) := by
  obtain ⟨h1, h2, h3, -⟩ := h
  rw [wd_at h1]
  simp [cE, h2, h3]
theorem g_iald {S : Shp} {cs ss : Nat} {M : Mth} {F : Option Value → Sto → Prop} {pc npc : Nat} {l : List (Nat × Value)} {st : List Value} {s : Sto} {k n : Nat} {i : Int} (hd : decode M.1 pc = .ok (.iaload, 1)) (hn : pc + 1 = npc) (hk : ar S k 1 n) (hi : 0 ≤ i ∧ i < n) (k' : Go S M F cs ss npc l (iV (s k i.toNat) :: st) s) : Go S M F cs ss pc l (iV i :: .ref k :: st) s := by
  subst hn
  intro p lc e u m args below meth c D cA ad H locs ls A Z X hP hS hl
  obtain ⟨a1, a2⟩ := i32_ix hi hk.2.2.2
  refine va_iald X.1 X.2.1 X.2.2.2.2.2.2.2.1 hP k 0 (wd_iald hk) rfl a1 hd ?_
  rw [a2]
  exact k' p lc e u m args below meth c D cA ad H locs ls A Z X hP hS hl
theorem wd_lald {S : Shp} {ad : Nat → Nat} {cA : Nat → ClassId} {s : Sto} {k n : Nat} (h : ar S k 2 n) : (wd S ad cA s)[k]? = some (ad k, .inl (cA 2, n, .inr (.inl (fun i => Int64.ofInt (s k i))))) := by
  obtain ⟨h1, h2, h3, -⟩ := h
  rw [wd_at h1]
  simp [cE, h2, h3]
theorem g_lald {S : Shp} {cs ss : Nat} {M : Mth} {F : Option Value → Sto → Prop} {pc npc : Nat} {l : List (Nat × Value)} {st : List Value} {s : Sto} {k n : Nat} {i : Int} (hd : decode M.1 pc = .ok (.laload, 1)) (hn : pc + 1 = npc) (hk : ar S k 2 n) (hi : 0 ≤ i ∧ i < n) (k' : Go S M F cs ss npc l (jV (s k i.toNat) :: st) s) : Go S M F cs ss pc l (iV i :: .ref k :: st) s := by
  subst hn
  intro p lc e u m args below meth c D cA ad H locs ls A Z X hP hS hl
  obtain ⟨a1, a2⟩ := i32_ix hi hk.2.2.2
  refine va_lald X.1 X.2.1 X.2.2.2.2.2.2.2.1 hP k 1 (wd_lald hk) rfl a1 hd ?_
  rw [a2]
  exact k' p lc e u m args below meth c D cA ad H locs ls A Z X hP hS hl
theorem wd_cald {S : Shp} {ad : Nat → Nat} {cA : Nat → ClassId} {s : Sto} {k n : Nat} (h : ar S k 3 n) : (wd S ad cA s)[k]? = some (ad k, .inl (cA 3, n, .inl (fun i => Int32.ofInt (s k i)))) := by
  obtain ⟨h1, h2, h3, -⟩ := h
  rw [wd_at h1]
  simp [cE, h2, h3]
theorem g_cald {S : Shp} {cs ss : Nat} {M : Mth} {F : Option Value → Sto → Prop} {pc npc : Nat} {l : List (Nat × Value)} {st : List Value} {s : Sto} {k n : Nat} {i : Int} (hd : decode M.1 pc = .ok (.caload, 1)) (hn : pc + 1 = npc) (hk : ar S k 3 n) (hi : 0 ≤ i ∧ i < n) (k' : Go S M F cs ss npc l (iV (s k i.toNat) :: st) s) : Go S M F cs ss pc l (iV i :: .ref k :: st) s := by
  subst hn
  intro p lc e u m args below meth c D cA ad H locs ls A Z X hP hS hl
  obtain ⟨a1, a2⟩ := i32_ix hi hk.2.2.2
  refine va_cald X.1 X.2.1 X.2.2.2.2.2.2.2.1 hP k 2 (wd_cald hk) rfl a1 hd ?_
  rw [a2]
  exact k' p lc e u m args below meth c D cA ad H locs ls A Z X hP hS hl
theorem wd_zald {S : Shp} {ad : Nat → Nat} {cA : Nat → ClassId} {s : Sto} {k n : Nat} (h : ar S k 4 n) : (wd S ad cA s)[k]? = some (ad k, .inl (cA 4, n, .inl (fun i => Int32.ofInt (s k i)))) := by
  obtain ⟨h1, h2, h3, -⟩ := h
  rw [wd_at h1]
  simp [cE, h2, h3]
theorem g_zald {S : Shp} {cs ss : Nat} {M : Mth} {F : Option Value → Sto → Prop} {pc npc : Nat} {l : List (Nat × Value)} {st : List Value} {s : Sto} {k n : Nat} {i : Int} (hd : decode M.1 pc = .ok (.baload, 1)) (hn : pc + 1 = npc) (hk : ar S k 4 n) (hi : 0 ≤ i ∧ i < n) (k' : Go S M F cs ss npc l (iV (s k i.toNat) :: st) s) : Go S M F cs ss pc l (iV i :: .ref k :: st) s := by
  subst hn
  intro p lc e u m args below meth c D cA ad H locs ls A Z X hP hS hl
  obtain ⟨a1, a2⟩ := i32_ix hi hk.2.2.2
  refine va_zald X.1 X.2.1 X.2.2.2.2.2.2.2.1 hP k 3 (wd_zald hk) rfl a1 hd ?_
  rw [a2]
  exact k' p lc e u m args below meth c D cA ad H locs ls A Z X hP hS hl
theorem wd_iset {S : Shp} {ad : Nat → Nat} {cA : Nat → ClassId} {s : Sto} {k n t i : Nat} {x : Int} (h : ar S k t n) (ht : t = 1 ∨ t = 3 ∨ t = 4) : (wd S ad cA s).set k (ad k, .inl (cA t, n, .inl (upd (fun j => Int32.ofInt (s k j)) i (Int32.ofInt x)))) = wd S ad cA (up s k i x) := by
  obtain ⟨h1, h2, h3, -⟩ := h
  refine wd_set h1 ?_ (fun j _ hj => cE_up_ne hj)
  have e : (upd (fun j => Int32.ofInt (s k j)) i (Int32.ofInt x)) = (fun j => Int32.ofInt (up s k i x k j)) := by
    funext j
    by_cases hj : j = i
    · subst hj; simp [upd, up]
    · simp [upd, up, hj]
  rw [e]
  rcases ht with rfl | rfl | rfl <;> simp [cE, h2, h3]
theorem wd_jset {S : Shp} {ad : Nat → Nat} {cA : Nat → ClassId} {s : Sto} {k n i : Nat} {x : Int} (h : ar S k 2 n) : (wd S ad cA s).set k (ad k, .inl (cA 2, n, .inr (.inl (vp_updL (fun j => Int64.ofInt (s k j)) i (Int64.ofInt x))))) = wd S ad cA (up s k i x) := by
  obtain ⟨h1, h2, h3, -⟩ := h
  refine wd_set h1 ?_ (fun j _ hj => cE_up_ne hj)
  have e : (vp_updL (fun j => Int64.ofInt (s k j)) i (Int64.ofInt x)) = (fun j => Int64.ofInt (up s k i x k j)) := by
    funext j
    by_cases hj : j = i
    · subst hj; simp [vp_updL, up]
    · simp [vp_updL, up, hj]
  rw [e]
  simp [cE, h2, h3]
theorem wd_D2 {S : Shp} {M : Mth} {F : Option Value → Sto → Prop} {p : Program} {lc : Launch} {e : Env} {u : State} {m : MethodId} {args : Array Value} {below : List Frame} {meth : Method} {c : Code} {D : va_G} {cA : Nat → ClassId} {ad : Nat → Nat} {A : Nat → Prop} {Z : State → Prop} {s : Sto} (X : Cx S M F p lc e u m args below meth c D cA ad A Z) : va_D A (wd S ad cA s) := by
  have h := wd_D (S := S) (ad := ad) (cA := cA) (s := s) X.2.2.2.2.2.2.2.2.1
  refine ⟨h.1, fun k q hk => ?_⟩
  obtain ⟨h1, rfl⟩ := wd_get hk
  exact X.2.2.2.2.2.2.2.2.2.2.2.1 k h1
theorem g_iast {S : Shp} {cs ss : Nat} {M : Mth} {F : Option Value → Sto → Prop} {pc npc : Nat} {l : List (Nat × Value)} {st : List Value} {s : Sto} {k n : Nat} {i x : Int} (hd : decode M.1 pc = .ok (.iastore, 1)) (hn : pc + 1 = npc) (hk : ar S k 1 n) (hi : 0 ≤ i ∧ i < n) (k' : Go S M F cs ss npc l st (up s k i.toNat x)) : Go S M F cs ss pc l (iV x :: iV i :: .ref k :: st) s := by
  subst hn
  intro p lc e u m args below meth c D cA ad H locs ls A Z X hP hS hl
  obtain ⟨a1, a2⟩ := i32_ix hi hk.2.2.2
  refine va_iast X.1 X.2.1 X.2.2.2.2.2.2.2.1 hP (wd_D2 X) hS k 0 (wd_iald hk) rfl a1 hd (fun H1 locs1 hP1 hD1 hS1 => ?_)
  rw [a2, wd_iset hk (Or.inl rfl)] at hP1
  exact k' p lc e u m args below meth c D cA ad H1 locs1 ls A Z X hP1 hS1 hl
theorem g_last {S : Shp} {cs ss : Nat} {M : Mth} {F : Option Value → Sto → Prop} {pc npc : Nat} {l : List (Nat × Value)} {st : List Value} {s : Sto} {k n : Nat} {i x : Int} (hd : decode M.1 pc = .ok (.lastore, 1)) (hn : pc + 1 = npc) (hk : ar S k 2 n) (hi : 0 ≤ i ∧ i < n) (k' : Go S M F cs ss npc l st (up s k i.toNat x)) : Go S M F cs ss pc l (jV x :: iV i :: .ref k :: st) s := by
  subst hn
  intro p lc e u m args below meth c D cA ad H locs ls A Z X hP hS hl
  obtain ⟨a1, a2⟩ := i32_ix hi hk.2.2.2
  refine va_last X.1 X.2.1 X.2.2.2.2.2.2.2.1 hP (wd_D2 X) hS k 1 (wd_lald hk) rfl a1 hd (fun H1 locs1 hP1 hD1 hS1 => ?_)
  rw [a2, wd_jset hk] at hP1
  exact k' p lc e u m args below meth c D cA ad H1 locs1 ls A Z X hP1 hS1 hl
theorem g_cast {S : Shp} {cs ss : Nat} {M : Mth} {F : Option Value → Sto → Prop} {pc npc : Nat} {l : List (Nat × Value)} {st : List Value} {s : Sto} {k n : Nat} {i x : Int} (hd : decode M.1 pc = .ok (.castore, 1)) (hn : pc + 1 = npc) (hk : ar S k 3 n) (hi : 0 ≤ i ∧ i < n) (hx : vp_nar .char (Int32.ofInt x) = Int32.ofInt x) (k' : Go S M F cs ss npc l st (up s k i.toNat x)) : Go S M F cs ss pc l (iV x :: iV i :: .ref k :: st) s := by
  subst hn
  intro p lc e u m args below meth c D cA ad H locs ls A Z X hP hS hl
  obtain ⟨a1, a2⟩ := i32_ix hi hk.2.2.2
  refine va_cast X.1 X.2.1 X.2.2.2.2.2.2.2.1 hP (wd_D2 X) hS k 2 (wd_cald hk) rfl a1 hd (fun H1 locs1 hP1 hD1 hS1 => ?_)
  rw [a2, hx, wd_iset hk (Or.inr (Or.inl rfl))] at hP1
  exact k' p lc e u m args below meth c D cA ad H1 locs1 ls A Z X hP1 hS1 hl
theorem g_zast {S : Shp} {cs ss : Nat} {M : Mth} {F : Option Value → Sto → Prop} {pc npc : Nat} {l : List (Nat × Value)} {st : List Value} {s : Sto} {k n : Nat} {i x : Int} (hd : decode M.1 pc = .ok (.bastore, 1)) (hn : pc + 1 = npc) (hk : ar S k 4 n) (hi : 0 ≤ i ∧ i < n) (hx : vp_nar .boolean (Int32.ofInt x) = Int32.ofInt x) (k' : Go S M F cs ss npc l st (up s k i.toNat x)) : Go S M F cs ss pc l (iV x :: iV i :: .ref k :: st) s := by
  subst hn
  intro p lc e u m args below meth c D cA ad H locs ls A Z X hP hS hl
  obtain ⟨a1, a2⟩ := i32_ix hi hk.2.2.2
  refine va_zast X.1 X.2.1 X.2.2.2.2.2.2.2.1 hP (wd_D2 X) hS k 3 (wd_zald hk) rfl a1 hd (fun H1 locs1 hP1 hD1 hS1 => ?_)
  rw [a2, hx, wd_iset hk (Or.inr (Or.inr rfl))] at hP1
  exact k' p lc e u m args below meth c D cA ad H1 locs1 ls A Z X hP1 hS1 hl
theorem g_aald5 {S : Shp} {cs ss : Nat} {M : Mth} {F : Option Value → Sto → Prop} {pc npc : Nat} {l : List (Nat × Value)} {st : List Value} {s : Sto} {k n b : Nat} {i : Int} (hd : decode M.1 pc = .ok (.aaload, 1)) (hn : pc + 1 = npc) (hk : ar S k 5 n) (hi : 0 ≤ i ∧ i < n) (hb : fr S k i.toNat = some (b + i.toNat)) (k' : Go S M F cs ss npc l (.ref (b + i.toNat) :: st) s) : Go S M F cs ss pc l (iV i :: .ref k :: st) s := by
  subst hn
  intro p lc e u m args below meth c D cA ad H locs ls A Z X hP hS hl
  obtain ⟨a1, a2⟩ := i32_ix hi hk.2.2.2
  have ha : (wd S ad cA s)[k]? = some (ad k, .inl (cA 5, n, .inr (.inr (.inr (.inr (fun i => (fr S k i).map ad)))))) := by
    rw [wd_at hk.1]
    simp [cE, hk.2.1, hk.2.2.1]
  have hlt : (Int32.ofInt i).toNatClampNeg < n := Nat.not_le.mp fun q => a1 (Or.inr q)
  refine W.aald (v := .ref (ad (b + i.toNat))) (ty := .array .int) X.1 X.2.1 (hP k _ ha) ((X.2.2.2.2.2.2.2.1.2 4 _ rfl).1 n (fun j => va_rf ((fr S k j).map ad))) rfl (fun q => by cases q) (by show ¬ (_ < 0 ∨ (arrV _ _ _).slots.size ≤ _); rw [arrV_size]; exact a1) ?_ rfl rfl hd (k' p lc e u m args below meth c D cA ad H locs ls A Z X hP hS hl)
  show (arrV _ _ _).slots[_]? = _
  rw [arrV_read _ _ hlt, a2]
  show some (va_rf ((fr S k i.toNat).map ad)) = _
  rw [hb]
  rfl
theorem g_aald6 {S : Shp} {cs ss : Nat} {M : Mth} {F : Option Value → Sto → Prop} {pc npc : Nat} {l : List (Nat × Value)} {st : List Value} {s : Sto} {k n b : Nat} {i : Int} (hd : decode M.1 pc = .ok (.aaload, 1)) (hn : pc + 1 = npc) (hk : ar S k 6 n) (hi : 0 ≤ i ∧ i < n) (hb : fr S k i.toNat = some (b + i.toNat)) (k' : Go S M F cs ss npc l (.ref (b + i.toNat) :: st) s) : Go S M F cs ss pc l (iV i :: .ref k :: st) s := by
  subst hn
  intro p lc e u m args below meth c D cA ad H locs ls A Z X hP hS hl
  obtain ⟨a1, a2⟩ := i32_ix hi hk.2.2.2
  have ha : (wd S ad cA s)[k]? = some (ad k, .inl (cA 6, n, .inr (.inr (.inr (.inr (fun i => (fr S k i).map ad)))))) := by
    rw [wd_at hk.1]
    simp [cE, hk.2.1, hk.2.2.1]
  have hlt : (Int32.ofInt i).toNatClampNeg < n := Nat.not_le.mp fun q => a1 (Or.inr q)
  refine W.aald (v := .ref (ad (b + i.toNat))) (ty := .array .long) X.1 X.2.1 (hP k _ ha) ((X.2.2.2.2.2.2.2.1.2 5 _ rfl).1 n (fun j => va_rf ((fr S k j).map ad))) rfl (fun q => by cases q) (by show ¬ (_ < 0 ∨ (arrV _ _ _).slots.size ≤ _); rw [arrV_size]; exact a1) ?_ rfl rfl hd (k' p lc e u m args below meth c D cA ad H locs ls A Z X hP hS hl)
  show (arrV _ _ _).slots[_]? = _
  rw [arrV_read _ _ hlt, a2]
  show some (va_rf ((fr S k i.toNat).map ad)) = _
  rw [hb]
  rfl
theorem g_alen {S : Shp} {cs ss : Nat} {M : Mth} {F : Option Value → Sto → Prop} {pc npc : Nat} {l : List (Nat × Value)} {st : List Value} {s : Sto} {k n t : Nat} (hd : decode M.1 pc = .ok (.arraylength, 1)) (hn : pc + 1 = npc) (hk : ar S k t n) (ht : t = 1 ∨ t = 2 ∨ t = 3) (k' : Go S M F cs ss npc l (iV (n : Int) :: st) s) : Go S M F cs ss pc l (.ref k :: st) s := by
  subst hn
  intro p lc e0 u m args below meth c D cA ad H locs ls A Z X hP hS hl
  have e : Int32.ofNat n = Int32.ofInt (n : Int) := (Int32.ofInt_eq_ofNat (n := n)).symm
  rcases ht with rfl | rfl | rfl
  · exact va_alen (ty := .int) X.1 X.2.1 X.2.2.2.2.2.2.2.1 hP k 0 (wd_iald hk) rfl e hd (k' p lc e0 u m args below meth c D cA ad H locs ls A Z X hP hS hl)
  · exact va_alen (ty := .long) X.1 X.2.1 X.2.2.2.2.2.2.2.1 hP k 1 (wd_lald hk) rfl e hd (k' p lc e0 u m args below meth c D cA ad H locs ls A Z X hP hS hl)
  · exact va_alen (ty := .char) X.1 X.2.1 X.2.2.2.2.2.2.2.1 hP k 2 (wd_cald hk) rfl e hd (k' p lc e0 u m args below meth c D cA ad H locs ls A Z X hP hS hl)
theorem g_get {S : Shp} {cs ss : Nat} {M : Mth} {F : Option Value → Sto → Prop} {pc npc : Nat} {l : List (Nat × Value)} {st : List Value} {s : Sto} {C : String} {T : u_T} {N idx f k : Nat} {v : Value} (hd : decode M.1 pc = .ok (.getfield idx, 3)) (hn : pc + 3 = npc) (hk : k < nc S ∧ kd S k = 0 ∧ ln S k = N) (hcl : vwCl[ci S k]? = some (C, T, N)) (hws : ∀ w ∈ u_ws C T N, w ∈ TW) (hf : f < N) (hlink : Cond.fieldLink M.2.1 idx C (T f).2.1 (T f).2.2.1 ∈ TW) (hC : (T f).1 = C) (hv : fr S k f = none ∧ v = iV (s k f) ∨ ∃ j, fr S k f = some j ∧ v = .ref j) (k' : Go S M F cs ss npc l (v :: st) s) : Go S M F cs ss pc l (.ref k :: st) s := by
  subst hn
  intro p lc e u m args below meth c D cA ad H locs ls A Z X hP hS hl
  have ha : (wd S ad cA s)[k]? = some (ad k, .inr (ci S k, (List.range N).map (fV S ad s k))) := by
    rw [wd_at hk.1]
    simp [cE, hk.2.1, hk.2.2]
  refine va_get X.1 X.2.1 (X.2.2.2.2.2.1) hws X.2.2.2.2.1 X.2.2.2.2.2.2.2.1 hP k ha hcl f hf (X.2.2.2.2.2.1 _ hlink) (fun x hx => by rw [hC] at hx; exact hx) (v := tv ad v) ?_ hd (k' p lc e u m args below meth c D cA ad H locs ls A Z X hP hS hl)
  simp only [List.getElem?_map, List.getElem?_range hf, Option.map_some]
  rcases hv with ⟨h1, rfl⟩ | ⟨j, h1, rfl⟩
  · simp [fV, h1, iV, tv]
  · simp [fV, h1, tv]
theorem g_put {S : Shp} {cs ss : Nat} {M : Mth} {F : Option Value → Sto → Prop} {pc npc : Nat} {l : List (Nat × Value)} {st : List Value} {s : Sto} {C : String} {T : u_T} {N idx f k : Nat} {x : Int} (ty0 : Nat → FieldType) (hd : decode M.1 pc = .ok (.putfield idx, 3)) (hn : pc + 3 = npc) (hk : k < nc S ∧ kd S k = 0 ∧ ln S k = N) (hcl : vwCl[ci S k]? = some (C, T, N)) (hws : ∀ w ∈ u_ws C T N, w ∈ TW) (hty : ∀ k, k < N → parseFieldDescriptor (T k).2.2.1 = some (ty0 k)) (hnm : ∀ a, a < N → ∀ b, b < N → a ≠ b → (T a).2.1 ≠ (T b).2.1) (hf : f < N) (hlink : Cond.fieldLink M.2.1 idx C (T f).2.1 (T f).2.2.1 ∈ TW) (hC : (T f).1 = C) (hfin : (T f).2.2.2 = false) (hr : fr S k f = none) (hx : narrow (ty0 f) (iV x) = iV x ∧ fits (ty0 f) (iV x) = true) (k' : Go S M F cs ss npc l st (up s k f x)) : Go S M F cs ss pc l (iV x :: .ref k :: st) s := by
  subst hn
  intro p lc e9 u m args below meth c D cA ad H locs ls A Z X hP hS hl
  have ha : (wd S ad cA s)[k]? = some (ad k, .inr (ci S k, (List.range N).map (fV S ad s k))) := by
    rw [wd_at hk.1]
    simp [cE, hk.2.1, hk.2.2]
  refine va_put X.1 X.2.1 (X.2.2.2.2.2.1) hws ty0 hty hnm X.2.2.2.2.1 X.2.2.2.2.2.2.2.1 hP (wd_D2 X) hS k ha hcl f hf (X.2.2.2.2.2.1 _ hlink) (fun x hx => by rw [hC] at hx; exact hx) hfin (hty f hf) hx.1 hx.2 (by simpa using hf) hd (fun H1 locs1 hP1 hD1 hS1 => ?_)
  have e : (wd S ad cA s).set k (ad k, .inr (ci S k, ((List.range N).map (fV S ad s k)).set f (iV x))) = wd S ad cA (up s k f x) := by
    refine wd_set hk.1 ?_ (fun j _ hj => cE_up_ne hj)
    have e2 : ((List.range N).map (fV S ad s k)).set f (iV x) = (List.range N).map (fV S ad (up s k f x) k) := by
      apply List.ext_getElem?
      intro j
      by_cases hj : j = f
      · subst hj
        rw [List.getElem?_set_self (by simpa using hf)]
        simp [hf, fV, hr, up, iV]
      · rw [List.getElem?_set_ne (Ne.symm hj)]
        by_cases hl : j < N
        · simp only [List.getElem?_map, List.getElem?_range hl, Option.map_some]
          congr 1
          unfold fV
          cases fr S k j with
          | some _ => rfl
          | none => simp [up, hj]
        · simp [hl]
    rw [e2]
    simp [cE, hk.2.1, hk.2.2]
  have hP2 : va_P D vwCl ((wd S ad cA s).set k (ad k, .inr (ci S k, ((List.range N).map (fV S ad s k)).set f (iV x)))) H1 := hP1
  rw [e] at hP2
  exact k' p lc e9 u m args below meth c D cA ad H1 locs1 ls A Z X hP2 hS1 hl
theorem g_iret {S : Shp} {cs ss : Nat} {M : Mth} {F : Option Value → Sto → Prop} {pc : Nat} {l : List (Nat × Value)} {s : Sto} {x : Int} {ty : FieldType} (hd : decode M.1 pc = .ok (.ireturn, 1)) (hr : M.2.2.2.1 = some ty) (hx : narrow ty (iV x) = iV x) (hc : cs ≤ M.2.2.2.2.cells ∧ ss ≤ M.2.2.2.2.slots) (h : F (some (iV x)) s) : Go S M F cs ss pc l [iV x] s := by
  intro p lc e u m args below meth c D cA ad H locs ls A Z X hP hS hl
  exact X.2.2.2.2.2.2.2.2.2.2.2.2.2 H locs ls pc cs ss (some (iV x)) s h hP hS (Or.inr (Or.inl ⟨x, ty, rfl, hd, hr, hx⟩)) hc
theorem g_lret {S : Shp} {cs ss : Nat} {M : Mth} {F : Option Value → Sto → Prop} {pc : Nat} {l : List (Nat × Value)} {s : Sto} {x : Int} (hd : decode M.1 pc = .ok (.lreturn, 1)) (hr : M.2.2.2.1 = some .long) (hc : cs ≤ M.2.2.2.2.cells ∧ ss ≤ M.2.2.2.2.slots) (h : F (some (jV x)) s) : Go S M F cs ss pc l [jV x] s := by
  intro p lc e u m args below meth c D cA ad H locs ls A Z X hP hS hl
  exact X.2.2.2.2.2.2.2.2.2.2.2.2.2 H locs ls pc cs ss (some (jV x)) s h hP hS (Or.inr (Or.inr ⟨x, rfl, hd, hr⟩)) hc
theorem g_ret {S : Shp} {cs ss : Nat} {M : Mth} {F : Option Value → Sto → Prop} {pc : Nat} {l : List (Nat × Value)} {s : Sto} (hd : decode M.1 pc = .ok (.return_, 1)) (hr : M.2.2.2.1 = none) (hc : cs ≤ M.2.2.2.2.cells ∧ ss ≤ M.2.2.2.2.slots) (h : F none s) : Go S M F cs ss pc l [] s := by
  intro p lc e u m args below meth c D cA ad H locs ls A Z X hP hS hl
  exact X.2.2.2.2.2.2.2.2.2.2.2.2.2 H locs ls pc cs ss none s h hP hS (Or.inl ⟨rfl, hd, hr⟩) hc
theorem fb_pc {S : Shp} {D : va_G} {cA : Nat → ClassId} {ad : Nat → Nat} {av : List Value} {s : Sto} {b : Nat} : FrameBlind (va_Pc av (PcB S D cA ad b s)) := by
  intro a U g mk q
  obtain ⟨q1, q2, q3, q4, q5, q6, q7⟩ := q
  exact ⟨q1, q2, va_K.moved (u := U) (U := U.calling g mk a) (Vm.Alike.refl U.vm) q3, q4, NW.same rfl q5, XS.same (u := U) (U := U.calling g mk a) rfl q6, q7⟩
theorem pc_of {S : Shp} {M : Mth} {F : Option Value → Sto → Prop} {p : Program} {lc : Launch} {e : Env} {u : State} {m : MethodId} {args : Array Value} {below : List Frame} {meth : Method} {c : Code} {D : va_G} {cA : Nat → ClassId} {ad : Nat → Nat} {A : Nat → Prop} {Z : State → Prop} {H : Heap} {locs : List Loc} {s : Sto} {av : List Value} (X : Cx S M F p lc e u m args below meth c D cA ad A Z) (hP : va_P D vwCl (wd S ad cA s) H) (hS : va_S A u.heap H locs) :
    ∀ U : State, U.heap = H → u.WarmedH U.vm → va_Pc av (PcB S D cA ad H.size s) av.toArray U := by
  intro U hU hW
  obtain ⟨-, -, -, -, -, -, -, hK, hDJ, hN, hX, hA, hA2, -⟩ := X
  have hX1 := hX
  obtain ⟨L, xs, -, -, hb, -⟩ := hX1
  refine ⟨rfl, by rw [hU]; exact hP, va_K.moved hW.alike hK, hDJ, hN.warm hW, ?_, by rw [hU]⟩
  rw [hU]
  refine hX.tr hW hS.1 (fun a h1 h2 => hS.2.1 a h1 h2) (fun q => ?_)
  rcases q with ⟨k, hk, e⟩ | q
  · rw [e]; exact hA k hk
  · exact absurd (Nat.lt_of_lt_of_le hb hS.1) (by omega)
theorem g_run {S : Shp} {cs ss : Nat} {M : Mth} {F : Option Value → Sto → Prop} {pc : Nat} {l : List (Nat × Value)} {st0 : List Value} (st : List Value) {G : Option Value → Sto → Prop} {p : Program} {lc : Launch} {e : Env} {u : State} {m : MethodId} {args : Array Value} {below : List Frame} {meth : Method} {c : Code} {D : va_G} {cA : Nat → ClassId} {ad : Nat → Nat} {A : Nat → Prop} {Z : State → Prop} {H : Heap} {locs : List Loc} {ls : Array Slot} {a : Array Value} {mc ms : Nat}
    (hr : va_Run p lc e M.2.2.2.2 u m args below meth c H locs cs ss mc ms (F0 m pc ls st0) (ts ad st) (QQ S D cA ad H.size G a) (fun q => AW S ad q ∨ H.size ≤ q)) (X : Cx S M F p lc e u m args below meth c D cA ad A Z) (hS : va_S A u.heap H locs) (hl : lv_has ls M.2.2.1 (tl ad l)) (k : ∀ r s', G r s' → Go S M F (cs + mc) (ss + ms) (pc + 3) l (r.toList ++ st) s') :
    W p lc e M.2.2.2.2 u m args below meth c H locs cs ss Z (F0 m pc ls st0) := by
  intro T hT Y
  obtain ⟨v, st₀, t, T', L, h0, X', hL, e1, e2, ⟨⟨r, s', hv, hp, hb⟩, hz, hk⟩, stp⟩ := hr T hT Y
  have hv' : v = r.map (tv ad) := Outcome.returned.inj hv
  subst hv'
  rw [h0] at hz hk
  have hAA : ∀ q, (AW S ad q ∨ H.size ≤ q) → A q := fun q hq => by
    rcases hq with ⟨k, hk, e⟩ | hq
    · rw [e]; exact X.2.2.2.2.2.2.2.2.2.2.2.1 k hk
    · exact X.2.2.2.2.2.2.2.2.2.2.2.2.1 q (Nat.le_trans hS.1 hq)
  have hP' : va_P D vwCl (wd S ad cA s') T'.heap := by rw [e1]; exact hb
  have hS' : va_S A u.heap T'.heap (locs ++ L) := ⟨Nat.le_trans hS.1 (by rw [e1]; exact hz), fun q h1 h2 => by rw [e1, hk q (Nat.lt_of_lt_of_le h1 hS.1) (fun h => h2 (hAA q h))]; exact hS.2.1 q h1 h2, fun q hq => by
    rcases List.mem_append.mp hq with h | h
    · exact hS.2.2 q h
    · exact hAA _ (hL q h)⟩
  obtain ⟨t2, a1, b1⟩ := k r s' hp p lc e u m args below meth c D cA ad T'.heap (locs ++ L) ls A Z X hP' hS' hl T' rfl X'
  refine ⟨t2, stp t2 ?_, b1⟩
  have es : ts ad (r.toList ++ st) = (r.map (tv ad)).toList ++ ts ad st := by cases r <;> simp [ts]
  rw [es] at a1
  exact a1
def okV (M : Mth) (idx : Nat) (C : String) (y : MethodName) (cy : ByteArray) (maxL : Nat) (ret : Option FieldType) (n : Nat) : Prop :=
  (Cond.methodLink M.2.1 idx y ∈ TW ∧ Cond.instanceMethod y ∈ TW ∧ Cond.selects C y y ∈ TW ∧ Cond.initialized C ∈ TW ∧ Cond.code y cy maxL ret ∈ TW) ∧ y.cls = C ∧ y.cls ≠ "java/lang/invoke/MethodHandle" ∧ y.cls ≠ "java/lang/invoke/VarHandle" ∧ (parseMethodDescriptor y.desc).map (fun d => d.parameters.length) = some n
theorem g_callV {S : Shp} {cs ss : Nat} {M : Mth} {F : Option Value → Sto → Prop} {pc npc : Nat} {l : List (Nat × Value)} {st0 st : List Value} {s : Sto} {G : Option Value → Sto → Prop} {C : String} {y : MethodName} {cy : ByteArray} {maxL idx k n : Nat} {ret : Option FieldType} {R2 : Room} {as : List Value} {q : vw_C}
    (hd : decode M.1 pc = .ok (.invokevirtual idx, 3)) (hn : pc + 3 = npc) (hst : st0 = as.reverse ++ .ref k :: st) (hk : k < nc S ∧ kd S k = 0) (hcl : vwCl[ci S k]? = some q) (hq : q.1 = C) (hw : okV M idx C y cy maxL ret n) (hlen : as.length = n) (hcat : (st.map (fun v => v.category)).sum ≤ 8) (hR0 : cs + R2.cells ≤ M.2.2.2.2.cells ∧ ss + R2.slots ≤ M.2.2.2.2.slots) (hR : R2.frames + 1 ≤ M.2.2.2.2.frames ∧ 8 + (maxL + 11) + R2.locals ≤ M.2.2.2.2.locals)
    (hS9 : Sp S y (Cond.code y cy maxL ret) R2 (.ref k :: as) s G) (k' : ∀ r s', G r s' → Go S M F (cs + R2.cells) (ss + R2.slots) npc l (r.toList ++ st) s') : Go S M F cs ss pc l st0 s := by
  subst hn hst hq
  intro p lc e u m args below meth c D cA ad H locs ls A Z X hP hS hl
  obtain ⟨⟨w1, w2, w3, w4, w5⟩, w6, w7, w8, w9⟩ := hw
  have X' := X
  obtain ⟨hx, hb, hret, hml, hown, hts, hlk, hK, hDJ, hN, -⟩ := X
  have hG : GoodIn TW (wsV M.2.1 idx q.1 y (Cond.code y cy maxL ret :: TW)) := fun w hw => by
    have : w ∈ TW := by
      rcases List.mem_append.mp hw with h | h
      · simp only [List.mem_cons, List.not_mem_nil, or_false] at h
        rcases h with rfl | rfl | rfl | rfl <;> assumption
      · rcases List.mem_cons.mp h with rfl | h
        · exact w5
        · exact h
    exact ⟨this, good_of_word (List.mem_filter.mp this).2⟩
  have ha : (wd S ad cA s)[k]? = some (ad k, .inr (ci S k, (List.range (ln S k)).map (fV S ad s k))) := by
    rw [wd_at hk.1]
    simp [cE, hk.2]
  have hrev : ts ad (as.reverse ++ .ref k :: st) = (ts ad as).reverse ++ .ref (ad k) :: ts ad st := by simp [ts, tv]
  rw [hrev]
  refine g_run st (va_runV (As := ts ad as) (rest := ts ad st) ⟨hx, hb, hml, hown, hts⟩ (hS9 lc D cA ad H.size) (cwV n hts hG rfl rfl rfl ⟨w6, w7, w8, w9⟩ hR) ⟨fb_pc, va_recv hK hP hcl ha, ?_⟩ rfl (by simp [ts, hlen]) hl.1 rfl (lv_room (by rw [ts_cat]; exact hcat)) hd hR0) X' hS hl k'
  exact pc_of X' hP hS
def okS (M : Mth) (idx : Nat) (y : MethodName) (cy : ByteArray) (maxL : Nat) (ret : Option FieldType) (n : Nat) : Prop :=
  (Cond.methodLink M.2.1 idx y ∈ TW ∧ Cond.static y ∈ TW ∧ Cond.initialized y.cls ∈ TW ∧ Cond.code y cy maxL ret ∈ TW) ∧ y.cls ≠ "java/lang/invoke/MethodHandle" ∧ y.cls ≠ "java/lang/invoke/VarHandle" ∧ (parseMethodDescriptor y.desc).map (fun d => d.parameters.length) = some n
theorem g_callS {S : Shp} {cs ss : Nat} {M : Mth} {F : Option Value → Sto → Prop} {pc npc : Nat} {l : List (Nat × Value)} {st0 st : List Value} {s : Sto} {G : Option Value → Sto → Prop} {y : MethodName} {cy : ByteArray} {maxL idx n : Nat} {ret : Option FieldType} {R2 : Room} {as : List Value}
    (hd : decode M.1 pc = .ok (.invokestatic idx, 3)) (hn : pc + 3 = npc) (hst : st0 = as.reverse ++ st) (hw : okS M idx y cy maxL ret n) (hlen : as.length = n) (hcat : (st.map (fun v => v.category)).sum ≤ 8) (hR0 : cs + R2.cells ≤ M.2.2.2.2.cells ∧ ss + R2.slots ≤ M.2.2.2.2.slots) (hR : R2.frames + 1 ≤ M.2.2.2.2.frames ∧ 8 + (maxL + 11) + R2.locals ≤ M.2.2.2.2.locals)
    (hS9 : Sp S y (Cond.code y cy maxL ret) R2 as s G) (k' : ∀ r s', G r s' → Go S M F (cs + R2.cells) (ss + R2.slots) npc l (r.toList ++ st) s') : Go S M F cs ss pc l st0 s := by
  subst hn hst
  intro p lc e u m args below meth c D cA ad H locs ls A Z X hP hS hl
  obtain ⟨⟨w1, w2, w4, w5⟩, w7, w8, w9⟩ := hw
  have X' := X
  obtain ⟨hx, hb, hret, hml, hown, hts, hlk, hK, hDJ, hN, -⟩ := X
  have hG : GoodIn TW (Cond.code y cy maxL ret :: TW) := fun w hw => by
    have : w ∈ TW := by
      rcases List.mem_cons.mp hw with rfl | h
      · exact w5
      · exact h
    exact ⟨this, good_of_word (List.mem_filter.mp this).2⟩
  have hrev : ts ad (as.reverse ++ st) = (ts ad as).reverse ++ ts ad st := by simp [ts]
  rw [hrev]
  refine g_run st (va_runS (As := ts ad as) (rest := ts ad st) ⟨hx, hb, hml, hown, hts⟩ (hS9 lc D cA ad H.size) ⟨callB_of n hts hG rfl rfl rfl (hts _ w4) (hts _ w1) ⟨w7, w8, w9⟩ hR, hts _ w2⟩ ⟨fb_pc, ?_⟩ rfl (by simp [ts, hlen]) hl.1 rfl (lv_room (by rw [ts_cat]; exact hcat)) hd hR0) X' hS hl k'
  exact pc_of X' hP hS
/-- a private static method of the host, called by a nest mate -/
def okN (M : Mth) (idx : Nat) (y : MethodName) (cy : ByteArray) (maxL : Nat) (ret : Option FieldType) (n : Nat) : Prop :=
  ((M.2.1, idx, y, "ChipGame") ∈ nestM ∧ Cond.static y ∈ TW ∧ Cond.initialized y.cls ∈ TW ∧ Cond.code y cy maxL ret ∈ TW) ∧ y.cls ≠ "java/lang/invoke/MethodHandle" ∧ y.cls ≠ "java/lang/invoke/VarHandle" ∧ (parseMethodDescriptor y.desc).map (fun d => d.parameters.length) = some n
theorem g_callN {S : Shp} {cs ss : Nat} {M : Mth} {F : Option Value → Sto → Prop} {pc npc : Nat} {l : List (Nat × Value)} {st0 st : List Value} {s : Sto} {G : Option Value → Sto → Prop} {y : MethodName} {cy : ByteArray} {maxL idx n : Nat} {ret : Option FieldType} {R2 : Room} {as : List Value}
    (hd : decode M.1 pc = .ok (.invokestatic idx, 3)) (hn : pc + 3 = npc) (hst : st0 = as.reverse ++ st) (hw : okN M idx y cy maxL ret n) (hlen : as.length = n) (hcat : (st.map (fun v => v.category)).sum ≤ 8) (hR0 : cs + R2.cells ≤ M.2.2.2.2.cells ∧ ss + R2.slots ≤ M.2.2.2.2.slots) (hR : R2.frames + 1 ≤ M.2.2.2.2.frames ∧ 8 + (maxL + 11) + R2.locals ≤ M.2.2.2.2.locals)
    (hS9 : Sp S y (Cond.code y cy maxL ret) R2 as s G) (k' : ∀ r s', G r s' → Go S M F (cs + R2.cells) (ss + R2.slots) npc l (r.toList ++ st) s') : Go S M F cs ss pc l st0 s := by
  subst hn hst
  intro p lc e u m args below meth c D cA ad H locs ls A Z X hP hS hl
  obtain ⟨⟨w1, w2, w4, w5⟩, w7, w8, w9⟩ := hw
  have X' := X
  obtain ⟨hx, hb, hret, hml, hown, hts, hlk, hK, hDJ, hN, -⟩ := X
  have hG : GoodIn TW (Cond.code y cy maxL ret :: TW) := fun w hw => by
    have : w ∈ TW := by
      rcases List.mem_cons.mp hw with rfl | h
      · exact w5
      · exact h
    exact ⟨this, good_of_word (List.mem_filter.mp this).2⟩
  have hrev : ts ad (as.reverse ++ st) = (ts ad as).reverse ++ ts ad st := by simp [ts]
  rw [hrev]
  refine g_run st (va_runSN (As := ts ad as) (rest := ts ad st) ⟨hx, hb, hml, hown, hts⟩ (hS9 lc D cA ad H.size) ⟨va_cnB n hts hG rfl rfl rfl (hN _ w1) (hts _ w4) ⟨w7, w8, w9⟩ hR, hts _ w2, trivial⟩ ⟨fb_pc, ?_⟩ rfl (by simp [ts, hlen]) hl.1 rfl (lv_room (by rw [ts_cat]; exact hcat)) hd hR0) X' hS hl k'
  exact pc_of X' hP hS
end
section
/-! CORE 4: ends by type, switches, a few more rows -/
abbrev fI (Q : Int → Sto → Prop) : Option Value → Sto → Prop := fun r s' => ∃ x, r = some (iV x) ∧ Q x s'
abbrev fJ (Q : Int → Sto → Prop) : Option Value → Sto → Prop := fun r s' => ∃ x, r = some (jV x) ∧ Q x s'
abbrev fR (Q : Nat → Sto → Prop) : Option Value → Sto → Prop := fun r s' => ∃ k, r = some (.ref k) ∧ Q k s'
abbrev fV0 (Q : Sto → Prop) : Option Value → Sto → Prop := fun r s' => r = none ∧ Q s'
theorem nar_zv {x : Int} (h : x = 0 ∨ x = 1) : narrow .boolean (iV x) = iV x := by rcases h with rfl | rfl <;> rfl
theorem nar_z {x : Int} (h : x = 0 ∨ x = 1) : vp_nar .boolean (Int32.ofInt x) = Int32.ofInt x := by rcases h with rfl | rfl <;> rfl
theorem nar_c {x : Int} (h : 0 ≤ x ∧ x < 65536) : vp_nar .char (Int32.ofInt x) = Int32.ofInt x := by
  obtain ⟨n, rfl⟩ : ∃ n : Nat, x = n := ⟨x.toNat, by omega⟩
  have e : Int32.ofInt (n : Int) = nI n := by rw [Int32.ofInt_eq_ofNat]; rfl
  rw [e]
  have := (pk_charN (q := n) (by omega)).1
  unfold vp_nar
  rw [this]
def iushr (x y : Int) : Int := ((Int32.ofInt x).toUInt32 >>> ((Int32.ofInt y).toUInt32 &&& Int32.toUInt32 31)).toInt32.toInt
def lxor (x y : Int) : Int := (Int64.ofInt x ^^^ Int64.ofInt y).toInt
section C4
variable {S : Shp} {cs ss : Nat} {M : Mth} {F : Option Value → Sto → Prop} {pc npc : Nat} {l : List (Nat × Value)} {st : List Value} {s : Sto}
theorem g_iushr {x y : Int} (hd : decode M.1 pc = .ok (.iushr, 1)) (hn : pc + 1 = npc) (k : Go S M F cs ss npc l (iV (iushr x y) :: st) s) : Go S M F cs ss pc l (iV y :: iV x :: st) s := by
  subst hn
  intro p lc e u m args below meth c D cA ad H locs ls A Z X hP hS hl
  exact lv_iushr X.1 X.2.1 hd (i32_inv _).symm (k p lc e u m args below meth c D cA ad H locs ls A Z X hP hS hl)
theorem g_lxor {x y : Int} (hd : decode M.1 pc = .ok (.lxor, 1)) (hn : pc + 1 = npc) (k : Go S M F cs ss npc l (jV (lxor x y) :: st) s) : Go S M F cs ss pc l (jV y :: jV x :: st) s := by
  subst hn
  intro p lc e u m args below meth c D cA ad H locs ls A Z X hP hS hl
  refine lv_lxor X.1 X.2.1 hd ?_
  rw [← Int64.ofInt_toInt (Int64.ofInt x ^^^ Int64.ofInt y)]
  exact k p lc e u m args below meth c D cA ad H locs ls A Z X hP hS hl
theorem g_ldcw {index : Nat} {x : Int} (hd : decode M.1 pc = .ok (.ldc_w index, 3)) (hn : pc + 3 = npc) (hc : Cond.constant M.2.1 index (Int32.ofInt x) ∈ TW) (k : Go S M F cs ss npc l (iV x :: st) s) : Go S M F cs ss pc l st s := by
  subst hn
  intro p lc e u m args below meth c D cA ad H locs ls A Z X hP hS hl
  exact lv_ldcw X.1 X.2.1 X.2.2.2.2.1 (X.2.2.2.2.2.1 _ hc) hd (k p lc e u m args below meth c D cA ad H locs ls A Z X hP hS hl)
theorem g_tabIn {x dflt lo hi off : Int} {offs : Array Int} {len j tgt : Nat} (hd : decode M.1 pc = .ok (.tableswitch dflt lo hi offs, len)) (hr : -2147483648 ≤ x ∧ x < 2147483648) (h : x = lo + j) (hle : lo + j ≤ hi) (ho : offs[j]? = some off) (ht : (pc : Int) + off = (tgt : Int)) (k : Go S M F cs ss tgt l st s) : Go S M F cs ss pc l (iV x :: st) s := by
  intro p lc e u m args below meth c D cA ad H locs ls A Z X hP hS hl
  have ex := ofInt_toInt32 hr
  exact lv_tableIn X.1 X.2.1 hd (by rw [ex]; omega) (by rw [ex]; omega) (by rw [ex, h, show lo + (j : Int) - lo = (j : Int) by omega]; exact ho) ht (k p lc e u m args below meth c D cA ad H locs ls A Z X hP hS hl)
theorem g_tabOut {x dflt lo hi : Int} {offs : Array Int} {len tgt : Nat} (hd : decode M.1 pc = .ok (.tableswitch dflt lo hi offs, len)) (hr : -2147483648 ≤ x ∧ x < 2147483648) (h : x < lo ∨ hi < x) (ht : (pc : Int) + dflt = (tgt : Int)) (k : Go S M F cs ss tgt l st s) : Go S M F cs ss pc l (iV x :: st) s := by
  intro p lc e u m args below meth c D cA ad H locs ls A Z X hP hS hl
  have ex := ofInt_toInt32 hr
  exact lv_tableOut X.1 X.2.1 hd (by rw [ex]; exact h) ht (k p lc e u m args below meth c D cA ad H locs ls A Z X hP hS hl)
end C4
def labs (x : Int) : Int := if 0 < x then x else -x
theorem g_labs {S : Shp} {cs ss : Nat} {M : Mth} {F : Option Value → Sto → Prop} {pc npc idx : Nat} {l : List (Nat × Value)} {st : List Value} {s : Sto} {x : Int} (hd : decode M.1 pc = .ok (.invokestatic idx, 3)) (hn : pc + 3 = npc) (hw : Cond.methodLink M.2.1 idx Lib.MathLoose.abs_long.x ∈ TW ∧ Cond.static Lib.MathLoose.abs_long.x ∈ TW ∧ Cond.initialized "java/lang/Math" ∈ TW ∧ Cond.code Lib.MathLoose.abs_long.x Lib.MathLoose.abs_long.code 2 (some .long) ∈ TW) (hR : 1 ≤ M.2.2.2.2.frames ∧ (st.map fun v => v.category).sum + 13 ≤ M.2.2.2.2.locals) (hC : cs ≤ M.2.2.2.2.cells ∧ ss ≤ M.2.2.2.2.slots) (hr : -9223372036854775808 ≤ x ∧ x < 9223372036854775808)
    (k : Go S M F cs ss npc l (jV (labs x) :: st) s) : Go S M F cs ss pc l (jV x :: st) s := by
  subst hn
  intro p lc e u m args below meth c D cA ad H locs ls A Z X hP hS hl
  obtain ⟨w1, w2, w3, w4⟩ := hw
  refine va_mabs_long X.1 X.2.1 (X.2.2.2.1.trans hl.1.symm) X.2.2.2.2.1 (X.2.2.2.2.2.1 _ w1) (X.2.2.2.2.2.1 _ w2) (X.2.2.2.2.2.1 _ w3) (X.2.2.2.2.2.1 _ w4) hR.1 (by show ((ts ad st).map fun v => v.category).sum + 13 ≤ _; rw [ts_cat]; exact hR.2) hC.1 hC.2 hd ?_
  have e0 : (0 < Int64.ofInt x) ↔ 0 < x := i64_lt (x := 0) ⟨⟨by decide, by decide⟩, hr⟩
  have e1 : (if 0 < Int64.ofInt x then Int64.ofInt x else -Int64.ofInt x) = Int64.ofInt (labs x) := by
    unfold labs
    by_cases h : 0 < x
    · rw [if_pos (e0.mpr h), if_pos h]
    · rw [if_neg (fun q => h (e0.mp q)), if_neg h, i64_neg]
  rw [e1]
  exact k p lc e u m args below meth c D cA ad H locs ls A Z X hP hS hl
end
section
/-! the cells of SC: 0 ChipGame, 1 ChipGame$Graph, 2 ChipGame$Graph.first, 3 ChipGame$Graph.second, 4 ChipGame$Graph.joining, 13 ChipGame$Graph.degrees, 14 ChipGame$Graph.labels, 15 ChipGame$Text, 16 ChipGame$Text.signs, 17 ChipGame$History, 18 ChipGame$History.states, 31 ChipGame$Slots, 32 ChipGame$Slots.taken, 33 ChipGame$Slots.states, 37 ChipGame$Burning, 38 ChipGame$Burning.round, 39 ChipGame$Burning.needed, 40 ChipGame$Firing, 41 ChipGame$Firing.times, 42 ChipGame$Matrix, 43 ChipGame$Matrix.factors, 44 ChipGame$Matrix.cells, 53 ChipGame$Trees, 54 ChipGame$Trees.used, 55 ChipGame$Levels, 56 ChipGame$Levels.edgesInside, 57 ChipGame$Levels.sums, 186 ChipGame$Levels.counts, 187 ChipGame.state, 188 ChipGame.copy, 189 ChipGame.otherCopy -/
def tSC : List (Nat × Nat × Nat) := [(0, 12, 9), (0, 8, 2), (1, 20, 0), (1, 20, 0), (5, 8, 0), (1, 8, 0), (1, 8, 0), (1, 8, 0), (1, 8, 0), (1, 8, 0), (1, 8, 0), (1, 8, 0), (1, 8, 0), (1, 8, 0), (1, 8, 0), (0, 2, 7), (3, 12, 0), (0, 3, 3), (5, 12, 0), (1, 8, 0), (1, 8, 0), (1, 8, 0), (1, 8, 0), (1, 8, 0), (1, 8, 0), (1, 8, 0), (1, 8, 0), (1, 8, 0), (1, 8, 0), (1, 8, 0), (1, 8, 0), (0, 2, 6), (4, 3, 0), (5, 3, 0), (1, 8, 0), (1, 8, 0), (1, 8, 0), (0, 3, 0), (1, 8, 0), (1, 8, 0), (0, 3, 1), (1, 8, 0), (0, 5, 5), (2, 8, 0), (6, 8, 0), (2, 9, 0), (2, 9, 0), (2, 9, 0), (2, 9, 0), (2, 9, 0), (2, 9, 0), (2, 9, 0), (2, 9, 0), (0, 3, 8), (1, 8, 0), (0, 4, 4), (1, 256, 0), (6, 128, 0), (2, 21, 0), (2, 21, 0), (2, 21, 0), (2, 21, 0), (2, 21, 0), (2, 21, 0), (2, 21, 0), (2, 21, 0), (2, 21, 0), (2, 21, 0), (2, 21, 0), (2, 21, 0), (2, 21, 0), (2, 21, 0), (2, 21, 0), (2, 21, 0), (2, 21, 0), (2, 21, 0), (2, 21, 0), (2, 21, 0), (2, 21, 0), (2, 21, 0), (2, 21, 0), (2, 21, 0), (2, 21, 0), (2, 21, 0), (2, 21, 0), (2, 21, 0), (2, 21, 0), (2, 21, 0), (2, 21, 0), (2, 21, 0), (2, 21, 0), (2, 21, 0), (2, 21, 0), (2, 21, 0), (2, 21, 0), (2, 21, 0), (2, 21, 0), (2, 21, 0), (2, 21, 0), (2, 21, 0), (2, 21, 0), (2, 21, 0), (2, 21, 0), (2, 21, 0), (2, 21, 0), (2, 21, 0), (2, 21, 0), (2, 21, 0), (2, 21, 0), (2, 21, 0), (2, 21, 0), (2, 21, 0), (2, 21, 0), (2, 21, 0), (2, 21, 0), (2, 21, 0), (2, 21, 0), (2, 21, 0), (2, 21, 0), (2, 21, 0), (2, 21, 0), (2, 21, 0), (2, 21, 0), (2, 21, 0), (2, 21, 0), (2, 21, 0), (2, 21, 0), (2, 21, 0), (2, 21, 0), (2, 21, 0), (2, 21, 0), (2, 21, 0), (2, 21, 0), (2, 21, 0), (2, 21, 0), (2, 21, 0), (2, 21, 0), (2, 21, 0), (2, 21, 0), (2, 21, 0), (2, 21, 0), (2, 21, 0), (2, 21, 0), (2, 21, 0), (2, 21, 0), (2, 21, 0), (2, 21, 0), (2, 21, 0), (2, 21, 0), (2, 21, 0), (2, 21, 0), (2, 21, 0), (2, 21, 0), (2, 21, 0), (2, 21, 0), (2, 21, 0), (2, 21, 0), (2, 21, 0), (2, 21, 0), (2, 21, 0), (2, 21, 0), (2, 21, 0), (2, 21, 0), (2, 21, 0), (2, 21, 0), (2, 21, 0), (2, 21, 0), (2, 21, 0), (2, 21, 0), (2, 21, 0), (2, 21, 0), (2, 21, 0), (2, 21, 0), (2, 21, 0), (2, 21, 0), (2, 21, 0), (2, 21, 0), (2, 21, 0), (2, 21, 0), (2, 21, 0), (2, 21, 0), (2, 21, 0), (2, 21, 0), (2, 21, 0), (2, 21, 0), (2, 21, 0), (2, 21, 0), (1, 8, 0), (1, 8, 0), (1, 8, 0)]
def rSC (k i : Nat) : Option Nat := match k with
  | 0 => [some 1, some 15, some 17, some 31, some 37, some 40, some 42, some 53, some 55, some 187, some 188, some 189].getD i none
  | 1 => [none, none, none, some 2, some 3, some 4, some 13, some 14].getD i none
  | 15 => [none, some 16].getD i none
  | 17 => [none, none, some 18].getD i none
  | 31 => [some 32, some 33].getD i none
  | 37 => [some 38, some 39, some 1].getD i none
  | 40 => [some 41, some 1, some 37].getD i none
  | 42 => [some 43, none, some 1, some 44, none].getD i none
  | 53 => [some 1, some 42, some 54].getD i none
  | 55 => [some 1, some 56, some 57, some 186].getD i none
  | 4 => if i < 8 then some (5 + i) else none
  | 18 => if i < 12 then some (19 + i) else none
  | 33 => if i < 3 then some (34 + i) else none
  | 44 => if i < 8 then some (45 + i) else none
  | 57 => if i < 128 then some (58 + i) else none
  | _ => none
abbrev SC : Shp := (190, fun k => tSC.getD k (1, 0, 0), rSC)
theorem arSC_2 : ar SC 2 1 20 := by unfold ar; decide +kernel
theorem arSC_3 : ar SC 3 1 20 := by unfold ar; decide +kernel
theorem arSC_4 : ar SC 4 5 8 := by unfold ar; decide +kernel
theorem arSC_13 : ar SC 13 1 8 := by unfold ar; decide +kernel
theorem arSC_14 : ar SC 14 1 8 := by unfold ar; decide +kernel
theorem arSC_16 : ar SC 16 3 12 := by unfold ar; decide +kernel
theorem arSC_18 : ar SC 18 5 12 := by unfold ar; decide +kernel
theorem arSC_32 : ar SC 32 4 3 := by unfold ar; decide +kernel
theorem arSC_33 : ar SC 33 5 3 := by unfold ar; decide +kernel
theorem arSC_38 : ar SC 38 1 8 := by unfold ar; decide +kernel
theorem arSC_39 : ar SC 39 1 8 := by unfold ar; decide +kernel
theorem arSC_41 : ar SC 41 1 8 := by unfold ar; decide +kernel
theorem arSC_43 : ar SC 43 2 8 := by unfold ar; decide +kernel
theorem arSC_44 : ar SC 44 6 8 := by unfold ar; decide +kernel
theorem arSC_54 : ar SC 54 1 8 := by unfold ar; decide +kernel
theorem arSC_56 : ar SC 56 1 256 := by unfold ar; decide +kernel
theorem arSC_57 : ar SC 57 6 128 := by unfold ar; decide +kernel
theorem arSC_186 : ar SC 186 2 21 := by unfold ar; decide +kernel
theorem arSC_187 : ar SC 187 1 8 := by unfold ar; decide +kernel
theorem arSC_188 : ar SC 188 1 8 := by unfold ar; decide +kernel
theorem arSC_189 : ar SC 189 1 8 := by unfold ar; decide +kernel
theorem rnSC_4 : ∀ j : Nat, j < 8 → ar SC (5 + j) 1 8 := by unfold ar; decide +kernel
theorem rwSC_4 {i : Int} (h : 0 ≤ i ∧ i < 8) : ar SC (5 + i.toNat) 1 8 := rnSC_4 _ (by omega)
theorem frSC_4 {i : Int} (h : 0 ≤ i ∧ i < 8) : fr SC 4 i.toNat = some (5 + i.toNat) := if_pos (by omega)
theorem rnSC_18 : ∀ j : Nat, j < 12 → ar SC (19 + j) 1 8 := by unfold ar; decide +kernel
theorem rwSC_18 {i : Int} (h : 0 ≤ i ∧ i < 12) : ar SC (19 + i.toNat) 1 8 := rnSC_18 _ (by omega)
theorem frSC_18 {i : Int} (h : 0 ≤ i ∧ i < 12) : fr SC 18 i.toNat = some (19 + i.toNat) := if_pos (by omega)
theorem rnSC_33 : ∀ j : Nat, j < 3 → ar SC (34 + j) 1 8 := by unfold ar; decide +kernel
theorem rwSC_33 {i : Int} (h : 0 ≤ i ∧ i < 3) : ar SC (34 + i.toNat) 1 8 := rnSC_33 _ (by omega)
theorem frSC_33 {i : Int} (h : 0 ≤ i ∧ i < 3) : fr SC 33 i.toNat = some (34 + i.toNat) := if_pos (by omega)
theorem rnSC_44 : ∀ j : Nat, j < 8 → ar SC (45 + j) 2 9 := by unfold ar; decide +kernel
theorem rwSC_44 {i : Int} (h : 0 ≤ i ∧ i < 8) : ar SC (45 + i.toNat) 2 9 := rnSC_44 _ (by omega)
theorem frSC_44 {i : Int} (h : 0 ≤ i ∧ i < 8) : fr SC 44 i.toNat = some (45 + i.toNat) := if_pos (by omega)
theorem rnSC_57 : ∀ j : Nat, j < 128 → ar SC (58 + j) 2 21 := by unfold ar; decide +kernel
theorem rwSC_57 {i : Int} (h : 0 ≤ i ∧ i < 128) : ar SC (58 + i.toNat) 2 21 := rnSC_57 _ (by omega)
theorem frSC_57 {i : Int} (h : 0 ≤ i ∧ i < 128) : fr SC 57 i.toNat = some (58 + i.toNat) := if_pos (by omega)
abbrev SL (n : Nat) : Shp := (190 + n, fun k => if k < 190 then tSC.getD k (1, 0, 0) else (1, 8, 0), rSC)
theorem arSL {n k t m : Nat} (h : ar SC k t m) : ar (SL n) k t m := by
  obtain ⟨h1, h2, h3, h4⟩ := h
  have h1' : k < 190 := h1
  refine ⟨Nat.lt_of_lt_of_le h1' (Nat.le_add_right 190 n), ?_, ?_, h4⟩
  · show (if k < 190 then tSC.getD k (1, 0, 0) else (1, 8, 0)).1 = t
    rw [if_pos h1']; exact h2
  · show (if k < 190 then tSC.getD k (1, 0, 0) else (1, 8, 0)).2.1 = m
    rw [if_pos h1']; exact h3
theorem arX {n k : Nat} (h1 : 190 ≤ k) (h2 : k < 190 + n) : ar (SL n) k 1 8 := by
  refine ⟨h2, ?_, ?_, by decide⟩
  · show (if k < 190 then tSC.getD k (1, 0, 0) else (1, 8, 0)).1 = 1
    rw [if_neg (by omega)]
  · show (if k < 190 then tSC.getD k (1, 0, 0) else (1, 8, 0)).2.1 = 8
    rw [if_neg (by omega)]
theorem ltSL {n k : Nat} (h : k < 190) : k < nc (SL n) := Nat.lt_of_lt_of_le h (Nat.le_add_right 190 n)
/-! words of the tables, by their places -/
theorem tw_newI : Cond.arrayClass .int ∈ TW := tw_in (List.mem_of_getElem? (i := 109) (by decide +kernel)) (by decide +kernel)
theorem tw_0 : Cond.selects RX2 yX2_countJoining yX2_countJoining ∈ TW := tw_in (List.mem_of_getElem? (i := 0) (by decide +kernel)) (by decide +kernel)
theorem tw_1 : Cond.selects RX10 yX10_startAnew yX10_startAnew ∈ TW := tw_in (List.mem_of_getElem? (i := 1) (by decide +kernel)) (by decide +kernel)
theorem tw_2 : Cond.selects RX10 yX10_forgetStates yX10_forgetStates ∈ TW := tw_in (List.mem_of_getElem? (i := 2) (by decide +kernel)) (by decide +kernel)
theorem tw_3 : Cond.selects RX2 yX2_relabel yX2_relabel ∈ TW := tw_in (List.mem_of_getElem? (i := 3) (by decide +kernel)) (by decide +kernel)
theorem tw_4 : Cond.selects RX10 yX10_isRecurrent yX10_isRecurrent ∈ TW := tw_in (List.mem_of_getElem? (i := 4) (by decide +kernel)) (by decide +kernel)
theorem tw_5 : Cond.selects RX0 yX0_spreadFire yX0_spreadFire ∈ TW := tw_in (List.mem_of_getElem? (i := 5) (by decide +kernel)) (by decide +kernel)
theorem tw_6 : Cond.selects RX0 yX0_burnRound yX0_burnRound ∈ TW := tw_in (List.mem_of_getElem? (i := 6) (by decide +kernel)) (by decide +kernel)
theorem tw_7 : Cond.selects RX0 yX0_edgesToBurnt yX0_edgesToBurnt ∈ TW := tw_in (List.mem_of_getElem? (i := 7) (by decide +kernel)) (by decide +kernel)
theorem tw_8 : Cond.selects RX5 yX5_isFree yX5_isFree ∈ TW := tw_in (List.mem_of_getElem? (i := 8) (by decide +kernel)) (by decide +kernel)
theorem tw_9 : Cond.selects RX5 yX5_fillEdge yX5_fillEdge ∈ TW := tw_in (List.mem_of_getElem? (i := 9) (by decide +kernel)) (by decide +kernel)
theorem tw_10 : Cond.selects RX5 yX5_combineRows yX5_combineRows ∈ TW := tw_in (List.mem_of_getElem? (i := 10) (by decide +kernel)) (by decide +kernel)
theorem tw_11 : Cond.selects RX1 yX1_fireWhilePossible yX1_fireWhilePossible ∈ TW := tw_in (List.mem_of_getElem? (i := 11) (by decide +kernel)) (by decide +kernel)
theorem tw_12 : Cond.selects RX1 yX1_giveAlong yX1_giveAlong ∈ TW := tw_in (List.mem_of_getElem? (i := 12) (by decide +kernel)) (by decide +kernel)
theorem tw_13 : Cond.selects RX1 yX1_fireUnburnt yX1_fireUnburnt ∈ TW := tw_in (List.mem_of_getElem? (i := 13) (by decide +kernel)) (by decide +kernel)
theorem tw_14 : Cond.selects RX1 yX1_mirror yX1_mirror ∈ TW := tw_in (List.mem_of_getElem? (i := 14) (by decide +kernel)) (by decide +kernel)
theorem tw_15 : Cond.selects RX5 yX5_fillWhole yX5_fillWhole ∈ TW := tw_in (List.mem_of_getElem? (i := 15) (by decide +kernel)) (by decide +kernel)
theorem tw_16 : Cond.selects RX5 yX5_clearAround yX5_clearAround ∈ TW := tw_in (List.mem_of_getElem? (i := 16) (by decide +kernel)) (by decide +kernel)
theorem tw_17 : Cond.selects RX5 yX5_bringLeastToCorner yX5_bringLeastToCorner ∈ TW := tw_in (List.mem_of_getElem? (i := 17) (by decide +kernel)) (by decide +kernel)
theorem tw_18 : Cond.selects RX5 yX5_swapRows yX5_swapRows ∈ TW := tw_in (List.mem_of_getElem? (i := 18) (by decide +kernel)) (by decide +kernel)
theorem tw_19 : Cond.selects RX5 yX5_swapColumns yX5_swapColumns ∈ TW := tw_in (List.mem_of_getElem? (i := 19) (by decide +kernel)) (by decide +kernel)
theorem tw_20 : Cond.selects RX5 yX5_clearColumn yX5_clearColumn ∈ TW := tw_in (List.mem_of_getElem? (i := 20) (by decide +kernel)) (by decide +kernel)
theorem tw_21 : Cond.selects RX5 yX5_addRow yX5_addRow ∈ TW := tw_in (List.mem_of_getElem? (i := 21) (by decide +kernel)) (by decide +kernel)
theorem tw_22 : Cond.selects RX5 yX5_clearRow yX5_clearRow ∈ TW := tw_in (List.mem_of_getElem? (i := 22) (by decide +kernel)) (by decide +kernel)
theorem tw_23 : Cond.selects RX5 yX5_addColumn yX5_addColumn ∈ TW := tw_in (List.mem_of_getElem? (i := 23) (by decide +kernel)) (by decide +kernel)
theorem tw_24 : Cond.selects RX5 yX5_addUndividedRow yX5_addUndividedRow ∈ TW := tw_in (List.mem_of_getElem? (i := 24) (by decide +kernel)) (by decide +kernel)
theorem tw_25 : Cond.selects RX4 yX4_countEdgesInside yX4_countEdgesInside ∈ TW := tw_in (List.mem_of_getElem? (i := 25) (by decide +kernel)) (by decide +kernel)
theorem tw_26 : Cond.selects RX4 yX4_sumConnected yX4_sumConnected ∈ TW := tw_in (List.mem_of_getElem? (i := 26) (by decide +kernel)) (by decide +kernel)
theorem tw_27 : Cond.selects RX4 yX4_divideByYMinusOne yX4_divideByYMinusOne ∈ TW := tw_in (List.mem_of_getElem? (i := 27) (by decide +kernel)) (by decide +kernel)
theorem tw_28 : Cond.selects RX9 yX9_lowestBorderEdge yX9_lowestBorderEdge ∈ TW := tw_in (List.mem_of_getElem? (i := 28) (by decide +kernel)) (by decide +kernel)
theorem tw_29 : Cond.selects RX9 yX9_unmarkedEnd yX9_unmarkedEnd ∈ TW := tw_in (List.mem_of_getElem? (i := 29) (by decide +kernel)) (by decide +kernel)
theorem tw_30 : Cond.initialized RL ∈ TW := tw_in (List.mem_of_getElem? (i := 30) (by decide +kernel)) (by decide +kernel)
theorem tw_31 : Cond.initialized RX10 ∈ TW := tw_in (List.mem_of_getElem? (i := 31) (by decide +kernel)) (by decide +kernel)
theorem tw_32 : Cond.initialized RX2 ∈ TW := tw_in (List.mem_of_getElem? (i := 32) (by decide +kernel)) (by decide +kernel)
theorem tw_34 : Cond.initialized RX3 ∈ TW := tw_in (List.mem_of_getElem? (i := 34) (by decide +kernel)) (by decide +kernel)
theorem tw_35 : Cond.initialized RX7 ∈ TW := tw_in (List.mem_of_getElem? (i := 35) (by decide +kernel)) (by decide +kernel)
theorem tw_36 : Cond.initialized RX0 ∈ TW := tw_in (List.mem_of_getElem? (i := 36) (by decide +kernel)) (by decide +kernel)
theorem tw_37 : Cond.initialized RX1 ∈ TW := tw_in (List.mem_of_getElem? (i := 37) (by decide +kernel)) (by decide +kernel)
theorem tw_38 : Cond.initialized RX5 ∈ TW := tw_in (List.mem_of_getElem? (i := 38) (by decide +kernel)) (by decide +kernel)
theorem tw_39 : Cond.initialized RX9 ∈ TW := tw_in (List.mem_of_getElem? (i := 39) (by decide +kernel)) (by decide +kernel)
theorem tw_40 : Cond.initialized RX4 ∈ TW := tw_in (List.mem_of_getElem? (i := 40) (by decide +kernel)) (by decide +kernel)
theorem tw_41 : Cond.initialized RJ9 ∈ TW := tw_in (List.mem_of_getElem? (i := 41) (by decide +kernel)) (by decide +kernel)
theorem tw_42 : Cond.initialized RJ6 ∈ TW := tw_in (List.mem_of_getElem? (i := 42) (by decide +kernel)) (by decide +kernel)
theorem tw_59 : Cond.fieldLink RX2 9 RX2 "nodes" "I" ∈ TW := tw_in (List.mem_of_getElem? (i := 59) (by decide +kernel)) (by decide +kernel)
theorem tw_60 : Cond.fieldLink RX5 31 RX2 "nodes" "I" ∈ TW := tw_in (List.mem_of_getElem? (i := 60) (by decide +kernel)) (by decide +kernel)
theorem tw_61 : Cond.fieldLink RX10 98 RX2 "nodes" "I" ∈ TW := tw_in (List.mem_of_getElem? (i := 61) (by decide +kernel)) (by decide +kernel)
theorem tw_62 : Cond.fieldLink RX4 31 RX2 "nodes" "I" ∈ TW := tw_in (List.mem_of_getElem? (i := 62) (by decide +kernel)) (by decide +kernel)
theorem tw_63 : Cond.fieldLink RX1 33 RX2 "nodes" "I" ∈ TW := tw_in (List.mem_of_getElem? (i := 63) (by decide +kernel)) (by decide +kernel)
theorem tw_64 : Cond.fieldLink RX0 28 RX2 "nodes" "I" ∈ TW := tw_in (List.mem_of_getElem? (i := 64) (by decide +kernel)) (by decide +kernel)
theorem tw_65 : Cond.fieldLink RX2 15 RX2 "edges" "I" ∈ TW := tw_in (List.mem_of_getElem? (i := 65) (by decide +kernel)) (by decide +kernel)
theorem tw_66 : Cond.fieldLink RX5 40 RX2 "edges" "I" ∈ TW := tw_in (List.mem_of_getElem? (i := 66) (by decide +kernel)) (by decide +kernel)
theorem tw_67 : Cond.fieldLink RX9 39 RX2 "edges" "I" ∈ TW := tw_in (List.mem_of_getElem? (i := 67) (by decide +kernel)) (by decide +kernel)
theorem tw_68 : Cond.fieldLink RX4 44 RX2 "edges" "I" ∈ TW := tw_in (List.mem_of_getElem? (i := 68) (by decide +kernel)) (by decide +kernel)
theorem tw_69 : Cond.fieldLink RX10 109 RX2 "edges" "I" ∈ TW := tw_in (List.mem_of_getElem? (i := 69) (by decide +kernel)) (by decide +kernel)
theorem tw_70 : Cond.fieldLink RX2 18 RX2 "sink" "I" ∈ TW := tw_in (List.mem_of_getElem? (i := 70) (by decide +kernel)) (by decide +kernel)
theorem tw_71 : Cond.fieldLink RX9 51 RX2 "sink" "I" ∈ TW := tw_in (List.mem_of_getElem? (i := 71) (by decide +kernel)) (by decide +kernel)
theorem tw_72 : Cond.fieldLink RX5 60 RX2 "sink" "I" ∈ TW := tw_in (List.mem_of_getElem? (i := 72) (by decide +kernel)) (by decide +kernel)
theorem tw_73 : Cond.fieldLink RX10 121 RX2 "sink" "I" ∈ TW := tw_in (List.mem_of_getElem? (i := 73) (by decide +kernel)) (by decide +kernel)
theorem tw_74 : Cond.fieldLink RX0 40 RX2 "sink" "I" ∈ TW := tw_in (List.mem_of_getElem? (i := 74) (by decide +kernel)) (by decide +kernel)
theorem tw_75 : Cond.fieldLink RX1 52 RX2 "sink" "I" ∈ TW := tw_in (List.mem_of_getElem? (i := 75) (by decide +kernel)) (by decide +kernel)
theorem tw_76 : Cond.fieldLink RX2 21 RX2 "first" "[I" ∈ TW := tw_in (List.mem_of_getElem? (i := 76) (by decide +kernel)) (by decide +kernel)
theorem tw_77 : Cond.fieldLink RX5 47 RX2 "first" "[I" ∈ TW := tw_in (List.mem_of_getElem? (i := 77) (by decide +kernel)) (by decide +kernel)
theorem tw_78 : Cond.fieldLink RX4 47 RX2 "first" "[I" ∈ TW := tw_in (List.mem_of_getElem? (i := 78) (by decide +kernel)) (by decide +kernel)
theorem tw_79 : Cond.fieldLink RX9 68 RX2 "first" "[I" ∈ TW := tw_in (List.mem_of_getElem? (i := 79) (by decide +kernel)) (by decide +kernel)
theorem tw_80 : Cond.fieldLink RX10 168 RX2 "first" "[I" ∈ TW := tw_in (List.mem_of_getElem? (i := 80) (by decide +kernel)) (by decide +kernel)
theorem tw_81 : Cond.fieldLink RX2 25 RX2 "second" "[I" ∈ TW := tw_in (List.mem_of_getElem? (i := 81) (by decide +kernel)) (by decide +kernel)
theorem tw_82 : Cond.fieldLink RX5 50 RX2 "second" "[I" ∈ TW := tw_in (List.mem_of_getElem? (i := 82) (by decide +kernel)) (by decide +kernel)
theorem tw_83 : Cond.fieldLink RX4 50 RX2 "second" "[I" ∈ TW := tw_in (List.mem_of_getElem? (i := 83) (by decide +kernel)) (by decide +kernel)
theorem tw_84 : Cond.fieldLink RX9 75 RX2 "second" "[I" ∈ TW := tw_in (List.mem_of_getElem? (i := 84) (by decide +kernel)) (by decide +kernel)
theorem tw_85 : Cond.fieldLink RX10 165 RX2 "second" "[I" ∈ TW := tw_in (List.mem_of_getElem? (i := 85) (by decide +kernel)) (by decide +kernel)
theorem tw_86 : Cond.fieldLink RX2 30 RX2 "joining" "[[I" ∈ TW := tw_in (List.mem_of_getElem? (i := 86) (by decide +kernel)) (by decide +kernel)
theorem tw_87 : Cond.fieldLink RX1 48 RX2 "joining" "[[I" ∈ TW := tw_in (List.mem_of_getElem? (i := 87) (by decide +kernel)) (by decide +kernel)
theorem tw_88 : Cond.fieldLink RX0 50 RX2 "joining" "[[I" ∈ TW := tw_in (List.mem_of_getElem? (i := 88) (by decide +kernel)) (by decide +kernel)
theorem tw_89 : Cond.fieldLink RX2 33 RX2 "degrees" "[I" ∈ TW := tw_in (List.mem_of_getElem? (i := 89) (by decide +kernel)) (by decide +kernel)
theorem tw_90 : Cond.fieldLink RX2 36 RX2 "labels" "[I" ∈ TW := tw_in (List.mem_of_getElem? (i := 90) (by decide +kernel)) (by decide +kernel)
theorem tw_91 : Cond.fieldLink RX5 43 RX2 "labels" "[I" ∈ TW := tw_in (List.mem_of_getElem? (i := 91) (by decide +kernel)) (by decide +kernel)
theorem tw_131 : Cond.fieldLink RX3 9 RX3 "count" "I" ∈ TW := tw_in (List.mem_of_getElem? (i := 131) (by decide +kernel)) (by decide +kernel)
theorem tw_132 : Cond.fieldLink RX10 155 RX3 "count" "I" ∈ TW := tw_in (List.mem_of_getElem? (i := 132) (by decide +kernel)) (by decide +kernel)
theorem tw_133 : Cond.fieldLink RX3 15 RX3 "oldest" "I" ∈ TW := tw_in (List.mem_of_getElem? (i := 133) (by decide +kernel)) (by decide +kernel)
theorem tw_134 : Cond.fieldLink RX3 20 RX3 "states" "[[I" ∈ TW := tw_in (List.mem_of_getElem? (i := 134) (by decide +kernel)) (by decide +kernel)
theorem tw_149 : Cond.fieldLink RX7 9 RX7 "taken" "[Z" ∈ TW := tw_in (List.mem_of_getElem? (i := 149) (by decide +kernel)) (by decide +kernel)
theorem tw_150 : Cond.fieldLink RX7 17 RX7 "states" "[[I" ∈ TW := tw_in (List.mem_of_getElem? (i := 150) (by decide +kernel)) (by decide +kernel)
theorem tw_163 : Cond.fieldLink RX0 9 RX0 "round" "[I" ∈ TW := tw_in (List.mem_of_getElem? (i := 163) (by decide +kernel)) (by decide +kernel)
theorem tw_164 : Cond.fieldLink RX10 222 RX0 "round" "[I" ∈ TW := tw_in (List.mem_of_getElem? (i := 164) (by decide +kernel)) (by decide +kernel)
theorem tw_165 : Cond.fieldLink RX0 15 RX0 "needed" "[I" ∈ TW := tw_in (List.mem_of_getElem? (i := 165) (by decide +kernel)) (by decide +kernel)
theorem tw_166 : Cond.fieldLink RX0 18 RX0 "graph" "LChipGame$Graph;" ∈ TW := tw_in (List.mem_of_getElem? (i := 166) (by decide +kernel)) (by decide +kernel)
theorem tw_180 : Cond.fieldLink RX1 9 RX1 "times" "[I" ∈ TW := tw_in (List.mem_of_getElem? (i := 180) (by decide +kernel)) (by decide +kernel)
theorem tw_181 : Cond.fieldLink RX10 193 RX1 "times" "[I" ∈ TW := tw_in (List.mem_of_getElem? (i := 181) (by decide +kernel)) (by decide +kernel)
theorem tw_182 : Cond.fieldLink RX1 15 RX1 "graph" "LChipGame$Graph;" ∈ TW := tw_in (List.mem_of_getElem? (i := 182) (by decide +kernel)) (by decide +kernel)
theorem tw_183 : Cond.fieldLink RX1 19 RX1 "burning" "LChipGame$Burning;" ∈ TW := tw_in (List.mem_of_getElem? (i := 183) (by decide +kernel)) (by decide +kernel)
theorem tw_199 : Cond.fieldLink RX5 9 RX5 "factors" "[J" ∈ TW := tw_in (List.mem_of_getElem? (i := 199) (by decide +kernel)) (by decide +kernel)
theorem tw_200 : Cond.fieldLink RX10 259 RX5 "factors" "[J" ∈ TW := tw_in (List.mem_of_getElem? (i := 200) (by decide +kernel)) (by decide +kernel)
theorem tw_201 : Cond.fieldLink RX5 15 RX5 "factorCount" "I" ∈ TW := tw_in (List.mem_of_getElem? (i := 201) (by decide +kernel)) (by decide +kernel)
theorem tw_202 : Cond.fieldLink RX10 256 RX5 "factorCount" "I" ∈ TW := tw_in (List.mem_of_getElem? (i := 202) (by decide +kernel)) (by decide +kernel)
theorem tw_203 : Cond.fieldLink RX5 27 RX5 "graph" "LChipGame$Graph;" ∈ TW := tw_in (List.mem_of_getElem? (i := 203) (by decide +kernel)) (by decide +kernel)
theorem tw_204 : Cond.fieldLink RX5 21 RX5 "cells" "[[J" ∈ TW := tw_in (List.mem_of_getElem? (i := 204) (by decide +kernel)) (by decide +kernel)
theorem tw_205 : Cond.fieldLink RX5 24 RX5 "size" "I" ∈ TW := tw_in (List.mem_of_getElem? (i := 205) (by decide +kernel)) (by decide +kernel)
theorem tw_224 : Cond.fieldLink RX9 15 RX9 "graph" "LChipGame$Graph;" ∈ TW := tw_in (List.mem_of_getElem? (i := 224) (by decide +kernel)) (by decide +kernel)
theorem tw_225 : Cond.fieldLink RX9 19 RX9 "matrix" "LChipGame$Matrix;" ∈ TW := tw_in (List.mem_of_getElem? (i := 225) (by decide +kernel)) (by decide +kernel)
theorem tw_226 : Cond.fieldLink RX9 9 RX9 "used" "[I" ∈ TW := tw_in (List.mem_of_getElem? (i := 226) (by decide +kernel)) (by decide +kernel)
theorem tw_241 : Cond.fieldLink RX4 24 RX4 "graph" "LChipGame$Graph;" ∈ TW := tw_in (List.mem_of_getElem? (i := 241) (by decide +kernel)) (by decide +kernel)
theorem tw_242 : Cond.fieldLink RX4 11 RX4 "edgesInside" "[I" ∈ TW := tw_in (List.mem_of_getElem? (i := 242) (by decide +kernel)) (by decide +kernel)
theorem tw_243 : Cond.fieldLink RX4 17 RX4 "sums" "[[J" ∈ TW := tw_in (List.mem_of_getElem? (i := 243) (by decide +kernel)) (by decide +kernel)
theorem tw_244 : Cond.fieldLink RX4 20 RX4 "counts" "[J" ∈ TW := tw_in (List.mem_of_getElem? (i := 244) (by decide +kernel)) (by decide +kernel)
theorem tw_254 : Cond.methodLink RX10 90 yX2_clear ∈ TW := tw_in (List.mem_of_getElem? (i := 254) (by decide +kernel)) (by decide +kernel)
theorem tw_255 : Cond.instanceMethod yX2_clear ∈ TW := tw_in (List.mem_of_getElem? (i := 255) (by decide +kernel)) (by decide +kernel)
theorem tw_256 : Cond.selects RX2 yX2_clear yX2_clear ∈ TW := tw_in (List.mem_of_getElem? (i := 256) (by decide +kernel)) (by decide +kernel)
theorem tw_257 : Cond.code yX2_clear cX2_clear 4 none ∈ TW := tw_in (List.mem_of_getElem? (i := 257) (by decide +kernel)) (by decide +kernel)
theorem tw_258 : Cond.methodLink RX10 94 yX2_append ∈ TW := tw_in (List.mem_of_getElem? (i := 258) (by decide +kernel)) (by decide +kernel)
theorem tw_259 : Cond.instanceMethod yX2_append ∈ TW := tw_in (List.mem_of_getElem? (i := 259) (by decide +kernel)) (by decide +kernel)
theorem tw_260 : Cond.selects RX2 yX2_append yX2_append ∈ TW := tw_in (List.mem_of_getElem? (i := 260) (by decide +kernel)) (by decide +kernel)
theorem tw_261 : Cond.code yX2_append cX2_append 3 none ∈ TW := tw_in (List.mem_of_getElem? (i := 261) (by decide +kernel)) (by decide +kernel)
theorem tw_262 : Cond.methodLink RX2 39 yX2_hasNode ∈ TW := tw_in (List.mem_of_getElem? (i := 262) (by decide +kernel)) (by decide +kernel)
theorem tw_263 : Cond.instanceMethod yX2_hasNode ∈ TW := tw_in (List.mem_of_getElem? (i := 263) (by decide +kernel)) (by decide +kernel)
theorem tw_264 : Cond.selects RX2 yX2_hasNode yX2_hasNode ∈ TW := tw_in (List.mem_of_getElem? (i := 264) (by decide +kernel)) (by decide +kernel)
theorem tw_265 : Cond.code yX2_hasNode cX2_hasNode 2 (some .boolean) ∈ TW := tw_in (List.mem_of_getElem? (i := 265) (by decide +kernel)) (by decide +kernel)
theorem tw_266 : Cond.methodLink RX2 43 yX2_countJoining ∈ TW := tw_in (List.mem_of_getElem? (i := 266) (by decide +kernel)) (by decide +kernel)
theorem tw_268 : Cond.instanceMethod yX2_countJoining ∈ TW := tw_in (List.mem_of_getElem? (i := 268) (by decide +kernel)) (by decide +kernel)
theorem tw_269 : Cond.code yX2_countJoining cX2_countJoining 4 none ∈ TW := tw_in (List.mem_of_getElem? (i := 269) (by decide +kernel)) (by decide +kernel)
theorem tw_270 : Cond.fieldLink RX10 12 RX10 "graph" "LChipGame$Graph;" ∈ TW := tw_in (List.mem_of_getElem? (i := 270) (by decide +kernel)) (by decide +kernel)
theorem tw_272 : Cond.fieldLink RX10 28 RX10 "history" "LChipGame$History;" ∈ TW := tw_in (List.mem_of_getElem? (i := 272) (by decide +kernel)) (by decide +kernel)
theorem tw_273 : Cond.fieldLink RX10 35 RX10 "slots" "LChipGame$Slots;" ∈ TW := tw_in (List.mem_of_getElem? (i := 273) (by decide +kernel)) (by decide +kernel)
theorem tw_274 : Cond.fieldLink RX10 44 RX10 "burning" "LChipGame$Burning;" ∈ TW := tw_in (List.mem_of_getElem? (i := 274) (by decide +kernel)) (by decide +kernel)
theorem tw_275 : Cond.fieldLink RX10 53 RX10 "firing" "LChipGame$Firing;" ∈ TW := tw_in (List.mem_of_getElem? (i := 275) (by decide +kernel)) (by decide +kernel)
theorem tw_276 : Cond.fieldLink RX10 60 RX10 "matrix" "LChipGame$Matrix;" ∈ TW := tw_in (List.mem_of_getElem? (i := 276) (by decide +kernel)) (by decide +kernel)
theorem tw_277 : Cond.fieldLink RX10 69 RX10 "trees" "LChipGame$Trees;" ∈ TW := tw_in (List.mem_of_getElem? (i := 277) (by decide +kernel)) (by decide +kernel)
theorem tw_278 : Cond.fieldLink RX10 76 RX10 "levels" "LChipGame$Levels;" ∈ TW := tw_in (List.mem_of_getElem? (i := 278) (by decide +kernel)) (by decide +kernel)
theorem tw_279 : Cond.fieldLink RX10 80 RX10 "state" "[I" ∈ TW := tw_in (List.mem_of_getElem? (i := 279) (by decide +kernel)) (by decide +kernel)
theorem tw_280 : Cond.fieldLink RX10 84 RX10 "copy" "[I" ∈ TW := tw_in (List.mem_of_getElem? (i := 280) (by decide +kernel)) (by decide +kernel)
theorem tw_281 : Cond.fieldLink RX10 87 RX10 "otherCopy" "[I" ∈ TW := tw_in (List.mem_of_getElem? (i := 281) (by decide +kernel)) (by decide +kernel)
theorem tw_307 : Cond.methodLink RL 116 yX10_reset ∈ TW := tw_in (List.mem_of_getElem? (i := 307) (by decide +kernel)) (by decide +kernel)
theorem tw_308 : Cond.instanceMethod yX10_reset ∈ TW := tw_in (List.mem_of_getElem? (i := 308) (by decide +kernel)) (by decide +kernel)
theorem tw_309 : Cond.selects RX10 yX10_reset yX10_reset ∈ TW := tw_in (List.mem_of_getElem? (i := 309) (by decide +kernel)) (by decide +kernel)
theorem tw_310 : Cond.code yX10_reset cX10_reset 3 (some .int) ∈ TW := tw_in (List.mem_of_getElem? (i := 310) (by decide +kernel)) (by decide +kernel)
theorem tw_311 : Cond.methodLink RX10 102 yX10_startAnew ∈ TW := tw_in (List.mem_of_getElem? (i := 311) (by decide +kernel)) (by decide +kernel)
theorem tw_313 : Cond.instanceMethod yX10_startAnew ∈ TW := tw_in (List.mem_of_getElem? (i := 313) (by decide +kernel)) (by decide +kernel)
theorem tw_314 : Cond.code yX10_startAnew cX10_startAnew 2 none ∈ TW := tw_in (List.mem_of_getElem? (i := 314) (by decide +kernel)) (by decide +kernel)
theorem tw_315 : Cond.methodLink RX10 244 yX10_clearChips ∈ TW := tw_in (List.mem_of_getElem? (i := 315) (by decide +kernel)) (by decide +kernel)
theorem tw_316 : Cond.static yX10_clearChips ∈ TW := tw_in (List.mem_of_getElem? (i := 316) (by decide +kernel)) (by decide +kernel)
theorem tw_317 : Cond.code yX10_clearChips cX10_clearChips 2 none ∈ TW := tw_in (List.mem_of_getElem? (i := 317) (by decide +kernel)) (by decide +kernel)
theorem tw_318 : Cond.methodLink RX10 112 yX10_forgetStates ∈ TW := tw_in (List.mem_of_getElem? (i := 318) (by decide +kernel)) (by decide +kernel)
theorem tw_320 : Cond.instanceMethod yX10_forgetStates ∈ TW := tw_in (List.mem_of_getElem? (i := 320) (by decide +kernel)) (by decide +kernel)
theorem tw_321 : Cond.code yX10_forgetStates cX10_forgetStates 1 none ∈ TW := tw_in (List.mem_of_getElem? (i := 321) (by decide +kernel)) (by decide +kernel)
theorem tw_322 : Cond.methodLink RX10 279 yX3_forgetAll ∈ TW := tw_in (List.mem_of_getElem? (i := 322) (by decide +kernel)) (by decide +kernel)
theorem tw_323 : Cond.instanceMethod yX3_forgetAll ∈ TW := tw_in (List.mem_of_getElem? (i := 323) (by decide +kernel)) (by decide +kernel)
theorem tw_324 : Cond.selects RX3 yX3_forgetAll yX3_forgetAll ∈ TW := tw_in (List.mem_of_getElem? (i := 324) (by decide +kernel)) (by decide +kernel)
theorem tw_325 : Cond.code yX3_forgetAll cX3_forgetAll 1 none ∈ TW := tw_in (List.mem_of_getElem? (i := 325) (by decide +kernel)) (by decide +kernel)
theorem tw_326 : Cond.methodLink RX10 282 yX7_forgetAll ∈ TW := tw_in (List.mem_of_getElem? (i := 326) (by decide +kernel)) (by decide +kernel)
theorem tw_327 : Cond.instanceMethod yX7_forgetAll ∈ TW := tw_in (List.mem_of_getElem? (i := 327) (by decide +kernel)) (by decide +kernel)
theorem tw_328 : Cond.selects RX7 yX7_forgetAll yX7_forgetAll ∈ TW := tw_in (List.mem_of_getElem? (i := 328) (by decide +kernel)) (by decide +kernel)
theorem tw_329 : Cond.code yX7_forgetAll cX7_forgetAll 2 none ∈ TW := tw_in (List.mem_of_getElem? (i := 329) (by decide +kernel)) (by decide +kernel)
theorem tw_330 : Cond.methodLink RL 119 yX10_addEdge ∈ TW := tw_in (List.mem_of_getElem? (i := 330) (by decide +kernel)) (by decide +kernel)
theorem tw_331 : Cond.instanceMethod yX10_addEdge ∈ TW := tw_in (List.mem_of_getElem? (i := 331) (by decide +kernel)) (by decide +kernel)
theorem tw_332 : Cond.selects RX10 yX10_addEdge yX10_addEdge ∈ TW := tw_in (List.mem_of_getElem? (i := 332) (by decide +kernel)) (by decide +kernel)
theorem tw_333 : Cond.code yX10_addEdge cX10_addEdge 3 (some .int) ∈ TW := tw_in (List.mem_of_getElem? (i := 333) (by decide +kernel)) (by decide +kernel)
theorem tw_334 : Cond.methodLink RX10 105 yX2_hasNode ∈ TW := tw_in (List.mem_of_getElem? (i := 334) (by decide +kernel)) (by decide +kernel)
theorem tw_335 : Cond.methodLink RL 122 yX10_removeEdge ∈ TW := tw_in (List.mem_of_getElem? (i := 335) (by decide +kernel)) (by decide +kernel)
theorem tw_336 : Cond.instanceMethod yX10_removeEdge ∈ TW := tw_in (List.mem_of_getElem? (i := 336) (by decide +kernel)) (by decide +kernel)
theorem tw_337 : Cond.selects RX10 yX10_removeEdge yX10_removeEdge ∈ TW := tw_in (List.mem_of_getElem? (i := 337) (by decide +kernel)) (by decide +kernel)
theorem tw_338 : Cond.code yX10_removeEdge cX10_removeEdge 2 (some .int) ∈ TW := tw_in (List.mem_of_getElem? (i := 338) (by decide +kernel)) (by decide +kernel)
theorem tw_339 : Cond.methodLink RX10 115 yX2_hasEdge ∈ TW := tw_in (List.mem_of_getElem? (i := 339) (by decide +kernel)) (by decide +kernel)
theorem tw_340 : Cond.instanceMethod yX2_hasEdge ∈ TW := tw_in (List.mem_of_getElem? (i := 340) (by decide +kernel)) (by decide +kernel)
theorem tw_341 : Cond.selects RX2 yX2_hasEdge yX2_hasEdge ∈ TW := tw_in (List.mem_of_getElem? (i := 341) (by decide +kernel)) (by decide +kernel)
theorem tw_342 : Cond.code yX2_hasEdge cX2_hasEdge 2 (some .boolean) ∈ TW := tw_in (List.mem_of_getElem? (i := 342) (by decide +kernel)) (by decide +kernel)
theorem tw_343 : Cond.methodLink RX10 118 yX2_drop ∈ TW := tw_in (List.mem_of_getElem? (i := 343) (by decide +kernel)) (by decide +kernel)
theorem tw_344 : Cond.instanceMethod yX2_drop ∈ TW := tw_in (List.mem_of_getElem? (i := 344) (by decide +kernel)) (by decide +kernel)
theorem tw_345 : Cond.selects RX2 yX2_drop yX2_drop ∈ TW := tw_in (List.mem_of_getElem? (i := 345) (by decide +kernel)) (by decide +kernel)
theorem tw_346 : Cond.code yX2_drop cX2_drop 3 none ∈ TW := tw_in (List.mem_of_getElem? (i := 346) (by decide +kernel)) (by decide +kernel)
theorem tw_347 : Cond.methodLink RX2 47 yX2_hasEdge ∈ TW := tw_in (List.mem_of_getElem? (i := 347) (by decide +kernel)) (by decide +kernel)
theorem tw_348 : Cond.methodLink RL 125 yX10_setSink ∈ TW := tw_in (List.mem_of_getElem? (i := 348) (by decide +kernel)) (by decide +kernel)
theorem tw_349 : Cond.instanceMethod yX10_setSink ∈ TW := tw_in (List.mem_of_getElem? (i := 349) (by decide +kernel)) (by decide +kernel)
theorem tw_350 : Cond.selects RX10 yX10_setSink yX10_setSink ∈ TW := tw_in (List.mem_of_getElem? (i := 350) (by decide +kernel)) (by decide +kernel)
theorem tw_351 : Cond.code yX10_setSink cX10_setSink 3 (some .int) ∈ TW := tw_in (List.mem_of_getElem? (i := 351) (by decide +kernel)) (by decide +kernel)
theorem tw_352 : Cond.methodLink RL 9 yX10_value ∈ TW := tw_in (List.mem_of_getElem? (i := 352) (by decide +kernel)) (by decide +kernel)
theorem tw_353 : Cond.instanceMethod yX10_value ∈ TW := tw_in (List.mem_of_getElem? (i := 353) (by decide +kernel)) (by decide +kernel)
theorem tw_354 : Cond.selects RX10 yX10_value yX10_value ∈ TW := tw_in (List.mem_of_getElem? (i := 354) (by decide +kernel)) (by decide +kernel)
theorem tw_355 : Cond.code yX10_value cX10_value 2 (some .int) ∈ TW := tw_in (List.mem_of_getElem? (i := 355) (by decide +kernel)) (by decide +kernel)
theorem tw_356 : Cond.methodLink RX10 147 yX2_isConnected ∈ TW := tw_in (List.mem_of_getElem? (i := 356) (by decide +kernel)) (by decide +kernel)
theorem tw_357 : Cond.instanceMethod yX2_isConnected ∈ TW := tw_in (List.mem_of_getElem? (i := 357) (by decide +kernel)) (by decide +kernel)
theorem tw_358 : Cond.selects RX2 yX2_isConnected yX2_isConnected ∈ TW := tw_in (List.mem_of_getElem? (i := 358) (by decide +kernel)) (by decide +kernel)
theorem tw_359 : Cond.code yX2_isConnected cX2_isConnected 1 (some .boolean) ∈ TW := tw_in (List.mem_of_getElem? (i := 359) (by decide +kernel)) (by decide +kernel)
theorem tw_360 : Cond.methodLink RX2 54 yX2_allEdges ∈ TW := tw_in (List.mem_of_getElem? (i := 360) (by decide +kernel)) (by decide +kernel)
theorem tw_361 : Cond.instanceMethod yX2_allEdges ∈ TW := tw_in (List.mem_of_getElem? (i := 361) (by decide +kernel)) (by decide +kernel)
theorem tw_362 : Cond.selects RX2 yX2_allEdges yX2_allEdges ∈ TW := tw_in (List.mem_of_getElem? (i := 362) (by decide +kernel)) (by decide +kernel)
theorem tw_363 : Cond.code yX2_allEdges cX2_allEdges 1 (some .int) ∈ TW := tw_in (List.mem_of_getElem? (i := 363) (by decide +kernel)) (by decide +kernel)
theorem tw_364 : Cond.methodLink RX2 58 yX2_findParts ∈ TW := tw_in (List.mem_of_getElem? (i := 364) (by decide +kernel)) (by decide +kernel)
theorem tw_365 : Cond.instanceMethod yX2_findParts ∈ TW := tw_in (List.mem_of_getElem? (i := 365) (by decide +kernel)) (by decide +kernel)
theorem tw_366 : Cond.selects RX2 yX2_findParts yX2_findParts ∈ TW := tw_in (List.mem_of_getElem? (i := 366) (by decide +kernel)) (by decide +kernel)
theorem tw_367 : Cond.code yX2_findParts cX2_findParts 6 (some .int) ∈ TW := tw_in (List.mem_of_getElem? (i := 367) (by decide +kernel)) (by decide +kernel)
theorem tw_368 : Cond.methodLink RX2 66 yX2_relabel ∈ TW := tw_in (List.mem_of_getElem? (i := 368) (by decide +kernel)) (by decide +kernel)
theorem tw_370 : Cond.instanceMethod yX2_relabel ∈ TW := tw_in (List.mem_of_getElem? (i := 370) (by decide +kernel)) (by decide +kernel)
theorem tw_371 : Cond.code yX2_relabel cX2_relabel 4 none ∈ TW := tw_in (List.mem_of_getElem? (i := 371) (by decide +kernel)) (by decide +kernel)
theorem tw_372 : Cond.methodLink RX10 151 yX10_sumOf ∈ TW := tw_in (List.mem_of_getElem? (i := 372) (by decide +kernel)) (by decide +kernel)
theorem tw_373 : Cond.static yX10_sumOf ∈ TW := tw_in (List.mem_of_getElem? (i := 373) (by decide +kernel)) (by decide +kernel)
theorem tw_374 : Cond.code yX10_sumOf cX10_sumOf 3 (some .int) ∈ TW := tw_in (List.mem_of_getElem? (i := 374) (by decide +kernel)) (by decide +kernel)
theorem tw_375 : Cond.methodLink RX10 158 yX2_edgesAwayFromSink ∈ TW := tw_in (List.mem_of_getElem? (i := 375) (by decide +kernel)) (by decide +kernel)
theorem tw_376 : Cond.instanceMethod yX2_edgesAwayFromSink ∈ TW := tw_in (List.mem_of_getElem? (i := 376) (by decide +kernel)) (by decide +kernel)
theorem tw_377 : Cond.selects RX2 yX2_edgesAwayFromSink yX2_edgesAwayFromSink ∈ TW := tw_in (List.mem_of_getElem? (i := 377) (by decide +kernel)) (by decide +kernel)
theorem tw_378 : Cond.code yX2_edgesAwayFromSink cX2_edgesAwayFromSink 1 (some .int) ∈ TW := tw_in (List.mem_of_getElem? (i := 378) (by decide +kernel)) (by decide +kernel)
theorem tw_379 : Cond.methodLink RX2 50 yX2_degreeOf ∈ TW := tw_in (List.mem_of_getElem? (i := 379) (by decide +kernel)) (by decide +kernel)
theorem tw_380 : Cond.instanceMethod yX2_degreeOf ∈ TW := tw_in (List.mem_of_getElem? (i := 380) (by decide +kernel)) (by decide +kernel)
theorem tw_381 : Cond.selects RX2 yX2_degreeOf yX2_degreeOf ∈ TW := tw_in (List.mem_of_getElem? (i := 381) (by decide +kernel)) (by decide +kernel)
theorem tw_382 : Cond.code yX2_degreeOf cX2_degreeOf 2 (some .int) ∈ TW := tw_in (List.mem_of_getElem? (i := 382) (by decide +kernel)) (by decide +kernel)
theorem tw_383 : Cond.methodLink RL 15 yX10_edge ∈ TW := tw_in (List.mem_of_getElem? (i := 383) (by decide +kernel)) (by decide +kernel)
theorem tw_384 : Cond.instanceMethod yX10_edge ∈ TW := tw_in (List.mem_of_getElem? (i := 384) (by decide +kernel)) (by decide +kernel)
theorem tw_385 : Cond.selects RX10 yX10_edge yX10_edge ∈ TW := tw_in (List.mem_of_getElem? (i := 385) (by decide +kernel)) (by decide +kernel)
theorem tw_386 : Cond.code yX10_edge cX10_edge 3 (some .int) ∈ TW := tw_in (List.mem_of_getElem? (i := 386) (by decide +kernel)) (by decide +kernel)
theorem tw_387 : Cond.methodLink RL 22 yX10_setChips ∈ TW := tw_in (List.mem_of_getElem? (i := 387) (by decide +kernel)) (by decide +kernel)
theorem tw_388 : Cond.instanceMethod yX10_setChips ∈ TW := tw_in (List.mem_of_getElem? (i := 388) (by decide +kernel)) (by decide +kernel)
theorem tw_389 : Cond.selects RX10 yX10_setChips yX10_setChips ∈ TW := tw_in (List.mem_of_getElem? (i := 389) (by decide +kernel)) (by decide +kernel)
theorem tw_390 : Cond.code yX10_setChips cX10_setChips 4 (some .int) ∈ TW := tw_in (List.mem_of_getElem? (i := 390) (by decide +kernel)) (by decide +kernel)
theorem tw_391 : Cond.methodLink RX10 171 yX2_hasChipsAt ∈ TW := tw_in (List.mem_of_getElem? (i := 391) (by decide +kernel)) (by decide +kernel)
theorem tw_392 : Cond.instanceMethod yX2_hasChipsAt ∈ TW := tw_in (List.mem_of_getElem? (i := 392) (by decide +kernel)) (by decide +kernel)
theorem tw_393 : Cond.selects RX2 yX2_hasChipsAt yX2_hasChipsAt ∈ TW := tw_in (List.mem_of_getElem? (i := 393) (by decide +kernel)) (by decide +kernel)
theorem tw_394 : Cond.code yX2_hasChipsAt cX2_hasChipsAt 2 (some .boolean) ∈ TW := tw_in (List.mem_of_getElem? (i := 394) (by decide +kernel)) (by decide +kernel)
theorem tw_395 : Cond.methodLink RX10 174 yX3_record ∈ TW := tw_in (List.mem_of_getElem? (i := 395) (by decide +kernel)) (by decide +kernel)
theorem tw_396 : Cond.instanceMethod yX3_record ∈ TW := tw_in (List.mem_of_getElem? (i := 396) (by decide +kernel)) (by decide +kernel)
theorem tw_397 : Cond.selects RX3 yX3_record yX3_record ∈ TW := tw_in (List.mem_of_getElem? (i := 397) (by decide +kernel)) (by decide +kernel)
theorem tw_398 : Cond.code yX3_record cX3_record 2 none ∈ TW := tw_in (List.mem_of_getElem? (i := 398) (by decide +kernel)) (by decide +kernel)
theorem tw_400 : Cond.static yX10_copyChips ∈ TW := tw_in (List.mem_of_getElem? (i := 400) (by decide +kernel)) (by decide +kernel)
theorem tw_401 : Cond.code yX10_copyChips cX10_copyChips 3 none ∈ TW := tw_in (List.mem_of_getElem? (i := 401) (by decide +kernel)) (by decide +kernel)
theorem tw_402 : Cond.methodLink RL 19 yX10_chips ∈ TW := tw_in (List.mem_of_getElem? (i := 402) (by decide +kernel)) (by decide +kernel)
theorem tw_403 : Cond.instanceMethod yX10_chips ∈ TW := tw_in (List.mem_of_getElem? (i := 403) (by decide +kernel)) (by decide +kernel)
theorem tw_404 : Cond.selects RX10 yX10_chips yX10_chips ∈ TW := tw_in (List.mem_of_getElem? (i := 404) (by decide +kernel)) (by decide +kernel)
theorem tw_405 : Cond.code yX10_chips cX10_chips 2 (some .int) ∈ TW := tw_in (List.mem_of_getElem? (i := 405) (by decide +kernel)) (by decide +kernel)
theorem tw_406 : Cond.methodLink RL 49 yX10_kind ∈ TW := tw_in (List.mem_of_getElem? (i := 406) (by decide +kernel)) (by decide +kernel)
theorem tw_407 : Cond.instanceMethod yX10_kind ∈ TW := tw_in (List.mem_of_getElem? (i := 407) (by decide +kernel)) (by decide +kernel)
theorem tw_408 : Cond.selects RX10 yX10_kind yX10_kind ∈ TW := tw_in (List.mem_of_getElem? (i := 408) (by decide +kernel)) (by decide +kernel)
theorem tw_409 : Cond.code yX10_kind cX10_kind 2 (some .int) ∈ TW := tw_in (List.mem_of_getElem? (i := 409) (by decide +kernel)) (by decide +kernel)
theorem tw_410 : Cond.methodLink RX10 206 yX1_isStable ∈ TW := tw_in (List.mem_of_getElem? (i := 410) (by decide +kernel)) (by decide +kernel)
theorem tw_411 : Cond.instanceMethod yX1_isStable ∈ TW := tw_in (List.mem_of_getElem? (i := 411) (by decide +kernel)) (by decide +kernel)
theorem tw_412 : Cond.selects RX1 yX1_isStable yX1_isStable ∈ TW := tw_in (List.mem_of_getElem? (i := 412) (by decide +kernel)) (by decide +kernel)
theorem tw_413 : Cond.code yX1_isStable cX1_isStable 3 (some .boolean) ∈ TW := tw_in (List.mem_of_getElem? (i := 413) (by decide +kernel)) (by decide +kernel)
theorem tw_414 : Cond.methodLink RX1 37 yX1_canFire ∈ TW := tw_in (List.mem_of_getElem? (i := 414) (by decide +kernel)) (by decide +kernel)
theorem tw_415 : Cond.instanceMethod yX1_canFire ∈ TW := tw_in (List.mem_of_getElem? (i := 415) (by decide +kernel)) (by decide +kernel)
theorem tw_416 : Cond.selects RX1 yX1_canFire yX1_canFire ∈ TW := tw_in (List.mem_of_getElem? (i := 416) (by decide +kernel)) (by decide +kernel)
theorem tw_417 : Cond.code yX1_canFire cX1_canFire 4 (some .boolean) ∈ TW := tw_in (List.mem_of_getElem? (i := 417) (by decide +kernel)) (by decide +kernel)
theorem tw_418 : Cond.methodLink RX1 23 yX2_degreeOf ∈ TW := tw_in (List.mem_of_getElem? (i := 418) (by decide +kernel)) (by decide +kernel)
theorem tw_419 : Cond.methodLink RX1 29 yX2_hasChipsAt ∈ TW := tw_in (List.mem_of_getElem? (i := 419) (by decide +kernel)) (by decide +kernel)
theorem tw_420 : Cond.methodLink RX10 210 yX10_isRecurrent ∈ TW := tw_in (List.mem_of_getElem? (i := 420) (by decide +kernel)) (by decide +kernel)
theorem tw_422 : Cond.instanceMethod yX10_isRecurrent ∈ TW := tw_in (List.mem_of_getElem? (i := 422) (by decide +kernel)) (by decide +kernel)
theorem tw_423 : Cond.code yX10_isRecurrent cX10_isRecurrent 1 (some .boolean) ∈ TW := tw_in (List.mem_of_getElem? (i := 423) (by decide +kernel)) (by decide +kernel)
theorem tw_424 : Cond.methodLink RX10 216 yX0_allBurn ∈ TW := tw_in (List.mem_of_getElem? (i := 424) (by decide +kernel)) (by decide +kernel)
theorem tw_425 : Cond.instanceMethod yX0_allBurn ∈ TW := tw_in (List.mem_of_getElem? (i := 425) (by decide +kernel)) (by decide +kernel)
theorem tw_426 : Cond.selects RX0 yX0_allBurn yX0_allBurn ∈ TW := tw_in (List.mem_of_getElem? (i := 426) (by decide +kernel)) (by decide +kernel)
theorem tw_427 : Cond.code yX0_allBurn cX0_allBurn 3 (some .boolean) ∈ TW := tw_in (List.mem_of_getElem? (i := 427) (by decide +kernel)) (by decide +kernel)
theorem tw_428 : Cond.methodLink RX0 32 yX2_degreeOf ∈ TW := tw_in (List.mem_of_getElem? (i := 428) (by decide +kernel)) (by decide +kernel)
theorem tw_429 : Cond.methodLink RX0 36 yX0_spreadFire ∈ TW := tw_in (List.mem_of_getElem? (i := 429) (by decide +kernel)) (by decide +kernel)
theorem tw_431 : Cond.instanceMethod yX0_spreadFire ∈ TW := tw_in (List.mem_of_getElem? (i := 431) (by decide +kernel)) (by decide +kernel)
theorem tw_432 : Cond.code yX0_spreadFire cX0_spreadFire 3 (some .boolean) ∈ TW := tw_in (List.mem_of_getElem? (i := 432) (by decide +kernel)) (by decide +kernel)
theorem tw_433 : Cond.methodLink RX0 43 yX0_burnRound ∈ TW := tw_in (List.mem_of_getElem? (i := 433) (by decide +kernel)) (by decide +kernel)
theorem tw_435 : Cond.instanceMethod yX0_burnRound ∈ TW := tw_in (List.mem_of_getElem? (i := 435) (by decide +kernel)) (by decide +kernel)
theorem tw_436 : Cond.code yX0_burnRound cX0_burnRound 4 (some .int) ∈ TW := tw_in (List.mem_of_getElem? (i := 436) (by decide +kernel)) (by decide +kernel)
theorem tw_437 : Cond.methodLink RX0 46 yX0_edgesToBurnt ∈ TW := tw_in (List.mem_of_getElem? (i := 437) (by decide +kernel)) (by decide +kernel)
theorem tw_439 : Cond.instanceMethod yX0_edgesToBurnt ∈ TW := tw_in (List.mem_of_getElem? (i := 439) (by decide +kernel)) (by decide +kernel)
theorem tw_440 : Cond.code yX0_edgesToBurnt cX0_edgesToBurnt 5 (some .int) ∈ TW := tw_in (List.mem_of_getElem? (i := 440) (by decide +kernel)) (by decide +kernel)
theorem tw_441 : Cond.methodLink RX10 213 yX0_allBurnBySecondRule ∈ TW := tw_in (List.mem_of_getElem? (i := 441) (by decide +kernel)) (by decide +kernel)
theorem tw_442 : Cond.instanceMethod yX0_allBurnBySecondRule ∈ TW := tw_in (List.mem_of_getElem? (i := 442) (by decide +kernel)) (by decide +kernel)
theorem tw_443 : Cond.selects RX0 yX0_allBurnBySecondRule yX0_allBurnBySecondRule ∈ TW := tw_in (List.mem_of_getElem? (i := 443) (by decide +kernel)) (by decide +kernel)
theorem tw_444 : Cond.code yX0_allBurnBySecondRule cX0_allBurnBySecondRule 3 (some .boolean) ∈ TW := tw_in (List.mem_of_getElem? (i := 444) (by decide +kernel)) (by decide +kernel)
theorem tw_445 : Cond.methodLink RL 132 yX10_undo ∈ TW := tw_in (List.mem_of_getElem? (i := 445) (by decide +kernel)) (by decide +kernel)
theorem tw_446 : Cond.instanceMethod yX10_undo ∈ TW := tw_in (List.mem_of_getElem? (i := 446) (by decide +kernel)) (by decide +kernel)
theorem tw_447 : Cond.selects RX10 yX10_undo yX10_undo ∈ TW := tw_in (List.mem_of_getElem? (i := 447) (by decide +kernel)) (by decide +kernel)
theorem tw_448 : Cond.code yX10_undo cX10_undo 1 (some .int) ∈ TW := tw_in (List.mem_of_getElem? (i := 448) (by decide +kernel)) (by decide +kernel)
theorem tw_449 : Cond.methodLink RX10 225 yX3_takeBack ∈ TW := tw_in (List.mem_of_getElem? (i := 449) (by decide +kernel)) (by decide +kernel)
theorem tw_450 : Cond.instanceMethod yX3_takeBack ∈ TW := tw_in (List.mem_of_getElem? (i := 450) (by decide +kernel)) (by decide +kernel)
theorem tw_451 : Cond.selects RX3 yX3_takeBack yX3_takeBack ∈ TW := tw_in (List.mem_of_getElem? (i := 451) (by decide +kernel)) (by decide +kernel)
theorem tw_452 : Cond.code yX3_takeBack cX3_takeBack 2 none ∈ TW := tw_in (List.mem_of_getElem? (i := 452) (by decide +kernel)) (by decide +kernel)
theorem tw_453 : Cond.methodLink RL 45 yX10_treeCount ∈ TW := tw_in (List.mem_of_getElem? (i := 453) (by decide +kernel)) (by decide +kernel)
theorem tw_454 : Cond.instanceMethod yX10_treeCount ∈ TW := tw_in (List.mem_of_getElem? (i := 454) (by decide +kernel)) (by decide +kernel)
theorem tw_455 : Cond.selects RX10 yX10_treeCount yX10_treeCount ∈ TW := tw_in (List.mem_of_getElem? (i := 455) (by decide +kernel)) (by decide +kernel)
theorem tw_456 : Cond.code yX10_treeCount cX10_treeCount 1 (some .long) ∈ TW := tw_in (List.mem_of_getElem? (i := 456) (by decide +kernel)) (by decide +kernel)
theorem tw_457 : Cond.methodLink RX10 241 yX9_count ∈ TW := tw_in (List.mem_of_getElem? (i := 457) (by decide +kernel)) (by decide +kernel)
theorem tw_458 : Cond.instanceMethod yX9_count ∈ TW := tw_in (List.mem_of_getElem? (i := 458) (by decide +kernel)) (by decide +kernel)
theorem tw_459 : Cond.selects RX9 yX9_count yX9_count ∈ TW := tw_in (List.mem_of_getElem? (i := 459) (by decide +kernel)) (by decide +kernel)
theorem tw_460 : Cond.code yX9_count cX9_count 3 (some .long) ∈ TW := tw_in (List.mem_of_getElem? (i := 460) (by decide +kernel)) (by decide +kernel)
theorem tw_461 : Cond.methodLink RX9 23 yX2_findParts ∈ TW := tw_in (List.mem_of_getElem? (i := 461) (by decide +kernel)) (by decide +kernel)
theorem tw_462 : Cond.methodLink RX9 29 yX5_fill ∈ TW := tw_in (List.mem_of_getElem? (i := 462) (by decide +kernel)) (by decide +kernel)
theorem tw_463 : Cond.instanceMethod yX5_fill ∈ TW := tw_in (List.mem_of_getElem? (i := 463) (by decide +kernel)) (by decide +kernel)
theorem tw_464 : Cond.selects RX5 yX5_fill yX5_fill ∈ TW := tw_in (List.mem_of_getElem? (i := 464) (by decide +kernel)) (by decide +kernel)
theorem tw_465 : Cond.code yX5_fill cX5_fill 5 none ∈ TW := tw_in (List.mem_of_getElem? (i := 465) (by decide +kernel)) (by decide +kernel)
theorem tw_466 : Cond.methodLink RX5 36 yX5_isFree ∈ TW := tw_in (List.mem_of_getElem? (i := 466) (by decide +kernel)) (by decide +kernel)
theorem tw_468 : Cond.instanceMethod yX5_isFree ∈ TW := tw_in (List.mem_of_getElem? (i := 468) (by decide +kernel)) (by decide +kernel)
theorem tw_469 : Cond.code yX5_isFree cX5_isFree 2 (some .boolean) ∈ TW := tw_in (List.mem_of_getElem? (i := 469) (by decide +kernel)) (by decide +kernel)
theorem tw_470 : Cond.methodLink RX5 57 yX2_hasNode ∈ TW := tw_in (List.mem_of_getElem? (i := 470) (by decide +kernel)) (by decide +kernel)
theorem tw_471 : Cond.methodLink RX5 53 yX5_fillEdge ∈ TW := tw_in (List.mem_of_getElem? (i := 471) (by decide +kernel)) (by decide +kernel)
theorem tw_473 : Cond.instanceMethod yX5_fillEdge ∈ TW := tw_in (List.mem_of_getElem? (i := 473) (by decide +kernel)) (by decide +kernel)
theorem tw_474 : Cond.code yX5_fillEdge cX5_fillEdge 3 none ∈ TW := tw_in (List.mem_of_getElem? (i := 474) (by decide +kernel)) (by decide +kernel)
theorem tw_475 : Cond.methodLink RX9 35 yX5_eliminate ∈ TW := tw_in (List.mem_of_getElem? (i := 475) (by decide +kernel)) (by decide +kernel)
theorem tw_476 : Cond.instanceMethod yX5_eliminate ∈ TW := tw_in (List.mem_of_getElem? (i := 476) (by decide +kernel)) (by decide +kernel)
theorem tw_477 : Cond.selects RX5 yX5_eliminate yX5_eliminate ∈ TW := tw_in (List.mem_of_getElem? (i := 477) (by decide +kernel)) (by decide +kernel)
theorem tw_478 : Cond.code yX5_eliminate cX5_eliminate 7 (some .long) ∈ TW := tw_in (List.mem_of_getElem? (i := 478) (by decide +kernel)) (by decide +kernel)
theorem tw_479 : Cond.methodLink RX5 71 yX5_combineRows ∈ TW := tw_in (List.mem_of_getElem? (i := 479) (by decide +kernel)) (by decide +kernel)
theorem tw_481 : Cond.instanceMethod yX5_combineRows ∈ TW := tw_in (List.mem_of_getElem? (i := 481) (by decide +kernel)) (by decide +kernel)
theorem tw_482 : Cond.code yX5_combineRows cX5_combineRows 10 none ∈ TW := tw_in (List.mem_of_getElem? (i := 482) (by decide +kernel)) (by decide +kernel)
theorem tw_483 : Cond.methodLink RL 135 yL_cell ∈ TW := tw_in (List.mem_of_getElem? (i := 483) (by decide +kernel)) (by decide +kernel)
theorem tw_484 : Cond.static yL_cell ∈ TW := tw_in (List.mem_of_getElem? (i := 484) (by decide +kernel)) (by decide +kernel)
theorem tw_485 : Cond.code yL_cell cL_cell 2 (some .int) ∈ TW := tw_in (List.mem_of_getElem? (i := 485) (by decide +kernel)) (by decide +kernel)
theorem tw_487 : Cond.methodLink RL 139 yL_low ∈ TW := tw_in (List.mem_of_getElem? (i := 487) (by decide +kernel)) (by decide +kernel)
theorem tw_488 : Cond.static yL_low ∈ TW := tw_in (List.mem_of_getElem? (i := 488) (by decide +kernel)) (by decide +kernel)
theorem tw_489 : Cond.code yL_low cL_low 2 (some .int) ∈ TW := tw_in (List.mem_of_getElem? (i := 489) (by decide +kernel)) (by decide +kernel)
theorem tw_490 : Cond.constant RL 8 (Int32.ofInt (2147483647)) ∈ TW := tw_in (List.mem_of_getElem? (i := 490) (by decide +kernel)) (by decide +kernel)
theorem tw_491 : Cond.methodLink RL 146 yL_settles ∈ TW := tw_in (List.mem_of_getElem? (i := 491) (by decide +kernel)) (by decide +kernel)
theorem tw_492 : Cond.static yL_settles ∈ TW := tw_in (List.mem_of_getElem? (i := 492) (by decide +kernel)) (by decide +kernel)
theorem tw_493 : Cond.code yL_settles cL_settles 14 (some .boolean) ∈ TW := tw_in (List.mem_of_getElem? (i := 493) (by decide +kernel)) (by decide +kernel)
theorem tw_494 : Cond.methodLink RL 26 yL_read ∈ TW := tw_in (List.mem_of_getElem? (i := 494) (by decide +kernel)) (by decide +kernel)
theorem tw_495 : Cond.static yL_read ∈ TW := tw_in (List.mem_of_getElem? (i := 495) (by decide +kernel)) (by decide +kernel)
theorem tw_496 : Cond.code yL_read cL_read 3 none ∈ TW := tw_in (List.mem_of_getElem? (i := 496) (by decide +kernel)) (by decide +kernel)
theorem tw_497 : Cond.methodLink RL 32 yX10_stabilize ∈ TW := tw_in (List.mem_of_getElem? (i := 497) (by decide +kernel)) (by decide +kernel)
theorem tw_498 : Cond.instanceMethod yX10_stabilize ∈ TW := tw_in (List.mem_of_getElem? (i := 498) (by decide +kernel)) (by decide +kernel)
theorem tw_499 : Cond.selects RX10 yX10_stabilize yX10_stabilize ∈ TW := tw_in (List.mem_of_getElem? (i := 499) (by decide +kernel)) (by decide +kernel)
theorem tw_500 : Cond.code yX10_stabilize cX10_stabilize 1 (some .int) ∈ TW := tw_in (List.mem_of_getElem? (i := 500) (by decide +kernel)) (by decide +kernel)
theorem tw_501 : Cond.methodLink RX10 186 yX1_settle ∈ TW := tw_in (List.mem_of_getElem? (i := 501) (by decide +kernel)) (by decide +kernel)
theorem tw_502 : Cond.instanceMethod yX1_settle ∈ TW := tw_in (List.mem_of_getElem? (i := 502) (by decide +kernel)) (by decide +kernel)
theorem tw_503 : Cond.selects RX1 yX1_settle yX1_settle ∈ TW := tw_in (List.mem_of_getElem? (i := 503) (by decide +kernel)) (by decide +kernel)
theorem tw_504 : Cond.code yX1_settle cX1_settle 6 (some .int) ∈ TW := tw_in (List.mem_of_getElem? (i := 504) (by decide +kernel)) (by decide +kernel)
theorem tw_506 : Cond.constant RX1 59 (Int32.ofInt (1000000)) ∈ TW := tw_in (List.mem_of_getElem? (i := 506) (by decide +kernel)) (by decide +kernel)
theorem tw_507 : Cond.methodLink RX1 60 yX1_fireWhilePossible ∈ TW := tw_in (List.mem_of_getElem? (i := 507) (by decide +kernel)) (by decide +kernel)
theorem tw_509 : Cond.instanceMethod yX1_fireWhilePossible ∈ TW := tw_in (List.mem_of_getElem? (i := 509) (by decide +kernel)) (by decide +kernel)
theorem tw_510 : Cond.code yX1_fireWhilePossible cX1_fireWhilePossible 5 (some .int) ∈ TW := tw_in (List.mem_of_getElem? (i := 510) (by decide +kernel)) (by decide +kernel)
theorem tw_511 : Cond.methodLink RX1 64 yX1_give ∈ TW := tw_in (List.mem_of_getElem? (i := 511) (by decide +kernel)) (by decide +kernel)
theorem tw_512 : Cond.instanceMethod yX1_give ∈ TW := tw_in (List.mem_of_getElem? (i := 512) (by decide +kernel)) (by decide +kernel)
theorem tw_513 : Cond.selects RX1 yX1_give yX1_give ∈ TW := tw_in (List.mem_of_getElem? (i := 513) (by decide +kernel)) (by decide +kernel)
theorem tw_514 : Cond.code yX1_give cX1_give 5 none ∈ TW := tw_in (List.mem_of_getElem? (i := 514) (by decide +kernel)) (by decide +kernel)
theorem tw_515 : Cond.methodLink RX1 41 yX2_hasNode ∈ TW := tw_in (List.mem_of_getElem? (i := 515) (by decide +kernel)) (by decide +kernel)
theorem tw_516 : Cond.methodLink RX1 44 yX1_giveAlong ∈ TW := tw_in (List.mem_of_getElem? (i := 516) (by decide +kernel)) (by decide +kernel)
theorem tw_518 : Cond.instanceMethod yX1_giveAlong ∈ TW := tw_in (List.mem_of_getElem? (i := 518) (by decide +kernel)) (by decide +kernel)
theorem tw_519 : Cond.code yX1_giveAlong cX1_giveAlong 6 none ∈ TW := tw_in (List.mem_of_getElem? (i := 519) (by decide +kernel)) (by decide +kernel)
theorem tw_520 : Cond.methodLink RL 36 yX10_reduce ∈ TW := tw_in (List.mem_of_getElem? (i := 520) (by decide +kernel)) (by decide +kernel)
theorem tw_521 : Cond.instanceMethod yX10_reduce ∈ TW := tw_in (List.mem_of_getElem? (i := 521) (by decide +kernel)) (by decide +kernel)
theorem tw_522 : Cond.selects RX10 yX10_reduce yX10_reduce ∈ TW := tw_in (List.mem_of_getElem? (i := 522) (by decide +kernel)) (by decide +kernel)
theorem tw_523 : Cond.code yX10_reduce cX10_reduce 1 (some .int) ∈ TW := tw_in (List.mem_of_getElem? (i := 523) (by decide +kernel)) (by decide +kernel)
theorem tw_524 : Cond.methodLink RX10 196 yX1_fireSets ∈ TW := tw_in (List.mem_of_getElem? (i := 524) (by decide +kernel)) (by decide +kernel)
theorem tw_525 : Cond.instanceMethod yX1_fireSets ∈ TW := tw_in (List.mem_of_getElem? (i := 525) (by decide +kernel)) (by decide +kernel)
theorem tw_526 : Cond.selects RX1 yX1_fireSets yX1_fireSets ∈ TW := tw_in (List.mem_of_getElem? (i := 526) (by decide +kernel)) (by decide +kernel)
theorem tw_527 : Cond.code yX1_fireSets cX1_fireSets 3 (some .int) ∈ TW := tw_in (List.mem_of_getElem? (i := 527) (by decide +kernel)) (by decide +kernel)
theorem tw_528 : Cond.methodLink RX1 68 yX0_allBurnBySecondRule ∈ TW := tw_in (List.mem_of_getElem? (i := 528) (by decide +kernel)) (by decide +kernel)
theorem tw_529 : Cond.methodLink RX1 74 yX1_fireUnburnt ∈ TW := tw_in (List.mem_of_getElem? (i := 529) (by decide +kernel)) (by decide +kernel)
theorem tw_531 : Cond.instanceMethod yX1_fireUnburnt ∈ TW := tw_in (List.mem_of_getElem? (i := 531) (by decide +kernel)) (by decide +kernel)
theorem tw_532 : Cond.code yX1_fireUnburnt cX1_fireUnburnt 4 none ∈ TW := tw_in (List.mem_of_getElem? (i := 532) (by decide +kernel)) (by decide +kernel)
theorem tw_533 : Cond.methodLink RX1 77 yX0_hasBurnt ∈ TW := tw_in (List.mem_of_getElem? (i := 533) (by decide +kernel)) (by decide +kernel)
theorem tw_534 : Cond.instanceMethod yX0_hasBurnt ∈ TW := tw_in (List.mem_of_getElem? (i := 534) (by decide +kernel)) (by decide +kernel)
theorem tw_535 : Cond.selects RX0 yX0_hasBurnt yX0_hasBurnt ∈ TW := tw_in (List.mem_of_getElem? (i := 535) (by decide +kernel)) (by decide +kernel)
theorem tw_536 : Cond.code yX0_hasBurnt cX0_hasBurnt 2 (some .boolean) ∈ TW := tw_in (List.mem_of_getElem? (i := 536) (by decide +kernel)) (by decide +kernel)
theorem tw_537 : Cond.methodLink RX0 22 yX2_hasNode ∈ TW := tw_in (List.mem_of_getElem? (i := 537) (by decide +kernel)) (by decide +kernel)
theorem tw_538 : Cond.methodLink RL 39 yX10_makeRecurrent ∈ TW := tw_in (List.mem_of_getElem? (i := 538) (by decide +kernel)) (by decide +kernel)
theorem tw_539 : Cond.instanceMethod yX10_makeRecurrent ∈ TW := tw_in (List.mem_of_getElem? (i := 539) (by decide +kernel)) (by decide +kernel)
theorem tw_540 : Cond.selects RX10 yX10_makeRecurrent yX10_makeRecurrent ∈ TW := tw_in (List.mem_of_getElem? (i := 540) (by decide +kernel)) (by decide +kernel)
theorem tw_541 : Cond.code yX10_makeRecurrent cX10_makeRecurrent 1 (some .int) ∈ TW := tw_in (List.mem_of_getElem? (i := 541) (by decide +kernel)) (by decide +kernel)
theorem tw_542 : Cond.methodLink RX10 189 yX10_copyChips ∈ TW := tw_in (List.mem_of_getElem? (i := 542) (by decide +kernel)) (by decide +kernel)
theorem tw_543 : Cond.methodLink RX10 199 yX1_toRecurrent ∈ TW := tw_in (List.mem_of_getElem? (i := 543) (by decide +kernel)) (by decide +kernel)
theorem tw_544 : Cond.instanceMethod yX1_toRecurrent ∈ TW := tw_in (List.mem_of_getElem? (i := 544) (by decide +kernel)) (by decide +kernel)
theorem tw_545 : Cond.selects RX1 yX1_toRecurrent yX1_toRecurrent ∈ TW := tw_in (List.mem_of_getElem? (i := 545) (by decide +kernel)) (by decide +kernel)
theorem tw_546 : Cond.code yX1_toRecurrent cX1_toRecurrent 2 none ∈ TW := tw_in (List.mem_of_getElem? (i := 546) (by decide +kernel)) (by decide +kernel)
theorem tw_547 : Cond.methodLink RX1 80 yX1_settle ∈ TW := tw_in (List.mem_of_getElem? (i := 547) (by decide +kernel)) (by decide +kernel)
theorem tw_548 : Cond.methodLink RX1 84 yX1_mirror ∈ TW := tw_in (List.mem_of_getElem? (i := 548) (by decide +kernel)) (by decide +kernel)
theorem tw_550 : Cond.instanceMethod yX1_mirror ∈ TW := tw_in (List.mem_of_getElem? (i := 550) (by decide +kernel)) (by decide +kernel)
theorem tw_551 : Cond.code yX1_mirror cX1_mirror 3 none ∈ TW := tw_in (List.mem_of_getElem? (i := 551) (by decide +kernel)) (by decide +kernel)
theorem tw_552 : Cond.methodLink RX1 87 yX1_fireSets ∈ TW := tw_in (List.mem_of_getElem? (i := 552) (by decide +kernel)) (by decide +kernel)
theorem tw_553 : Cond.methodLink RX10 202 yX10_isEqual ∈ TW := tw_in (List.mem_of_getElem? (i := 553) (by decide +kernel)) (by decide +kernel)
theorem tw_554 : Cond.static yX10_isEqual ∈ TW := tw_in (List.mem_of_getElem? (i := 554) (by decide +kernel)) (by decide +kernel)
theorem tw_555 : Cond.code yX10_isEqual cX10_isEqual 3 (some .boolean) ∈ TW := tw_in (List.mem_of_getElem? (i := 555) (by decide +kernel)) (by decide +kernel)
theorem tw_556 : Cond.methodLink RL 42 yX10_order ∈ TW := tw_in (List.mem_of_getElem? (i := 556) (by decide +kernel)) (by decide +kernel)
theorem tw_557 : Cond.instanceMethod yX10_order ∈ TW := tw_in (List.mem_of_getElem? (i := 557) (by decide +kernel)) (by decide +kernel)
theorem tw_558 : Cond.selects RX10 yX10_order yX10_order ∈ TW := tw_in (List.mem_of_getElem? (i := 558) (by decide +kernel)) (by decide +kernel)
theorem tw_559 : Cond.code yX10_order cX10_order 1 (some .int) ∈ TW := tw_in (List.mem_of_getElem? (i := 559) (by decide +kernel)) (by decide +kernel)
theorem tw_560 : Cond.methodLink RX10 247 yX5_orderOf ∈ TW := tw_in (List.mem_of_getElem? (i := 560) (by decide +kernel)) (by decide +kernel)
theorem tw_561 : Cond.instanceMethod yX5_orderOf ∈ TW := tw_in (List.mem_of_getElem? (i := 561) (by decide +kernel)) (by decide +kernel)
theorem tw_562 : Cond.selects RX5 yX5_orderOf yX5_orderOf ∈ TW := tw_in (List.mem_of_getElem? (i := 562) (by decide +kernel)) (by decide +kernel)
theorem tw_563 : Cond.code yX5_orderOf cX5_orderOf 7 (some .long) ∈ TW := tw_in (List.mem_of_getElem? (i := 563) (by decide +kernel)) (by decide +kernel)
theorem tw_564 : Cond.methodLink RX5 75 yX5_fillWhole ∈ TW := tw_in (List.mem_of_getElem? (i := 564) (by decide +kernel)) (by decide +kernel)
theorem tw_566 : Cond.instanceMethod yX5_fillWhole ∈ TW := tw_in (List.mem_of_getElem? (i := 566) (by decide +kernel)) (by decide +kernel)
theorem tw_567 : Cond.code yX5_fillWhole cX5_fillWhole 1 none ∈ TW := tw_in (List.mem_of_getElem? (i := 567) (by decide +kernel)) (by decide +kernel)
theorem tw_568 : Cond.methodLink RX5 63 yX2_findParts ∈ TW := tw_in (List.mem_of_getElem? (i := 568) (by decide +kernel)) (by decide +kernel)
theorem tw_569 : Cond.methodLink RX5 67 yX5_fill ∈ TW := tw_in (List.mem_of_getElem? (i := 569) (by decide +kernel)) (by decide +kernel)
theorem tw_570 : Cond.methodLink RX5 78 yX5_eliminate ∈ TW := tw_in (List.mem_of_getElem? (i := 570) (by decide +kernel)) (by decide +kernel)
theorem tw_571 : Cond.methodLink RX5 82 yX5_commonDivisor ∈ TW := tw_in (List.mem_of_getElem? (i := 571) (by decide +kernel)) (by decide +kernel)
theorem tw_572 : Cond.static yX5_commonDivisor ∈ TW := tw_in (List.mem_of_getElem? (i := 572) (by decide +kernel)) (by decide +kernel)
theorem tw_573 : Cond.code yX5_commonDivisor cX5_commonDivisor 11 (some .long) ∈ TW := tw_in (List.mem_of_getElem? (i := 573) (by decide +kernel)) (by decide +kernel)
theorem tw_574 : Cond.methodLink RX5 122 yJ9_abs_067f4 ∈ TW := tw_in (List.mem_of_getElem? (i := 574) (by decide +kernel)) (by decide +kernel)
theorem tw_575 : Cond.static yJ9_abs_067f4 ∈ TW := tw_in (List.mem_of_getElem? (i := 575) (by decide +kernel)) (by decide +kernel)
theorem tw_576 : Cond.code yJ9_abs_067f4 cJ9_abs_067f4 2 (some .long) ∈ TW := tw_in (List.mem_of_getElem? (i := 576) (by decide +kernel)) (by decide +kernel)
theorem tw_577 : Cond.constant RX5 95 (Int32.ofInt (1000000)) ∈ TW := tw_in (List.mem_of_getElem? (i := 577) (by decide +kernel)) (by decide +kernel)
theorem tw_578 : Cond.methodLink RL 52 yX10_factor ∈ TW := tw_in (List.mem_of_getElem? (i := 578) (by decide +kernel)) (by decide +kernel)
theorem tw_579 : Cond.instanceMethod yX10_factor ∈ TW := tw_in (List.mem_of_getElem? (i := 579) (by decide +kernel)) (by decide +kernel)
theorem tw_580 : Cond.selects RX10 yX10_factor yX10_factor ∈ TW := tw_in (List.mem_of_getElem? (i := 580) (by decide +kernel)) (by decide +kernel)
theorem tw_581 : Cond.code yX10_factor cX10_factor 2 (some .long) ∈ TW := tw_in (List.mem_of_getElem? (i := 581) (by decide +kernel)) (by decide +kernel)
theorem tw_582 : Cond.constantLong RX10 251 (Int64.ofInt (-9223372036854775808)) ∈ TW := tw_in (List.mem_of_getElem? (i := 582) (by decide +kernel)) (by decide +kernel)
theorem tw_583 : Cond.methodLink RX10 253 yX5_findFactors ∈ TW := tw_in (List.mem_of_getElem? (i := 583) (by decide +kernel)) (by decide +kernel)
theorem tw_584 : Cond.instanceMethod yX5_findFactors ∈ TW := tw_in (List.mem_of_getElem? (i := 584) (by decide +kernel)) (by decide +kernel)
theorem tw_585 : Cond.selects RX5 yX5_findFactors yX5_findFactors ∈ TW := tw_in (List.mem_of_getElem? (i := 585) (by decide +kernel)) (by decide +kernel)
theorem tw_586 : Cond.code yX5_findFactors cX5_findFactors 6 none ∈ TW := tw_in (List.mem_of_getElem? (i := 586) (by decide +kernel)) (by decide +kernel)
theorem tw_587 : Cond.methodLink RX5 86 yJ9_floorMod_f86c9 ∈ TW := tw_in (List.mem_of_getElem? (i := 587) (by decide +kernel)) (by decide +kernel)
theorem tw_588 : Cond.static yJ9_floorMod_f86c9 ∈ TW := tw_in (List.mem_of_getElem? (i := 588) (by decide +kernel)) (by decide +kernel)
theorem tw_589 : Cond.code yJ9_floorMod_f86c9 cJ9_floorMod_f86c9 6 (some .long) ∈ TW := tw_in (List.mem_of_getElem? (i := 589) (by decide +kernel)) (by decide +kernel)
theorem tw_590 : Cond.methodLink RX5 91 yX5_clearAround ∈ TW := tw_in (List.mem_of_getElem? (i := 590) (by decide +kernel)) (by decide +kernel)
theorem tw_592 : Cond.instanceMethod yX5_clearAround ∈ TW := tw_in (List.mem_of_getElem? (i := 592) (by decide +kernel)) (by decide +kernel)
theorem tw_593 : Cond.code yX5_clearAround cX5_clearAround 7 none ∈ TW := tw_in (List.mem_of_getElem? (i := 593) (by decide +kernel)) (by decide +kernel)
theorem tw_594 : Cond.methodLink RX5 96 yX5_bringLeastToCorner ∈ TW := tw_in (List.mem_of_getElem? (i := 594) (by decide +kernel)) (by decide +kernel)
theorem tw_596 : Cond.instanceMethod yX5_bringLeastToCorner ∈ TW := tw_in (List.mem_of_getElem? (i := 596) (by decide +kernel)) (by decide +kernel)
theorem tw_597 : Cond.code yX5_bringLeastToCorner cX5_bringLeastToCorner 7 (some .boolean) ∈ TW := tw_in (List.mem_of_getElem? (i := 597) (by decide +kernel)) (by decide +kernel)
theorem tw_598 : Cond.methodLink RX5 109 yX5_swapRows ∈ TW := tw_in (List.mem_of_getElem? (i := 598) (by decide +kernel)) (by decide +kernel)
theorem tw_600 : Cond.instanceMethod yX5_swapRows ∈ TW := tw_in (List.mem_of_getElem? (i := 600) (by decide +kernel)) (by decide +kernel)
theorem tw_601 : Cond.code yX5_swapRows cX5_swapRows 6 none ∈ TW := tw_in (List.mem_of_getElem? (i := 601) (by decide +kernel)) (by decide +kernel)
theorem tw_602 : Cond.methodLink RX5 112 yX5_swapColumns ∈ TW := tw_in (List.mem_of_getElem? (i := 602) (by decide +kernel)) (by decide +kernel)
theorem tw_604 : Cond.instanceMethod yX5_swapColumns ∈ TW := tw_in (List.mem_of_getElem? (i := 604) (by decide +kernel)) (by decide +kernel)
theorem tw_605 : Cond.code yX5_swapColumns cX5_swapColumns 6 none ∈ TW := tw_in (List.mem_of_getElem? (i := 605) (by decide +kernel)) (by decide +kernel)
theorem tw_606 : Cond.methodLink RX5 99 yX5_clearColumn ∈ TW := tw_in (List.mem_of_getElem? (i := 606) (by decide +kernel)) (by decide +kernel)
theorem tw_608 : Cond.instanceMethod yX5_clearColumn ∈ TW := tw_in (List.mem_of_getElem? (i := 608) (by decide +kernel)) (by decide +kernel)
theorem tw_609 : Cond.code yX5_clearColumn cX5_clearColumn 8 (some .boolean) ∈ TW := tw_in (List.mem_of_getElem? (i := 609) (by decide +kernel)) (by decide +kernel)
theorem tw_610 : Cond.methodLink RX5 115 yX5_addRow ∈ TW := tw_in (List.mem_of_getElem? (i := 610) (by decide +kernel)) (by decide +kernel)
theorem tw_612 : Cond.instanceMethod yX5_addRow ∈ TW := tw_in (List.mem_of_getElem? (i := 612) (by decide +kernel)) (by decide +kernel)
theorem tw_613 : Cond.code yX5_addRow cX5_addRow 8 none ∈ TW := tw_in (List.mem_of_getElem? (i := 613) (by decide +kernel)) (by decide +kernel)
theorem tw_614 : Cond.methodLink RX5 103 yX5_clearRow ∈ TW := tw_in (List.mem_of_getElem? (i := 614) (by decide +kernel)) (by decide +kernel)
theorem tw_616 : Cond.instanceMethod yX5_clearRow ∈ TW := tw_in (List.mem_of_getElem? (i := 616) (by decide +kernel)) (by decide +kernel)
theorem tw_617 : Cond.code yX5_clearRow cX5_clearRow 8 (some .boolean) ∈ TW := tw_in (List.mem_of_getElem? (i := 617) (by decide +kernel)) (by decide +kernel)
theorem tw_618 : Cond.methodLink RX5 119 yX5_addColumn ∈ TW := tw_in (List.mem_of_getElem? (i := 618) (by decide +kernel)) (by decide +kernel)
theorem tw_620 : Cond.instanceMethod yX5_addColumn ∈ TW := tw_in (List.mem_of_getElem? (i := 620) (by decide +kernel)) (by decide +kernel)
theorem tw_621 : Cond.code yX5_addColumn cX5_addColumn 8 none ∈ TW := tw_in (List.mem_of_getElem? (i := 621) (by decide +kernel)) (by decide +kernel)
theorem tw_622 : Cond.methodLink RX5 106 yX5_addUndividedRow ∈ TW := tw_in (List.mem_of_getElem? (i := 622) (by decide +kernel)) (by decide +kernel)
theorem tw_624 : Cond.instanceMethod yX5_addUndividedRow ∈ TW := tw_in (List.mem_of_getElem? (i := 624) (by decide +kernel)) (by decide +kernel)
theorem tw_625 : Cond.code yX5_addUndividedRow cX5_addUndividedRow 8 (some .boolean) ∈ TW := tw_in (List.mem_of_getElem? (i := 625) (by decide +kernel)) (by decide +kernel)
theorem tw_626 : Cond.constantLong RL 56 (Int64.ofInt (-1)) ∈ TW := tw_in (List.mem_of_getElem? (i := 626) (by decide +kernel)) (by decide +kernel)
theorem tw_627 : Cond.methodLink RL 58 yX10_levelCount ∈ TW := tw_in (List.mem_of_getElem? (i := 627) (by decide +kernel)) (by decide +kernel)
theorem tw_628 : Cond.instanceMethod yX10_levelCount ∈ TW := tw_in (List.mem_of_getElem? (i := 628) (by decide +kernel)) (by decide +kernel)
theorem tw_629 : Cond.selects RX10 yX10_levelCount yX10_levelCount ∈ TW := tw_in (List.mem_of_getElem? (i := 629) (by decide +kernel)) (by decide +kernel)
theorem tw_630 : Cond.code yX10_levelCount cX10_levelCount 2 (some .int) ∈ TW := tw_in (List.mem_of_getElem? (i := 630) (by decide +kernel)) (by decide +kernel)
theorem tw_631 : Cond.methodLink RX10 263 yX4_countAt ∈ TW := tw_in (List.mem_of_getElem? (i := 631) (by decide +kernel)) (by decide +kernel)
theorem tw_632 : Cond.instanceMethod yX4_countAt ∈ TW := tw_in (List.mem_of_getElem? (i := 632) (by decide +kernel)) (by decide +kernel)
theorem tw_633 : Cond.selects RX4 yX4_countAt yX4_countAt ∈ TW := tw_in (List.mem_of_getElem? (i := 633) (by decide +kernel)) (by decide +kernel)
theorem tw_634 : Cond.code yX4_countAt cX4_countAt 5 (some .long) ∈ TW := tw_in (List.mem_of_getElem? (i := 634) (by decide +kernel)) (by decide +kernel)
theorem tw_635 : Cond.methodLink RX4 28 yX4_countEdgesInside ∈ TW := tw_in (List.mem_of_getElem? (i := 635) (by decide +kernel)) (by decide +kernel)
theorem tw_637 : Cond.instanceMethod yX4_countEdgesInside ∈ TW := tw_in (List.mem_of_getElem? (i := 637) (by decide +kernel)) (by decide +kernel)
theorem tw_638 : Cond.code yX4_countEdgesInside cX4_countEdgesInside 4 none ∈ TW := tw_in (List.mem_of_getElem? (i := 638) (by decide +kernel)) (by decide +kernel)
theorem tw_639 : Cond.methodLink RX4 37 yX4_sumConnected ∈ TW := tw_in (List.mem_of_getElem? (i := 639) (by decide +kernel)) (by decide +kernel)
theorem tw_641 : Cond.instanceMethod yX4_sumConnected ∈ TW := tw_in (List.mem_of_getElem? (i := 641) (by decide +kernel)) (by decide +kernel)
theorem tw_642 : Cond.code yX4_sumConnected cX4_sumConnected 4 none ∈ TW := tw_in (List.mem_of_getElem? (i := 642) (by decide +kernel)) (by decide +kernel)
theorem tw_643 : Cond.methodLink RX4 53 yX4_subtractShifted ∈ TW := tw_in (List.mem_of_getElem? (i := 643) (by decide +kernel)) (by decide +kernel)
theorem tw_644 : Cond.static yX4_subtractShifted ∈ TW := tw_in (List.mem_of_getElem? (i := 644) (by decide +kernel)) (by decide +kernel)
theorem tw_645 : Cond.code yX4_subtractShifted cX4_subtractShifted 4 none ∈ TW := tw_in (List.mem_of_getElem? (i := 645) (by decide +kernel)) (by decide +kernel)
theorem tw_646 : Cond.methodLink RX4 41 yX4_divideByYMinusOne ∈ TW := tw_in (List.mem_of_getElem? (i := 646) (by decide +kernel)) (by decide +kernel)
theorem tw_648 : Cond.instanceMethod yX4_divideByYMinusOne ∈ TW := tw_in (List.mem_of_getElem? (i := 648) (by decide +kernel)) (by decide +kernel)
theorem tw_649 : Cond.code yX4_divideByYMinusOne cX4_divideByYMinusOne 6 none ∈ TW := tw_in (List.mem_of_getElem? (i := 649) (by decide +kernel)) (by decide +kernel)
theorem tw_650 : Cond.methodLink RL 61 yX10_tree ∈ TW := tw_in (List.mem_of_getElem? (i := 650) (by decide +kernel)) (by decide +kernel)
theorem tw_651 : Cond.instanceMethod yX10_tree ∈ TW := tw_in (List.mem_of_getElem? (i := 651) (by decide +kernel)) (by decide +kernel)
theorem tw_652 : Cond.selects RX10 yX10_tree yX10_tree ∈ TW := tw_in (List.mem_of_getElem? (i := 652) (by decide +kernel)) (by decide +kernel)
theorem tw_653 : Cond.code yX10_tree cX10_tree 1 (some .int) ∈ TW := tw_in (List.mem_of_getElem? (i := 653) (by decide +kernel)) (by decide +kernel)
theorem tw_654 : Cond.methodLink RX10 267 yX9_treeOf ∈ TW := tw_in (List.mem_of_getElem? (i := 654) (by decide +kernel)) (by decide +kernel)
theorem tw_655 : Cond.instanceMethod yX9_treeOf ∈ TW := tw_in (List.mem_of_getElem? (i := 655) (by decide +kernel)) (by decide +kernel)
theorem tw_656 : Cond.selects RX9 yX9_treeOf yX9_treeOf ∈ TW := tw_in (List.mem_of_getElem? (i := 656) (by decide +kernel)) (by decide +kernel)
theorem tw_657 : Cond.code yX9_treeOf cX9_treeOf 8 (some .int) ∈ TW := tw_in (List.mem_of_getElem? (i := 657) (by decide +kernel)) (by decide +kernel)
theorem tw_659 : Cond.methodLink RX9 54 yX9_lowestBorderEdge ∈ TW := tw_in (List.mem_of_getElem? (i := 659) (by decide +kernel)) (by decide +kernel)
theorem tw_661 : Cond.instanceMethod yX9_lowestBorderEdge ∈ TW := tw_in (List.mem_of_getElem? (i := 661) (by decide +kernel)) (by decide +kernel)
theorem tw_662 : Cond.code yX9_lowestBorderEdge cX9_lowestBorderEdge 5 (some .int) ∈ TW := tw_in (List.mem_of_getElem? (i := 662) (by decide +kernel)) (by decide +kernel)
theorem tw_663 : Cond.methodLink RX9 71 yX9_isIn ∈ TW := tw_in (List.mem_of_getElem? (i := 663) (by decide +kernel)) (by decide +kernel)
theorem tw_664 : Cond.static yX9_isIn ∈ TW := tw_in (List.mem_of_getElem? (i := 664) (by decide +kernel)) (by decide +kernel)
theorem tw_665 : Cond.code yX9_isIn cX9_isIn 2 (some .boolean) ∈ TW := tw_in (List.mem_of_getElem? (i := 665) (by decide +kernel)) (by decide +kernel)
theorem tw_666 : Cond.methodLink RX9 58 yX2_hasEdge ∈ TW := tw_in (List.mem_of_getElem? (i := 666) (by decide +kernel)) (by decide +kernel)
theorem tw_667 : Cond.methodLink RX9 62 yX9_unmarkedEnd ∈ TW := tw_in (List.mem_of_getElem? (i := 667) (by decide +kernel)) (by decide +kernel)
theorem tw_669 : Cond.instanceMethod yX9_unmarkedEnd ∈ TW := tw_in (List.mem_of_getElem? (i := 669) (by decide +kernel)) (by decide +kernel)
theorem tw_670 : Cond.code yX9_unmarkedEnd cX9_unmarkedEnd 3 (some .int) ∈ TW := tw_in (List.mem_of_getElem? (i := 670) (by decide +kernel)) (by decide +kernel)
theorem tw_671 : Cond.methodLink RX9 65 yX2_degreeOf ∈ TW := tw_in (List.mem_of_getElem? (i := 671) (by decide +kernel)) (by decide +kernel)
theorem tw_672 : Cond.methodLink RL 64 yX10_firings ∈ TW := tw_in (List.mem_of_getElem? (i := 672) (by decide +kernel)) (by decide +kernel)
theorem tw_673 : Cond.instanceMethod yX10_firings ∈ TW := tw_in (List.mem_of_getElem? (i := 673) (by decide +kernel)) (by decide +kernel)
theorem tw_674 : Cond.selects RX10 yX10_firings yX10_firings ∈ TW := tw_in (List.mem_of_getElem? (i := 674) (by decide +kernel)) (by decide +kernel)
theorem tw_675 : Cond.code yX10_firings cX10_firings 2 (some .int) ∈ TW := tw_in (List.mem_of_getElem? (i := 675) (by decide +kernel)) (by decide +kernel)
theorem tw_676 : Cond.methodLink RL 67 yX10_degree ∈ TW := tw_in (List.mem_of_getElem? (i := 676) (by decide +kernel)) (by decide +kernel)
theorem tw_677 : Cond.instanceMethod yX10_degree ∈ TW := tw_in (List.mem_of_getElem? (i := 677) (by decide +kernel)) (by decide +kernel)
theorem tw_678 : Cond.selects RX10 yX10_degree yX10_degree ∈ TW := tw_in (List.mem_of_getElem? (i := 678) (by decide +kernel)) (by decide +kernel)
theorem tw_679 : Cond.code yX10_degree cX10_degree 2 (some .int) ∈ TW := tw_in (List.mem_of_getElem? (i := 679) (by decide +kernel)) (by decide +kernel)
theorem tw_680 : Cond.methodLink RX10 161 yX2_degreeOf ∈ TW := tw_in (List.mem_of_getElem? (i := 680) (by decide +kernel)) (by decide +kernel)
theorem tw_681 : Cond.methodLink RL 70 yL_joins ∈ TW := tw_in (List.mem_of_getElem? (i := 681) (by decide +kernel)) (by decide +kernel)
theorem tw_682 : Cond.static yL_joins ∈ TW := tw_in (List.mem_of_getElem? (i := 682) (by decide +kernel)) (by decide +kernel)
theorem tw_683 : Cond.code yL_joins cL_joins 7 (some .int) ∈ TW := tw_in (List.mem_of_getElem? (i := 683) (by decide +kernel)) (by decide +kernel)
theorem tw_684 : Cond.methodLink RL 74 yX10_fire ∈ TW := tw_in (List.mem_of_getElem? (i := 684) (by decide +kernel)) (by decide +kernel)
theorem tw_685 : Cond.instanceMethod yX10_fire ∈ TW := tw_in (List.mem_of_getElem? (i := 685) (by decide +kernel)) (by decide +kernel)
theorem tw_686 : Cond.selects RX10 yX10_fire yX10_fire ∈ TW := tw_in (List.mem_of_getElem? (i := 686) (by decide +kernel)) (by decide +kernel)
theorem tw_687 : Cond.code yX10_fire cX10_fire 2 (some .int) ∈ TW := tw_in (List.mem_of_getElem? (i := 687) (by decide +kernel)) (by decide +kernel)
theorem tw_688 : Cond.methodLink RX10 178 yX1_canFire ∈ TW := tw_in (List.mem_of_getElem? (i := 688) (by decide +kernel)) (by decide +kernel)
theorem tw_689 : Cond.methodLink RX10 182 yX1_give ∈ TW := tw_in (List.mem_of_getElem? (i := 689) (by decide +kernel)) (by decide +kernel)
theorem tw_690 : Cond.methodLink RL 77 yL_are ∈ TW := tw_in (List.mem_of_getElem? (i := 690) (by decide +kernel)) (by decide +kernel)
theorem tw_691 : Cond.static yL_are ∈ TW := tw_in (List.mem_of_getElem? (i := 691) (by decide +kernel)) (by decide +kernel)
theorem tw_692 : Cond.code yL_are cL_are 3 (some .boolean) ∈ TW := tw_in (List.mem_of_getElem? (i := 692) (by decide +kernel)) (by decide +kernel)
theorem tw_693 : Cond.methodLink RL 150 yL_classes ∈ TW := tw_in (List.mem_of_getElem? (i := 693) (by decide +kernel)) (by decide +kernel)
theorem tw_694 : Cond.static yL_classes ∈ TW := tw_in (List.mem_of_getElem? (i := 694) (by decide +kernel)) (by decide +kernel)
theorem tw_695 : Cond.code yL_classes cL_classes 14 (some .boolean) ∈ TW := tw_in (List.mem_of_getElem? (i := 695) (by decide +kernel)) (by decide +kernel)
theorem tw_696 : Cond.methodLink RL 81 yX10_keep ∈ TW := tw_in (List.mem_of_getElem? (i := 696) (by decide +kernel)) (by decide +kernel)
theorem tw_697 : Cond.instanceMethod yX10_keep ∈ TW := tw_in (List.mem_of_getElem? (i := 697) (by decide +kernel)) (by decide +kernel)
theorem tw_698 : Cond.selects RX10 yX10_keep yX10_keep ∈ TW := tw_in (List.mem_of_getElem? (i := 698) (by decide +kernel)) (by decide +kernel)
theorem tw_699 : Cond.code yX10_keep cX10_keep 3 (some .int) ∈ TW := tw_in (List.mem_of_getElem? (i := 699) (by decide +kernel)) (by decide +kernel)
theorem tw_700 : Cond.methodLink RX10 228 yX7_has ∈ TW := tw_in (List.mem_of_getElem? (i := 700) (by decide +kernel)) (by decide +kernel)
theorem tw_701 : Cond.instanceMethod yX7_has ∈ TW := tw_in (List.mem_of_getElem? (i := 701) (by decide +kernel)) (by decide +kernel)
theorem tw_702 : Cond.selects RX7 yX7_has yX7_has ∈ TW := tw_in (List.mem_of_getElem? (i := 702) (by decide +kernel)) (by decide +kernel)
theorem tw_703 : Cond.code yX7_has cX7_has 2 (some .boolean) ∈ TW := tw_in (List.mem_of_getElem? (i := 703) (by decide +kernel)) (by decide +kernel)
theorem tw_704 : Cond.methodLink RX10 231 yX7_isEmpty ∈ TW := tw_in (List.mem_of_getElem? (i := 704) (by decide +kernel)) (by decide +kernel)
theorem tw_705 : Cond.instanceMethod yX7_isEmpty ∈ TW := tw_in (List.mem_of_getElem? (i := 705) (by decide +kernel)) (by decide +kernel)
theorem tw_706 : Cond.selects RX7 yX7_isEmpty yX7_isEmpty ∈ TW := tw_in (List.mem_of_getElem? (i := 706) (by decide +kernel)) (by decide +kernel)
theorem tw_707 : Cond.code yX7_isEmpty cX7_isEmpty 2 (some .boolean) ∈ TW := tw_in (List.mem_of_getElem? (i := 707) (by decide +kernel)) (by decide +kernel)
theorem tw_708 : Cond.methodLink RX7 20 yX7_has ∈ TW := tw_in (List.mem_of_getElem? (i := 708) (by decide +kernel)) (by decide +kernel)
theorem tw_709 : Cond.methodLink RX10 234 yX7_put ∈ TW := tw_in (List.mem_of_getElem? (i := 709) (by decide +kernel)) (by decide +kernel)
theorem tw_710 : Cond.instanceMethod yX7_put ∈ TW := tw_in (List.mem_of_getElem? (i := 710) (by decide +kernel)) (by decide +kernel)
theorem tw_711 : Cond.selects RX7 yX7_put yX7_put ∈ TW := tw_in (List.mem_of_getElem? (i := 711) (by decide +kernel)) (by decide +kernel)
theorem tw_712 : Cond.code yX7_put cX7_put 3 none ∈ TW := tw_in (List.mem_of_getElem? (i := 712) (by decide +kernel)) (by decide +kernel)
theorem tw_714 : Cond.methodLink RL 84 yX10_isSameClass ∈ TW := tw_in (List.mem_of_getElem? (i := 714) (by decide +kernel)) (by decide +kernel)
theorem tw_715 : Cond.instanceMethod yX10_isSameClass ∈ TW := tw_in (List.mem_of_getElem? (i := 715) (by decide +kernel)) (by decide +kernel)
theorem tw_716 : Cond.selects RX10 yX10_isSameClass yX10_isSameClass ∈ TW := tw_in (List.mem_of_getElem? (i := 716) (by decide +kernel)) (by decide +kernel)
theorem tw_717 : Cond.code yX10_isSameClass cX10_isSameClass 2 (some .int) ∈ TW := tw_in (List.mem_of_getElem? (i := 717) (by decide +kernel)) (by decide +kernel)
theorem tw_718 : Cond.methodLink RX10 238 yX7_copyTo ∈ TW := tw_in (List.mem_of_getElem? (i := 718) (by decide +kernel)) (by decide +kernel)
theorem tw_719 : Cond.instanceMethod yX7_copyTo ∈ TW := tw_in (List.mem_of_getElem? (i := 719) (by decide +kernel)) (by decide +kernel)
theorem tw_720 : Cond.selects RX7 yX7_copyTo yX7_copyTo ∈ TW := tw_in (List.mem_of_getElem? (i := 720) (by decide +kernel)) (by decide +kernel)
theorem tw_721 : Cond.code yX7_copyTo cX7_copyTo 3 none ∈ TW := tw_in (List.mem_of_getElem? (i := 721) (by decide +kernel)) (by decide +kernel)
theorem tw_722 : Cond.methodLink RL 87 yL_lay ∈ TW := tw_in (List.mem_of_getElem? (i := 722) (by decide +kernel)) (by decide +kernel)
theorem tw_723 : Cond.static yL_lay ∈ TW := tw_in (List.mem_of_getElem? (i := 723) (by decide +kernel)) (by decide +kernel)
theorem tw_724 : Cond.code yL_lay cL_lay 3 none ∈ TW := tw_in (List.mem_of_getElem? (i := 724) (by decide +kernel)) (by decide +kernel)
theorem tw_725 : Cond.methodLink RL 90 yX10_level ∈ TW := tw_in (List.mem_of_getElem? (i := 725) (by decide +kernel)) (by decide +kernel)
theorem tw_726 : Cond.instanceMethod yX10_level ∈ TW := tw_in (List.mem_of_getElem? (i := 726) (by decide +kernel)) (by decide +kernel)
theorem tw_727 : Cond.selects RX10 yX10_level yX10_level ∈ TW := tw_in (List.mem_of_getElem? (i := 727) (by decide +kernel)) (by decide +kernel)
theorem tw_728 : Cond.code yX10_level cX10_level 1 (some .int) ∈ TW := tw_in (List.mem_of_getElem? (i := 728) (by decide +kernel)) (by decide +kernel)
theorem tw_729 : Cond.methodLink RL 93 yX10_takeTree ∈ TW := tw_in (List.mem_of_getElem? (i := 729) (by decide +kernel)) (by decide +kernel)
theorem tw_730 : Cond.instanceMethod yX10_takeTree ∈ TW := tw_in (List.mem_of_getElem? (i := 730) (by decide +kernel)) (by decide +kernel)
theorem tw_731 : Cond.selects RX10 yX10_takeTree yX10_takeTree ∈ TW := tw_in (List.mem_of_getElem? (i := 731) (by decide +kernel)) (by decide +kernel)
theorem tw_732 : Cond.code yX10_takeTree cX10_takeTree 2 (some .int) ∈ TW := tw_in (List.mem_of_getElem? (i := 732) (by decide +kernel)) (by decide +kernel)
theorem tw_733 : Cond.methodLink RX10 270 yX2_isSpanningTree ∈ TW := tw_in (List.mem_of_getElem? (i := 733) (by decide +kernel)) (by decide +kernel)
theorem tw_734 : Cond.instanceMethod yX2_isSpanningTree ∈ TW := tw_in (List.mem_of_getElem? (i := 734) (by decide +kernel)) (by decide +kernel)
theorem tw_735 : Cond.selects RX2 yX2_isSpanningTree yX2_isSpanningTree ∈ TW := tw_in (List.mem_of_getElem? (i := 735) (by decide +kernel)) (by decide +kernel)
theorem tw_736 : Cond.code yX2_isSpanningTree cX2_isSpanningTree 2 (some .boolean) ∈ TW := tw_in (List.mem_of_getElem? (i := 736) (by decide +kernel)) (by decide +kernel)
theorem tw_737 : Cond.methodLink RX2 61 yJ6_bitCount_0f7a4 ∈ TW := tw_in (List.mem_of_getElem? (i := 737) (by decide +kernel)) (by decide +kernel)
theorem tw_738 : Cond.static yJ6_bitCount_0f7a4 ∈ TW := tw_in (List.mem_of_getElem? (i := 738) (by decide +kernel)) (by decide +kernel)
theorem tw_739 : Cond.code yJ6_bitCount_0f7a4 cJ6_bitCount_0f7a4 1 (some .int) ∈ TW := tw_in (List.mem_of_getElem? (i := 739) (by decide +kernel)) (by decide +kernel)
theorem tw_740 : Cond.constant RJ6 265 (Int32.ofInt (1431655765)) ∈ TW := tw_in (List.mem_of_getElem? (i := 740) (by decide +kernel)) (by decide +kernel)
theorem tw_741 : Cond.constant RJ6 266 (Int32.ofInt (858993459)) ∈ TW := tw_in (List.mem_of_getElem? (i := 741) (by decide +kernel)) (by decide +kernel)
theorem tw_742 : Cond.constant RJ6 267 (Int32.ofInt (252645135)) ∈ TW := tw_in (List.mem_of_getElem? (i := 742) (by decide +kernel)) (by decide +kernel)
theorem tw_743 : Cond.methodLink RX10 273 yX9_toStateOf ∈ TW := tw_in (List.mem_of_getElem? (i := 743) (by decide +kernel)) (by decide +kernel)
theorem tw_744 : Cond.instanceMethod yX9_toStateOf ∈ TW := tw_in (List.mem_of_getElem? (i := 744) (by decide +kernel)) (by decide +kernel)
theorem tw_745 : Cond.selects RX9 yX9_toStateOf yX9_toStateOf ∈ TW := tw_in (List.mem_of_getElem? (i := 745) (by decide +kernel)) (by decide +kernel)
theorem tw_746 : Cond.code yX9_toStateOf cX9_toStateOf 8 none ∈ TW := tw_in (List.mem_of_getElem? (i := 746) (by decide +kernel)) (by decide +kernel)
theorem tw_747 : Cond.methodLink RL 96 yX10_identity ∈ TW := tw_in (List.mem_of_getElem? (i := 747) (by decide +kernel)) (by decide +kernel)
theorem tw_748 : Cond.instanceMethod yX10_identity ∈ TW := tw_in (List.mem_of_getElem? (i := 748) (by decide +kernel)) (by decide +kernel)
theorem tw_749 : Cond.selects RX10 yX10_identity yX10_identity ∈ TW := tw_in (List.mem_of_getElem? (i := 749) (by decide +kernel)) (by decide +kernel)
theorem tw_750 : Cond.code yX10_identity cX10_identity 2 (some .int) ∈ TW := tw_in (List.mem_of_getElem? (i := 750) (by decide +kernel)) (by decide +kernel)
theorem tw_751 : Cond.methodLink RL 99 yX10_add ∈ TW := tw_in (List.mem_of_getElem? (i := 751) (by decide +kernel)) (by decide +kernel)
theorem tw_752 : Cond.instanceMethod yX10_add ∈ TW := tw_in (List.mem_of_getElem? (i := 752) (by decide +kernel)) (by decide +kernel)
theorem tw_753 : Cond.selects RX10 yX10_add yX10_add ∈ TW := tw_in (List.mem_of_getElem? (i := 753) (by decide +kernel)) (by decide +kernel)
theorem tw_754 : Cond.code yX10_add cX10_add 3 (some .int) ∈ TW := tw_in (List.mem_of_getElem? (i := 754) (by decide +kernel)) (by decide +kernel)
theorem tw_755 : Cond.methodLink RL 102 yL_sumOf ∈ TW := tw_in (List.mem_of_getElem? (i := 755) (by decide +kernel)) (by decide +kernel)
theorem tw_756 : Cond.static yL_sumOf ∈ TW := tw_in (List.mem_of_getElem? (i := 756) (by decide +kernel)) (by decide +kernel)
theorem tw_757 : Cond.code yL_sumOf cL_sumOf 3 (some .int) ∈ TW := tw_in (List.mem_of_getElem? (i := 757) (by decide +kernel)) (by decide +kernel)
theorem tw_758 : Cond.methodLink RL 153 yL_group ∈ TW := tw_in (List.mem_of_getElem? (i := 758) (by decide +kernel)) (by decide +kernel)
theorem tw_759 : Cond.static yL_group ∈ TW := tw_in (List.mem_of_getElem? (i := 759) (by decide +kernel)) (by decide +kernel)
theorem tw_760 : Cond.code yL_group cL_group 13 (some .boolean) ∈ TW := tw_in (List.mem_of_getElem? (i := 760) (by decide +kernel)) (by decide +kernel)
theorem tw_761 : Cond.constantLong RL 106 (Int64.ofInt (2)) ∈ TW := tw_in (List.mem_of_getElem? (i := 761) (by decide +kernel)) (by decide +kernel)
theorem tw_762 : Cond.methodLink RL 108 yX10_treeAt ∈ TW := tw_in (List.mem_of_getElem? (i := 762) (by decide +kernel)) (by decide +kernel)
theorem tw_763 : Cond.instanceMethod yX10_treeAt ∈ TW := tw_in (List.mem_of_getElem? (i := 763) (by decide +kernel)) (by decide +kernel)
theorem tw_764 : Cond.selects RX10 yX10_treeAt yX10_treeAt ∈ TW := tw_in (List.mem_of_getElem? (i := 764) (by decide +kernel)) (by decide +kernel)
theorem tw_765 : Cond.code yX10_treeAt cX10_treeAt 2 (some .int) ∈ TW := tw_in (List.mem_of_getElem? (i := 765) (by decide +kernel)) (by decide +kernel)
theorem tw_766 : Cond.methodLink RX10 276 yX9_treeNumbered ∈ TW := tw_in (List.mem_of_getElem? (i := 766) (by decide +kernel)) (by decide +kernel)
theorem tw_767 : Cond.instanceMethod yX9_treeNumbered ∈ TW := tw_in (List.mem_of_getElem? (i := 767) (by decide +kernel)) (by decide +kernel)
theorem tw_768 : Cond.selects RX9 yX9_treeNumbered yX9_treeNumbered ∈ TW := tw_in (List.mem_of_getElem? (i := 768) (by decide +kernel)) (by decide +kernel)
theorem tw_769 : Cond.code yX9_treeNumbered cX9_treeNumbered 10 (some .int) ∈ TW := tw_in (List.mem_of_getElem? (i := 769) (by decide +kernel)) (by decide +kernel)
theorem tw_770 : Cond.methodLink RX9 43 yX9_count ∈ TW := tw_in (List.mem_of_getElem? (i := 770) (by decide +kernel)) (by decide +kernel)
theorem tw_771 : Cond.constantLong RL 111 (Int64.ofInt (400)) ∈ TW := tw_in (List.mem_of_getElem? (i := 771) (by decide +kernel)) (by decide +kernel)
theorem tw_772 : Cond.methodLink RL 142 yL_burning ∈ TW := tw_in (List.mem_of_getElem? (i := 772) (by decide +kernel)) (by decide +kernel)
theorem tw_773 : Cond.static yL_burning ∈ TW := tw_in (List.mem_of_getElem? (i := 773) (by decide +kernel)) (by decide +kernel)
theorem tw_774 : Cond.code yL_burning cL_burning 10 (some .boolean) ∈ TW := tw_in (List.mem_of_getElem? (i := 774) (by decide +kernel)) (by decide +kernel)
theorem tw_775 : Cond.methodLink RL 113 yX10_burnt ∈ TW := tw_in (List.mem_of_getElem? (i := 775) (by decide +kernel)) (by decide +kernel)
theorem tw_776 : Cond.instanceMethod yX10_burnt ∈ TW := tw_in (List.mem_of_getElem? (i := 776) (by decide +kernel)) (by decide +kernel)
theorem tw_777 : Cond.selects RX10 yX10_burnt yX10_burnt ∈ TW := tw_in (List.mem_of_getElem? (i := 777) (by decide +kernel)) (by decide +kernel)
theorem tw_778 : Cond.code yX10_burnt cX10_burnt 2 (some .int) ∈ TW := tw_in (List.mem_of_getElem? (i := 778) (by decide +kernel)) (by decide +kernel)
theorem tw_779 : Cond.methodLink RX10 219 yX0_hasBurnt ∈ TW := tw_in (List.mem_of_getElem? (i := 779) (by decide +kernel)) (by decide +kernel)
theorem tw_780 : Cond.methodLink RL 156 yL_errors ∈ TW := tw_in (List.mem_of_getElem? (i := 780) (by decide +kernel)) (by decide +kernel)
theorem tw_781 : Cond.static yL_errors ∈ TW := tw_in (List.mem_of_getElem? (i := 781) (by decide +kernel)) (by decide +kernel)
theorem tw_782 : Cond.code yL_errors cL_errors 6 (some .boolean) ∈ TW := tw_in (List.mem_of_getElem? (i := 782) (by decide +kernel)) (by decide +kernel)
theorem tw_783 : Cond.methodLink RL 128 yX10_load ∈ TW := tw_in (List.mem_of_getElem? (i := 783) (by decide +kernel)) (by decide +kernel)
theorem tw_784 : Cond.instanceMethod yX10_load ∈ TW := tw_in (List.mem_of_getElem? (i := 784) (by decide +kernel)) (by decide +kernel)
theorem tw_785 : Cond.selects RX10 yX10_load yX10_load ∈ TW := tw_in (List.mem_of_getElem? (i := 785) (by decide +kernel)) (by decide +kernel)
theorem tw_786 : Cond.code yX10_load cX10_load 2 (some .int) ∈ TW := tw_in (List.mem_of_getElem? (i := 786) (by decide +kernel)) (by decide +kernel)
theorem inw_X10 : ∀ w ∈ u_ws RX10 TX10 12, w ∈ TW := fun w h => tw_in ((show ∀ w ∈ u_ws RX10 TX10 12, w ∈ lw_tbl from by decide +kernel) w h) ((show ∀ w ∈ u_ws RX10 TX10 12, goodWord w = true from by decide +kernel) w h)
theorem inw_X2 : ∀ w ∈ u_ws RX2 TX2 8, w ∈ TW := fun w h => tw_in ((show ∀ w ∈ u_ws RX2 TX2 8, w ∈ lw_tbl from by decide +kernel) w h) ((show ∀ w ∈ u_ws RX2 TX2 8, goodWord w = true from by decide +kernel) w h)
theorem inw_X8 : ∀ w ∈ u_ws RX8 TX8 2, w ∈ TW := fun w h => tw_in ((show ∀ w ∈ u_ws RX8 TX8 2, w ∈ lw_tbl from by decide +kernel) w h) ((show ∀ w ∈ u_ws RX8 TX8 2, goodWord w = true from by decide +kernel) w h)
theorem inw_X3 : ∀ w ∈ u_ws RX3 TX3 3, w ∈ TW := fun w h => tw_in ((show ∀ w ∈ u_ws RX3 TX3 3, w ∈ lw_tbl from by decide +kernel) w h) ((show ∀ w ∈ u_ws RX3 TX3 3, goodWord w = true from by decide +kernel) w h)
theorem inw_X7 : ∀ w ∈ u_ws RX7 TX7 2, w ∈ TW := fun w h => tw_in ((show ∀ w ∈ u_ws RX7 TX7 2, w ∈ lw_tbl from by decide +kernel) w h) ((show ∀ w ∈ u_ws RX7 TX7 2, goodWord w = true from by decide +kernel) w h)
theorem inw_X0 : ∀ w ∈ u_ws RX0 TX0 3, w ∈ TW := fun w h => tw_in ((show ∀ w ∈ u_ws RX0 TX0 3, w ∈ lw_tbl from by decide +kernel) w h) ((show ∀ w ∈ u_ws RX0 TX0 3, goodWord w = true from by decide +kernel) w h)
theorem inw_X1 : ∀ w ∈ u_ws RX1 TX1 3, w ∈ TW := fun w h => tw_in ((show ∀ w ∈ u_ws RX1 TX1 3, w ∈ lw_tbl from by decide +kernel) w h) ((show ∀ w ∈ u_ws RX1 TX1 3, goodWord w = true from by decide +kernel) w h)
theorem inw_X5 : ∀ w ∈ u_ws RX5 TX5 5, w ∈ TW := fun w h => tw_in ((show ∀ w ∈ u_ws RX5 TX5 5, w ∈ lw_tbl from by decide +kernel) w h) ((show ∀ w ∈ u_ws RX5 TX5 5, goodWord w = true from by decide +kernel) w h)
theorem inw_X9 : ∀ w ∈ u_ws RX9 TX9 3, w ∈ TW := fun w h => tw_in ((show ∀ w ∈ u_ws RX9 TX9 3, w ∈ lw_tbl from by decide +kernel) w h) ((show ∀ w ∈ u_ws RX9 TX9 3, goodWord w = true from by decide +kernel) w h)
theorem inw_X4 : ∀ w ∈ u_ws RX4 TX4 4, w ∈ TW := fun w h => tw_in ((show ∀ w ∈ u_ws RX4 TX4 4, w ∈ lw_tbl from by decide +kernel) w h) ((show ∀ w ∈ u_ws RX4 TX4 4, goodWord w = true from by decide +kernel) w h)
end
section
/-! CORE 6: rounding up the counters; an array of eight ints is made -/
theorem Go.widen {S : Shp} {M : Mth} {F : Option Value → Sto → Prop} {cs ss cs2 ss2 pc : Nat} {l : List (Nat × Value)} {st : List Value} {s : Sto} (h1 : cs ≤ cs2) (h2 : ss ≤ ss2) (k : Go S M F cs2 ss2 pc l st s) : Go S M F cs ss pc l st s := by
  intro p lc e u m args below meth c D cA ad H locs ls A Z X hP hS hl
  exact W.widen h1 h2 (k p lc e u m args below meth c D cA ad H locs ls A Z X hP hS hl)
/-- a cell becomes zeros -/
def zr (s : Sto) (k : Nat) : Sto := fun k' i' => if k' = k then 0 else s k' i'
theorem zr_eq (s : Sto) (k i : Nat) : zr s k k i = 0 := if_pos rfl
theorem zr_ne {s : Sto} {k k' i : Nat} (h : k' ≠ k) : zr s k k' i = s k' i := if_neg h
theorem fI_nr (Q : Int → Sto → Prop) : ∀ r s', fI Q r s' → ∀ k : Nat, r ≠ some (.ref k) := by
  intro r s' ⟨x, h, _⟩ k e
  rw [h] at e
  cases e
def adq (ad : Nat → Nat) (k0 q : Nat) : Nat → Nat := fun k => if k = k0 then q else ad k
theorem tv_adq {ad : Nat → Nat} {k0 q : Nat} {v : Value} (h : v ≠ .ref k0) : tv (adq ad k0 q) v = tv ad v := by
  cases v with
  | ref k =>
    have : k ≠ k0 := fun e => h (by rw [e])
    simp [tv, adq, this]
  | _ => rfl
theorem ts_adq {ad : Nat → Nat} {k0 q : Nat} {st : List Value} (h : ∀ v ∈ st, v ≠ .ref k0) : ts (adq ad k0 q) st = ts ad st := by
  apply List.map_congr_left
  intro v hv
  exact tv_adq (h v hv)
theorem tl_adq {ad : Nat → Nat} {k0 q : Nat} {l : List (Nat × Value)} (h : ∀ v ∈ l, v.2 ≠ .ref k0) : tl (adq ad k0 q) l = tl ad l := by
  apply List.map_congr_left
  intro v hv
  rw [tv_adq (h v hv)]
theorem getD_lt {l : List (Option Nat)} {i j : Nat} (hl : l.all (fun o => o.all (fun j => j < 190)) = true) (h : l.getD i none = some j) : j < 190 := by
  rw [List.getD_eq_getElem?_getD] at h
  cases hi : l[i]? with
  | none => rw [hi] at h; cases h
  | some o =>
    rw [hi] at h
    have h' : o = some j := h
    have hm := List.all_eq_true.mp hl o (List.mem_of_getElem? hi)
    rw [h'] at hm
    simpa using hm
theorem if_lt {i c b j : Nat} (hc : b + c ≤ 190) (h : (if i < c then some (b + i) else none) = some j) : j < 190 := by
  by_cases hi : i < c
  · rw [if_pos hi] at h; have := Option.some.inj h; omega
  · rw [if_neg hi] at h; cases h
theorem rSC_lt {k i j : Nat} (h : rSC k i = some j) : j < 190 := by
  unfold rSC at h
  split at h <;> first | exact getD_lt (by decide) h | exact if_lt (by decide) h | cases h
theorem cE_adq {n : Nat} {ad : Nat → Nat} {cA : Nat → ClassId} {s : Sto} {q k : Nat} (hk : k < 190 + n) : cE (SL (n + 1)) (adq ad (190 + n) q) cA s k = cE (SL n) ad cA s k := by
  have hf : ∀ i, (fr (SL (n + 1)) k i).map (adq ad (190 + n) q) = (fr (SL n) k i).map ad := by
    intro i
    show (rSC k i).map _ = (rSC k i).map _
    cases h : rSC k i with
    | none => rfl
    | some j =>
      have := rSC_lt h
      show some (adq ad (190 + n) q j) = some (ad j)
      unfold adq
      rw [if_neg (by omega)]
  have hv : fV (SL (n + 1)) (adq ad (190 + n) q) s k = fV (SL n) ad s k := by
    funext i
    show (match rSC k i with | some j => Value.ref (adq ad (190 + n) q j) | none => .int (Int32.ofInt (s k i))) = (match rSC k i with | some j => Value.ref (ad j) | none => .int (Int32.ofInt (s k i)))
    cases h : rSC k i with
    | none => rfl
    | some j =>
      have := rSC_lt h
      show Value.ref (adq ad (190 + n) q j) = .ref (ad j)
      unfold adq
      rw [if_neg (by omega)]
  have h1 : kd (SL (n + 1)) k = kd (SL n) k := rfl
  have h2 : ln (SL (n + 1)) k = ln (SL n) k := rfl
  have h3 : ci (SL (n + 1)) k = ci (SL n) k := rfl
  unfold cE
  rw [hv, h1, h2, h3]
  simp only [hf]
theorem cE_zr {S : Shp} {ad : Nat → Nat} {cA : Nat → ClassId} {s : Sto} {k0 k : Nat} (h : k ≠ k0) : cE S ad cA (zr s k0) k = cE S ad cA s k := by
  have e : ∀ i', zr s k0 k i' = s k i' := fun i' => zr_ne h
  have e2 : fV S ad (zr s k0) k = fV S ad s k := by
    funext i'
    unfold fV
    cases fr S k i' with
    | some _ => rfl
    | none => simp [e]
  unfold cE
  simp only [e, e2]
theorem wd_adq {n : Nat} {ad : Nat → Nat} {cA : Nat → ClassId} {s : Sto} {q : Nat} : wd (SL (n + 1)) (adq ad (190 + n) q) cA s = wd (SL n) ad cA s ++ [(q, cE (SL (n + 1)) (adq ad (190 + n) q) cA s (190 + n))] := by
  have hn : nc (SL (n + 1)) = nc (SL n) + 1 := rfl
  unfold wd
  rw [hn, List.range_succ, List.map_append]
  congr 1
  · apply List.map_congr_left
    intro k hk
    have hk' : k < 190 + n := List.mem_range.mp hk
    show (adq ad (190 + n) q k, _) = _
    rw [cE_adq hk', show adq ad (190 + n) q k = ad k from if_neg (by omega)]
  · show [(adq ad (190 + n) q (190 + n), _)] = _
    rw [show adq ad (190 + n) q (190 + n) = q from if_pos rfl]
    rfl
theorem g_newI {n cs ss pc npc : Nat} {M : Mth} {F : Option Value → Sto → Prop} {l : List (Nat × Value)} {st : List Value} {s : Sto} (hd : decode M.1 pc = .ok (.newarray .int, 2)) (hn : pc + 2 = npc) (hw : Cond.arrayClass .int ∈ TW) (hn9 : n < 100) (hR : cs + 1 ≤ M.2.2.2.2.cells ∧ ss + 8 ≤ M.2.2.2.2.slots) (hF : ∀ r s', F r s' → ∀ k : Nat, r ≠ some (.ref k)) (hl9 : ∀ q ∈ l, q.2 ≠ .ref (190 + n)) (hs9 : ∀ v ∈ st, v ≠ .ref (190 + n))
    (k : Go (SL (n + 1)) M F (cs + 1) (ss + 8) npc l (.ref (190 + n) :: st) (zr s (190 + n))) : Go (SL n) M F cs ss pc l (iV 8 :: st) s := by
  subst hn
  intro p lc e u m args below meth c D cA ad H locs ls A Z X hP hS hl
  obtain ⟨hx, hb, hret, hml, hown, hts, hlk, hK, hDJ, hN, hXS, hA, hA2, hRet⟩ := X
  refine va_newaK (N := 8) hx hb (atype := .int) (hts _ hw) rfl hd rfl (by decide) rfl (by decide) hR.1 hR.2 rfl fun H1 cA' e1 z1 o1 hAr hNm => ?_
  have hcA : cA' = cA 1 := by
    have h9 : u.vm.findClass ("[" ++ (FieldType.int).toString) = some (cA 1) := (hK.2 0 _ rfl).2
    exact Option.some.inj (hNm.symm.trans h9)
  subst hcA
  have hlt : ∀ k, k < 190 + n → ad k < H.size := fun k hk => (hP k _ (wd_at hk)).lt
  have hk9 : adq ad (190 + n) H.size (190 + n) = H.size := if_pos rfl
  have hko : ∀ k, k ≠ 190 + n → adq ad (190 + n) H.size k = ad k := fun k hk => if_neg hk
  have h20 : adq ad (190 + n) H.size 2000 = ad 2000 := hko 2000 (by omega)
  have hP1 : va_P D vwCl (wd (SL (n + 1)) (adq ad (190 + n) H.size) cA (zr s (190 + n))) H1 := by
    rw [wd_adq]
    have hw : wd (SL n) ad cA (zr s (190 + n)) = wd (SL n) ad cA s := by
      apply List.map_congr_left
      intro k hk
      have hk' : k < 190 + n := List.mem_range.mp hk
      rw [cE_zr (by omega)]
    rw [hw]
    refine (hP.kept (fun k x hx => o1 x.1 ((hP k x hx).lt))).app (fun k x hx => ?_)
    have hz : k < 1 := (List.getElem?_eq_some_iff.mp hx).1
    rw [show k = 0 by omega] at hx
    cases hx
    have hce : cE (SL (n + 1)) (adq ad (190 + n) H.size) cA (zr s (190 + n)) (190 + n) = .inl (cA 1, 8, .inl (fun _ => 0)) := by
      have h := (arX (n := n + 1) (k := 190 + n) (by omega) (by omega))
      unfold cE
      rw [h.2.1, h.2.2.1]
      simp only [zr_eq]
      rfl
    show va_at D vwCl (H.size, cE (SL (n + 1)) (adq ad (190 + n) H.size) cA (zr s (190 + n)) (190 + n)) H1
    rw [hce]
    exact e1
  have := k p lc e u m args below meth c D cA (adq ad (190 + n) H.size) H1 locs ls A Z ⟨hx, hb, hret, hml, hown, hts, hlk, hK, ?_, hN, ?_, ?_, hA2, ?_⟩ hP1 ⟨Nat.le_trans hS.1 (by omega), fun x h1 h2 => (o1 x (Nat.lt_of_lt_of_le h1 hS.1)).trans (hS.2.1 x h1 h2), hS.2.2⟩ (by rw [tl_adq hl9]; exact hl)
  · have es : ts (adq ad (190 + n) H.size) (.ref (190 + n) :: st) = .ref H.size :: ts ad st := by
      show tv _ _ :: ts _ st = _
      rw [ts_adq hs9]
      show Value.ref (adq ad (190 + n) H.size (190 + n)) :: _ = _
      rw [hk9]
    rw [es] at this
    exact this
  · intro i j hi hj eij
    have hi' : i < 190 + n + 1 := hi
    have hj' : j < 190 + n + 1 := hj
    by_cases ci : i = 190 + n
    · by_cases cj : j = 190 + n
      · omega
      · exfalso
        rw [ci, hk9, hko j cj] at eij
        have := hlt j (by omega)
        omega
    · by_cases cj : j = 190 + n
      · exfalso
        rw [cj, hk9, hko i ci] at eij
        have := hlt i (by omega)
        omega
      · rw [hko i ci, hko j cj] at eij
        exact hDJ i j (show i < 190 + n by omega) (show j < 190 + n by omega) eij
  · obtain ⟨L, xs, a1, a2, a3, a4⟩ := hXS
    exact ⟨L, xs, by rw [h20]; exact a1, a2, by rw [h20]; exact a3, by rw [h20]; exact a4⟩
  · intro k hk
    have hk' : k < 190 + n + 1 := hk
    by_cases ck : k = 190 + n
    · rw [ck, hk9]; exact hA2 _ hS.1
    · rw [hko k ck]; exact hA k (show k < 190 + n by omega)
  · intro H' locs' ls' pc' cs' ss' r s' hFr hP' hS' hr hc
    have es : ts (adq ad (190 + n) H.size) r.toList = ts ad r.toList := by
      apply ts_adq
      intro v hv
      cases r with
      | none => cases hv
      | some w =>
        have : v = w := by simpa using hv
        rw [this]
        exact fun e => hF _ _ hFr _ (by rw [e])
    rw [es]
    refine hRet H' locs' ls' pc' cs' ss' r s' hFr (fun k x hx => ?_) hS' hr hc
    rw [wd_adq] at hP'
    have hl := (List.getElem?_eq_some_iff.mp hx).1
    exact hP' k x (by rw [List.getElem?_append_left hl]; exact hx)
end
section
/-! the contracts and rooms of all methods -/
abbrev K_Gr_clear (n : Nat) (x1 : Int) (s : Sto) (Q : Sto → Prop) : Prop := SpV (SL n) yX2_clear (Cond.code yX2_clear cX2_clear 4 none) { frames := 0, cells := 0, slots := 0, locals := 0 } [.ref 1, iV x1] s Q
abbrev M_Gr_clear : Mth := (cX2_clear, RX2, 4, none, { frames := 0, cells := 0, slots := 0, locals := 0 })
abbrev K_Gr_append (n : Nat) (x1 : Int) (x2 : Int) (s : Sto) (Q : Sto → Prop) : Prop := SpV (SL n) yX2_append (Cond.code yX2_append cX2_append 3 none) { frames := 2, cells := 0, slots := 0, locals := 44 } [.ref 1, iV x1, iV x2] s Q
abbrev M_Gr_append : Mth := (cX2_append, RX2, 3, none, { frames := 2, cells := 0, slots := 0, locals := 44 })
abbrev K_Gr_hasNode (n : Nat) (x1 : Int) (s : Sto) (Q : Int → Sto → Prop) : Prop := SpI (SL n) yX2_hasNode (Cond.code yX2_hasNode cX2_hasNode 2 (some .boolean)) { frames := 0, cells := 0, slots := 0, locals := 0 } [.ref 1, iV x1] s Q
abbrev M_Gr_hasNode : Mth := (cX2_hasNode, RX2, 2, (some .boolean), { frames := 0, cells := 0, slots := 0, locals := 0 })
abbrev K_Gr_countJoining (n : Nat) (x1 : Int) (x2 : Int) (x3 : Int) (s : Sto) (Q : Sto → Prop) : Prop := SpV (SL n) yX2_countJoining (Cond.code yX2_countJoining cX2_countJoining 4 none) { frames := 1, cells := 0, slots := 0, locals := 21 } [.ref 1, iV x1, iV x2, iV x3] s Q
abbrev M_Gr_countJoining : Mth := (cX2_countJoining, RX2, 4, none, { frames := 1, cells := 0, slots := 0, locals := 21 })
abbrev K_Cg_reset (n : Nat) (x1 : Int) (s : Sto) (Q : Int → Sto → Prop) : Prop := SpI (SL n) yX10_reset (Cond.code yX10_reset cX10_reset 3 (some .int)) { frames := 3, cells := 0, slots := 0, locals := 62 } [.ref 0, iV x1] s Q
abbrev M_Cg_reset : Mth := (cX10_reset, RX10, 3, (some .int), { frames := 3, cells := 0, slots := 0, locals := 62 })
abbrev K_Cg_startAnew (n : Nat) (x1 : Int) (s : Sto) (Q : Sto → Prop) : Prop := SpV (SL n) yX10_startAnew (Cond.code yX10_startAnew cX10_startAnew 2 none) { frames := 2, cells := 0, slots := 0, locals := 41 } [.ref 0, iV x1] s Q
abbrev M_Cg_startAnew : Mth := (cX10_startAnew, RX10, 2, none, { frames := 2, cells := 0, slots := 0, locals := 41 })
abbrev K_Cg_clearChips (n : Nat) (k0 : Nat) (s : Sto) (Q : Sto → Prop) : Prop := SpV (SL n) yX10_clearChips (Cond.code yX10_clearChips cX10_clearChips 2 none) { frames := 0, cells := 0, slots := 0, locals := 0 } [.ref k0] s Q
abbrev M_Cg_clearChips : Mth := (cX10_clearChips, RX10, 2, none, { frames := 0, cells := 0, slots := 0, locals := 0 })
abbrev K_Cg_forgetStates (n : Nat) (s : Sto) (Q : Sto → Prop) : Prop := SpV (SL n) yX10_forgetStates (Cond.code yX10_forgetStates cX10_forgetStates 1 none) { frames := 1, cells := 0, slots := 0, locals := 21 } [.ref 0] s Q
abbrev M_Cg_forgetStates : Mth := (cX10_forgetStates, RX10, 1, none, { frames := 1, cells := 0, slots := 0, locals := 21 })
abbrev K_Hi_forgetAll (n : Nat) (s : Sto) (Q : Sto → Prop) : Prop := SpV (SL n) yX3_forgetAll (Cond.code yX3_forgetAll cX3_forgetAll 1 none) { frames := 0, cells := 0, slots := 0, locals := 0 } [.ref 17] s Q
abbrev M_Hi_forgetAll : Mth := (cX3_forgetAll, RX3, 1, none, { frames := 0, cells := 0, slots := 0, locals := 0 })
abbrev K_Sl_forgetAll (n : Nat) (s : Sto) (Q : Sto → Prop) : Prop := SpV (SL n) yX7_forgetAll (Cond.code yX7_forgetAll cX7_forgetAll 2 none) { frames := 0, cells := 0, slots := 0, locals := 0 } [.ref 31] s Q
abbrev M_Sl_forgetAll : Mth := (cX7_forgetAll, RX7, 2, none, { frames := 0, cells := 0, slots := 0, locals := 0 })
abbrev K_Cg_addEdge (n : Nat) (x1 : Int) (x2 : Int) (s : Sto) (Q : Int → Sto → Prop) : Prop := SpI (SL n) yX10_addEdge (Cond.code yX10_addEdge cX10_addEdge 3 (some .int)) { frames := 3, cells := 0, slots := 0, locals := 66 } [.ref 0, iV x1, iV x2] s Q
abbrev M_Cg_addEdge : Mth := (cX10_addEdge, RX10, 3, (some .int), { frames := 3, cells := 0, slots := 0, locals := 66 })
abbrev K_Cg_removeEdge (n : Nat) (x1 : Int) (s : Sto) (Q : Int → Sto → Prop) : Prop := SpI (SL n) yX10_removeEdge (Cond.code yX10_removeEdge cX10_removeEdge 2 (some .int)) { frames := 3, cells := 0, slots := 0, locals := 66 } [.ref 0, iV x1] s Q
abbrev M_Cg_removeEdge : Mth := (cX10_removeEdge, RX10, 2, (some .int), { frames := 3, cells := 0, slots := 0, locals := 66 })
abbrev K_Gr_hasEdge (n : Nat) (x1 : Int) (s : Sto) (Q : Int → Sto → Prop) : Prop := SpI (SL n) yX2_hasEdge (Cond.code yX2_hasEdge cX2_hasEdge 2 (some .boolean)) { frames := 0, cells := 0, slots := 0, locals := 0 } [.ref 1, iV x1] s Q
abbrev M_Gr_hasEdge : Mth := (cX2_hasEdge, RX2, 2, (some .boolean), { frames := 0, cells := 0, slots := 0, locals := 0 })
abbrev K_Gr_drop (n : Nat) (x1 : Int) (s : Sto) (Q : Sto → Prop) : Prop := SpV (SL n) yX2_drop (Cond.code yX2_drop cX2_drop 3 none) { frames := 2, cells := 0, slots := 0, locals := 44 } [.ref 1, iV x1] s Q
abbrev M_Gr_drop : Mth := (cX2_drop, RX2, 3, none, { frames := 2, cells := 0, slots := 0, locals := 44 })
abbrev K_Cg_setSink (n : Nat) (x1 : Int) (s : Sto) (Q : Int → Sto → Prop) : Prop := SpI (SL n) yX10_setSink (Cond.code yX10_setSink cX10_setSink 3 (some .int)) { frames := 2, cells := 0, slots := 0, locals := 41 } [.ref 0, iV x1] s Q
abbrev M_Cg_setSink : Mth := (cX10_setSink, RX10, 3, (some .int), { frames := 2, cells := 0, slots := 0, locals := 41 })
abbrev K_Cg_value (n : Nat) (x1 : Int) (s : Sto) (Q : Int → Sto → Prop) : Prop := SpI (SL n) yX10_value (Cond.code yX10_value cX10_value 2 (some .int)) { frames := 3, cells := 0, slots := 0, locals := 68 } [.ref 0, iV x1] s Q
abbrev M_Cg_value : Mth := (cX10_value, RX10, 2, (some .int), { frames := 3, cells := 0, slots := 0, locals := 68 })
abbrev K_Gr_isConnected (n : Nat) (s : Sto) (Q : Int → Sto → Prop) : Prop := SpI (SL n) yX2_isConnected (Cond.code yX2_isConnected cX2_isConnected 1 (some .boolean)) { frames := 2, cells := 0, slots := 0, locals := 48 } [.ref 1] s Q
abbrev M_Gr_isConnected : Mth := (cX2_isConnected, RX2, 1, (some .boolean), { frames := 2, cells := 0, slots := 0, locals := 48 })
abbrev K_Gr_allEdges (n : Nat) (s : Sto) (Q : Int → Sto → Prop) : Prop := SpI (SL n) yX2_allEdges (Cond.code yX2_allEdges cX2_allEdges 1 (some .int)) { frames := 0, cells := 0, slots := 0, locals := 0 } [.ref 1] s Q
abbrev M_Gr_allEdges : Mth := (cX2_allEdges, RX2, 1, (some .int), { frames := 0, cells := 0, slots := 0, locals := 0 })
abbrev K_Gr_findParts (n : Nat) (x1 : Int) (s : Sto) (Q : Int → Sto → Prop) : Prop := SpI (SL n) yX2_findParts (Cond.code yX2_findParts cX2_findParts 6 (some .int)) { frames := 1, cells := 0, slots := 0, locals := 23 } [.ref 1, iV x1] s Q
abbrev M_Gr_findParts : Mth := (cX2_findParts, RX2, 6, (some .int), { frames := 1, cells := 0, slots := 0, locals := 23 })
abbrev K_Gr_relabel (n : Nat) (x1 : Int) (x2 : Int) (s : Sto) (Q : Sto → Prop) : Prop := SpV (SL n) yX2_relabel (Cond.code yX2_relabel cX2_relabel 4 none) { frames := 0, cells := 0, slots := 0, locals := 0 } [.ref 1, iV x1, iV x2] s Q
abbrev M_Gr_relabel : Mth := (cX2_relabel, RX2, 4, none, { frames := 0, cells := 0, slots := 0, locals := 0 })
abbrev K_Cg_sumOf (n : Nat) (k0 : Nat) (s : Sto) (Q : Int → Sto → Prop) : Prop := SpI (SL n) yX10_sumOf (Cond.code yX10_sumOf cX10_sumOf 3 (some .int)) { frames := 0, cells := 0, slots := 0, locals := 0 } [.ref k0] s Q
abbrev M_Cg_sumOf : Mth := (cX10_sumOf, RX10, 3, (some .int), { frames := 0, cells := 0, slots := 0, locals := 0 })
abbrev K_Gr_edgesAwayFromSink (n : Nat) (s : Sto) (Q : Int → Sto → Prop) : Prop := SpI (SL n) yX2_edgesAwayFromSink (Cond.code yX2_edgesAwayFromSink cX2_edgesAwayFromSink 1 (some .int)) { frames := 2, cells := 0, slots := 0, locals := 42 } [.ref 1] s Q
abbrev M_Gr_edgesAwayFromSink : Mth := (cX2_edgesAwayFromSink, RX2, 1, (some .int), { frames := 2, cells := 0, slots := 0, locals := 42 })
abbrev K_Gr_degreeOf (n : Nat) (x1 : Int) (s : Sto) (Q : Int → Sto → Prop) : Prop := SpI (SL n) yX2_degreeOf (Cond.code yX2_degreeOf cX2_degreeOf 2 (some .int)) { frames := 1, cells := 0, slots := 0, locals := 21 } [.ref 1, iV x1] s Q
abbrev M_Gr_degreeOf : Mth := (cX2_degreeOf, RX2, 2, (some .int), { frames := 1, cells := 0, slots := 0, locals := 21 })
abbrev K_Cg_edge (n : Nat) (x1 : Int) (x2 : Int) (s : Sto) (Q : Int → Sto → Prop) : Prop := SpI (SL n) yX10_edge (Cond.code yX10_edge cX10_edge 3 (some .int)) { frames := 1, cells := 0, slots := 0, locals := 21 } [.ref 0, iV x1, iV x2] s Q
abbrev M_Cg_edge : Mth := (cX10_edge, RX10, 3, (some .int), { frames := 1, cells := 0, slots := 0, locals := 21 })
abbrev K_Cg_setChips (n : Nat) (x1 : Int) (x2 : Int) (s : Sto) (Q : Int → Sto → Prop) : Prop := SpI (SL n) yX10_setChips (Cond.code yX10_setChips cX10_setChips 4 (some .int)) { frames := 2, cells := 0, slots := 0, locals := 43 } [.ref 0, iV x1, iV x2] s Q
abbrev M_Cg_setChips : Mth := (cX10_setChips, RX10, 4, (some .int), { frames := 2, cells := 0, slots := 0, locals := 43 })
abbrev K_Gr_hasChipsAt (n : Nat) (x1 : Int) (s : Sto) (Q : Int → Sto → Prop) : Prop := SpI (SL n) yX2_hasChipsAt (Cond.code yX2_hasChipsAt cX2_hasChipsAt 2 (some .boolean)) { frames := 1, cells := 0, slots := 0, locals := 21 } [.ref 1, iV x1] s Q
abbrev M_Gr_hasChipsAt : Mth := (cX2_hasChipsAt, RX2, 2, (some .boolean), { frames := 1, cells := 0, slots := 0, locals := 21 })
abbrev K_Hi_record (n : Nat) (k1 : Nat) (s : Sto) (Q : Sto → Prop) : Prop := SpV (SL n) yX3_record (Cond.code yX3_record cX3_record 2 none) { frames := 1, cells := 0, slots := 0, locals := 22 } [.ref 17, .ref k1] s Q
abbrev M_Hi_record : Mth := (cX3_record, RX3, 2, none, { frames := 1, cells := 0, slots := 0, locals := 22 })
abbrev K_Cg_copyChips (n : Nat) (k0 : Nat) (k1 : Nat) (s : Sto) (Q : Sto → Prop) : Prop := SpV (SL n) yX10_copyChips (Cond.code yX10_copyChips cX10_copyChips 3 none) { frames := 0, cells := 0, slots := 0, locals := 0 } [.ref k0, .ref k1] s Q
abbrev M_Cg_copyChips : Mth := (cX10_copyChips, RX10, 3, none, { frames := 0, cells := 0, slots := 0, locals := 0 })
abbrev K_Cg_chips (n : Nat) (x1 : Int) (s : Sto) (Q : Int → Sto → Prop) : Prop := SpI (SL n) yX10_chips (Cond.code yX10_chips cX10_chips 2 (some .int)) { frames := 2, cells := 0, slots := 0, locals := 42 } [.ref 0, iV x1] s Q
abbrev M_Cg_chips : Mth := (cX10_chips, RX10, 2, (some .int), { frames := 2, cells := 0, slots := 0, locals := 42 })
abbrev K_Cg_kind (n : Nat) (s : Sto) (Q : Int → Sto → Prop) : Prop := SpI (SL n) yX10_kind (Cond.code yX10_kind cX10_kind 2 (some .int)) { frames := 5, cells := 0, slots := 0, locals := 111 } [.ref 0] s Q
abbrev M_Cg_kind : Mth := (cX10_kind, RX10, 2, (some .int), { frames := 5, cells := 0, slots := 0, locals := 111 })
abbrev K_Fi_isStable (n : Nat) (k1 : Nat) (s : Sto) (Q : Int → Sto → Prop) : Prop := SpI (SL n) yX1_isStable (Cond.code yX1_isStable cX1_isStable 3 (some .boolean)) { frames := 3, cells := 0, slots := 0, locals := 65 } [.ref 40, .ref k1] s Q
abbrev M_Fi_isStable : Mth := (cX1_isStable, RX1, 3, (some .boolean), { frames := 3, cells := 0, slots := 0, locals := 65 })
abbrev K_Fi_canFire (n : Nat) (k1 : Nat) (x2 : Int) (s : Sto) (Q : Int → Sto → Prop) : Prop := SpI (SL n) yX1_canFire (Cond.code yX1_canFire cX1_canFire 4 (some .boolean)) { frames := 2, cells := 0, slots := 0, locals := 42 } [.ref 40, .ref k1, iV x2] s Q
abbrev M_Fi_canFire : Mth := (cX1_canFire, RX1, 4, (some .boolean), { frames := 2, cells := 0, slots := 0, locals := 42 })
abbrev K_Cg_isRecurrent (n : Nat) (s : Sto) (Q : Int → Sto → Prop) : Prop := SpI (SL n) yX10_isRecurrent (Cond.code yX10_isRecurrent cX10_isRecurrent 1 (some .boolean)) { frames := 4, cells := 0, slots := 0, locals := 91 } [.ref 0] s Q
abbrev M_Cg_isRecurrent : Mth := (cX10_isRecurrent, RX10, 1, (some .boolean), { frames := 4, cells := 0, slots := 0, locals := 91 })
abbrev K_Bu_allBurn (n : Nat) (k1 : Nat) (s : Sto) (Q : Int → Sto → Prop) : Prop := SpI (SL n) yX0_allBurn (Cond.code yX0_allBurn cX0_allBurn 3 (some .boolean)) { frames := 3, cells := 0, slots := 0, locals := 69 } [.ref 37, .ref k1] s Q
abbrev M_Bu_allBurn : Mth := (cX0_allBurn, RX0, 3, (some .boolean), { frames := 3, cells := 0, slots := 0, locals := 69 })
abbrev K_Bu_spreadFire (n : Nat) (s : Sto) (Q : Int → Sto → Prop) : Prop := SpI (SL n) yX0_spreadFire (Cond.code yX0_spreadFire cX0_spreadFire 3 (some .boolean)) { frames := 2, cells := 0, slots := 0, locals := 47 } [.ref 37] s Q
abbrev M_Bu_spreadFire : Mth := (cX0_spreadFire, RX0, 3, (some .boolean), { frames := 2, cells := 0, slots := 0, locals := 47 })
abbrev K_Bu_burnRound (n : Nat) (x1 : Int) (s : Sto) (Q : Int → Sto → Prop) : Prop := SpI (SL n) yX0_burnRound (Cond.code yX0_burnRound cX0_burnRound 4 (some .int)) { frames := 1, cells := 0, slots := 0, locals := 24 } [.ref 37, iV x1] s Q
abbrev M_Bu_burnRound : Mth := (cX0_burnRound, RX0, 4, (some .int), { frames := 1, cells := 0, slots := 0, locals := 24 })
abbrev K_Bu_edgesToBurnt (n : Nat) (x1 : Int) (x2 : Int) (s : Sto) (Q : Int → Sto → Prop) : Prop := SpI (SL n) yX0_edgesToBurnt (Cond.code yX0_edgesToBurnt cX0_edgesToBurnt 5 (some .int)) { frames := 0, cells := 0, slots := 0, locals := 0 } [.ref 37, iV x1, iV x2] s Q
abbrev M_Bu_edgesToBurnt : Mth := (cX0_edgesToBurnt, RX0, 5, (some .int), { frames := 0, cells := 0, slots := 0, locals := 0 })
abbrev K_Bu_allBurnBySecondRule (n : Nat) (k1 : Nat) (s : Sto) (Q : Int → Sto → Prop) : Prop := SpI (SL n) yX0_allBurnBySecondRule (Cond.code yX0_allBurnBySecondRule cX0_allBurnBySecondRule 3 (some .boolean)) { frames := 3, cells := 0, slots := 0, locals := 69 } [.ref 37, .ref k1] s Q
abbrev M_Bu_allBurnBySecondRule : Mth := (cX0_allBurnBySecondRule, RX0, 3, (some .boolean), { frames := 3, cells := 0, slots := 0, locals := 69 })
abbrev K_Cg_undo (n : Nat) (s : Sto) (Q : Int → Sto → Prop) : Prop := SpI (SL n) yX10_undo (Cond.code yX10_undo cX10_undo 1 (some .int)) { frames := 2, cells := 0, slots := 0, locals := 43 } [.ref 0] s Q
abbrev M_Cg_undo : Mth := (cX10_undo, RX10, 1, (some .int), { frames := 2, cells := 0, slots := 0, locals := 43 })
abbrev K_Hi_takeBack (n : Nat) (k1 : Nat) (s : Sto) (Q : Sto → Prop) : Prop := SpV (SL n) yX3_takeBack (Cond.code yX3_takeBack cX3_takeBack 2 none) { frames := 1, cells := 0, slots := 0, locals := 22 } [.ref 17, .ref k1] s Q
abbrev M_Hi_takeBack : Mth := (cX3_takeBack, RX3, 2, none, { frames := 1, cells := 0, slots := 0, locals := 22 })
abbrev K_Cg_treeCount (n : Nat) (s : Sto) (Q : Int → Sto → Prop) : Prop := SpJ (SL n) yX10_treeCount (Cond.code yX10_treeCount cX10_treeCount 1 (some .long)) { frames := 5, cells := 0, slots := 0, locals := 110 } [.ref 0] s Q
abbrev M_Cg_treeCount : Mth := (cX10_treeCount, RX10, 1, (some .long), { frames := 5, cells := 0, slots := 0, locals := 110 })
abbrev K_Tr_count (n : Nat) (x1 : Int) (x2 : Int) (s : Sto) (Q : Int → Sto → Prop) : Prop := SpJ (SL n) yX9_count (Cond.code yX9_count cX9_count 3 (some .long)) { frames := 4, cells := 0, slots := 0, locals := 88 } [.ref 53, iV x1, iV x2] s Q
abbrev M_Tr_count : Mth := (cX9_count, RX9, 3, (some .long), { frames := 4, cells := 0, slots := 0, locals := 88 })
abbrev K_Ma_fill (n : Nat) (x1 : Int) (s : Sto) (Q : Sto → Prop) : Prop := SpV (SL n) yX5_fill (Cond.code yX5_fill cX5_fill 5 none) { frames := 3, cells := 0, slots := 0, locals := 64 } [.ref 42, iV x1] s Q
abbrev M_Ma_fill : Mth := (cX5_fill, RX5, 5, none, { frames := 3, cells := 0, slots := 0, locals := 64 })
abbrev K_Ma_isFree (n : Nat) (x1 : Int) (s : Sto) (Q : Int → Sto → Prop) : Prop := SpI (SL n) yX5_isFree (Cond.code yX5_isFree cX5_isFree 2 (some .boolean)) { frames := 1, cells := 0, slots := 0, locals := 21 } [.ref 42, iV x1] s Q
abbrev M_Ma_isFree : Mth := (cX5_isFree, RX5, 2, (some .boolean), { frames := 1, cells := 0, slots := 0, locals := 21 })
abbrev K_Ma_fillEdge (n : Nat) (x1 : Int) (x2 : Int) (s : Sto) (Q : Sto → Prop) : Prop := SpV (SL n) yX5_fillEdge (Cond.code yX5_fillEdge cX5_fillEdge 3 none) { frames := 2, cells := 0, slots := 0, locals := 42 } [.ref 42, iV x1, iV x2] s Q
abbrev M_Ma_fillEdge : Mth := (cX5_fillEdge, RX5, 3, none, { frames := 2, cells := 0, slots := 0, locals := 42 })
abbrev K_Ma_eliminate (n : Nat) (s : Sto) (Q : Int → Sto → Prop) : Prop := SpJ (SL n) yX5_eliminate (Cond.code yX5_eliminate cX5_eliminate 7 (some .long)) { frames := 1, cells := 0, slots := 0, locals := 29 } [.ref 42] s Q
abbrev M_Ma_eliminate : Mth := (cX5_eliminate, RX5, 7, (some .long), { frames := 1, cells := 0, slots := 0, locals := 29 })
abbrev K_Ma_combineRows (n : Nat) (x1 : Int) (x2 : Int) (x3 : Int) (s : Sto) (Q : Sto → Prop) : Prop := SpV (SL n) yX5_combineRows (Cond.code yX5_combineRows cX5_combineRows 10 none) { frames := 0, cells := 0, slots := 0, locals := 0 } [.ref 42, iV x1, iV x2, jV x3] s Q
abbrev M_Ma_combineRows : Mth := (cX5_combineRows, RX5, 10, none, { frames := 0, cells := 0, slots := 0, locals := 0 })
abbrev K_La_cell (n : Nat) (k0 : Nat) (x1 : Int) (s : Sto) (Q : Int → Sto → Prop) : Prop := SpI (SL n) yL_cell (Cond.code yL_cell cL_cell 2 (some .int)) { frames := 0, cells := 0, slots := 0, locals := 0 } [.ref k0, iV x1] s Q
abbrev M_La_cell : Mth := (cL_cell, RL, 2, (some .int), { frames := 0, cells := 0, slots := 0, locals := 0 })
abbrev K_La_low (n : Nat) (x0 : Int) (x1 : Int) (s : Sto) (Q : Int → Sto → Prop) : Prop := SpI (SL n) yL_low (Cond.code yL_low cL_low 2 (some .int)) { frames := 0, cells := 0, slots := 0, locals := 0 } [iV x0, iV x1] s Q
abbrev M_La_low : Mth := (cL_low, RL, 2, (some .int), { frames := 0, cells := 0, slots := 0, locals := 0 })
abbrev K_La_settles (n : Nat) (x1 : Int) (s : Sto) (Q : Int → Sto → Prop) : Prop := SpI (SL n) yL_settles (Cond.code yL_settles cL_settles 14 (some .boolean)) { frames := 7, cells := 4, slots := 32, locals := 155 } [.ref 0, iV x1] s Q
abbrev M_La_settles : Mth := (cL_settles, RL, 14, (some .boolean), { frames := 7, cells := 4, slots := 32, locals := 155 })
abbrev K_La_read (n : Nat) (k1 : Nat) (s : Sto) (Q : Sto → Prop) : Prop := SpV (SL n) yL_read (Cond.code yL_read cL_read 3 none) { frames := 4, cells := 0, slots := 0, locals := 89 } [.ref 0, .ref k1] s Q
abbrev M_La_read : Mth := (cL_read, RL, 3, none, { frames := 4, cells := 0, slots := 0, locals := 89 })
abbrev K_Cg_stabilize (n : Nat) (s : Sto) (Q : Int → Sto → Prop) : Prop := SpI (SL n) yX10_stabilize (Cond.code yX10_stabilize cX10_stabilize 1 (some .int)) { frames := 5, cells := 0, slots := 0, locals := 114 } [.ref 0] s Q
abbrev M_Cg_stabilize : Mth := (cX10_stabilize, RX10, 1, (some .int), { frames := 5, cells := 0, slots := 0, locals := 114 })
abbrev K_Fi_settle (n : Nat) (k1 : Nat) (s : Sto) (Q : Int → Sto → Prop) : Prop := SpI (SL n) yX1_settle (Cond.code yX1_settle cX1_settle 6 (some .int)) { frames := 4, cells := 0, slots := 0, locals := 89 } [.ref 40, .ref k1] s Q
abbrev M_Fi_settle : Mth := (cX1_settle, RX1, 6, (some .int), { frames := 4, cells := 0, slots := 0, locals := 89 })
abbrev K_Fi_fireWhilePossible (n : Nat) (k1 : Nat) (x2 : Int) (s : Sto) (Q : Int → Sto → Prop) : Prop := SpI (SL n) yX1_fireWhilePossible (Cond.code yX1_fireWhilePossible cX1_fireWhilePossible 5 (some .int)) { frames := 3, cells := 0, slots := 0, locals := 65 } [.ref 40, .ref k1, iV x2] s Q
abbrev M_Fi_fireWhilePossible : Mth := (cX1_fireWhilePossible, RX1, 5, (some .int), { frames := 3, cells := 0, slots := 0, locals := 65 })
abbrev K_Fi_give (n : Nat) (k1 : Nat) (x2 : Int) (x3 : Int) (s : Sto) (Q : Sto → Prop) : Prop := SpV (SL n) yX1_give (Cond.code yX1_give cX1_give 5 none) { frames := 1, cells := 0, slots := 0, locals := 25 } [.ref 40, .ref k1, iV x2, iV x3] s Q
abbrev M_Fi_give : Mth := (cX1_give, RX1, 5, none, { frames := 1, cells := 0, slots := 0, locals := 25 })
abbrev K_Fi_giveAlong (n : Nat) (k1 : Nat) (x2 : Int) (x3 : Int) (x4 : Int) (s : Sto) (Q : Sto → Prop) : Prop := SpV (SL n) yX1_giveAlong (Cond.code yX1_giveAlong cX1_giveAlong 6 none) { frames := 0, cells := 0, slots := 0, locals := 0 } [.ref 40, .ref k1, iV x2, iV x3, iV x4] s Q
abbrev M_Fi_giveAlong : Mth := (cX1_giveAlong, RX1, 6, none, { frames := 0, cells := 0, slots := 0, locals := 0 })
abbrev K_Cg_reduce (n : Nat) (s : Sto) (Q : Int → Sto → Prop) : Prop := SpI (SL n) yX10_reduce (Cond.code yX10_reduce cX10_reduce 1 (some .int)) { frames := 5, cells := 0, slots := 0, locals := 114 } [.ref 0] s Q
abbrev M_Cg_reduce : Mth := (cX10_reduce, RX10, 1, (some .int), { frames := 5, cells := 0, slots := 0, locals := 114 })
abbrev K_Fi_fireSets (n : Nat) (k1 : Nat) (s : Sto) (Q : Int → Sto → Prop) : Prop := SpI (SL n) yX1_fireSets (Cond.code yX1_fireSets cX1_fireSets 3 (some .int)) { frames := 4, cells := 0, slots := 0, locals := 91 } [.ref 40, .ref k1] s Q
abbrev M_Fi_fireSets : Mth := (cX1_fireSets, RX1, 3, (some .int), { frames := 4, cells := 0, slots := 0, locals := 91 })
abbrev K_Fi_fireUnburnt (n : Nat) (k1 : Nat) (s : Sto) (Q : Sto → Prop) : Prop := SpV (SL n) yX1_fireUnburnt (Cond.code yX1_fireUnburnt cX1_fireUnburnt 4 none) { frames := 2, cells := 0, slots := 0, locals := 42 } [.ref 40, .ref k1] s Q
abbrev M_Fi_fireUnburnt : Mth := (cX1_fireUnburnt, RX1, 4, none, { frames := 2, cells := 0, slots := 0, locals := 42 })
abbrev K_Bu_hasBurnt (n : Nat) (x1 : Int) (s : Sto) (Q : Int → Sto → Prop) : Prop := SpI (SL n) yX0_hasBurnt (Cond.code yX0_hasBurnt cX0_hasBurnt 2 (some .boolean)) { frames := 1, cells := 0, slots := 0, locals := 21 } [.ref 37, iV x1] s Q
abbrev M_Bu_hasBurnt : Mth := (cX0_hasBurnt, RX0, 2, (some .boolean), { frames := 1, cells := 0, slots := 0, locals := 21 })
abbrev K_Cg_makeRecurrent (n : Nat) (s : Sto) (Q : Int → Sto → Prop) : Prop := SpI (SL n) yX10_makeRecurrent (Cond.code yX10_makeRecurrent cX10_makeRecurrent 1 (some .int)) { frames := 6, cells := 0, slots := 0, locals := 135 } [.ref 0] s Q
abbrev M_Cg_makeRecurrent : Mth := (cX10_makeRecurrent, RX10, 1, (some .int), { frames := 6, cells := 0, slots := 0, locals := 135 })
abbrev K_Fi_toRecurrent (n : Nat) (k1 : Nat) (s : Sto) (Q : Sto → Prop) : Prop := SpV (SL n) yX1_toRecurrent (Cond.code yX1_toRecurrent cX1_toRecurrent 2 none) { frames := 5, cells := 0, slots := 0, locals := 114 } [.ref 40, .ref k1] s Q
abbrev M_Fi_toRecurrent : Mth := (cX1_toRecurrent, RX1, 2, none, { frames := 5, cells := 0, slots := 0, locals := 114 })
abbrev K_Fi_mirror (n : Nat) (k1 : Nat) (s : Sto) (Q : Sto → Prop) : Prop := SpV (SL n) yX1_mirror (Cond.code yX1_mirror cX1_mirror 3 none) { frames := 2, cells := 0, slots := 0, locals := 42 } [.ref 40, .ref k1] s Q
abbrev M_Fi_mirror : Mth := (cX1_mirror, RX1, 3, none, { frames := 2, cells := 0, slots := 0, locals := 42 })
abbrev K_Cg_isEqual (n : Nat) (k0 : Nat) (k1 : Nat) (s : Sto) (Q : Int → Sto → Prop) : Prop := SpI (SL n) yX10_isEqual (Cond.code yX10_isEqual cX10_isEqual 3 (some .boolean)) { frames := 0, cells := 0, slots := 0, locals := 0 } [.ref k0, .ref k1] s Q
abbrev M_Cg_isEqual : Mth := (cX10_isEqual, RX10, 3, (some .boolean), { frames := 0, cells := 0, slots := 0, locals := 0 })
abbrev K_Cg_order (n : Nat) (s : Sto) (Q : Int → Sto → Prop) : Prop := SpI (SL n) yX10_order (Cond.code yX10_order cX10_order 1 (some .int)) { frames := 6, cells := 0, slots := 0, locals := 134 } [.ref 0] s Q
abbrev M_Cg_order : Mth := (cX10_order, RX10, 1, (some .int), { frames := 6, cells := 0, slots := 0, locals := 134 })
abbrev K_Ma_orderOf (n : Nat) (k1 : Nat) (s : Sto) (Q : Int → Sto → Prop) : Prop := SpJ (SL n) yX5_orderOf (Cond.code yX5_orderOf cX5_orderOf 7 (some .long)) { frames := 5, cells := 0, slots := 0, locals := 108 } [.ref 42, .ref k1] s Q
abbrev M_Ma_orderOf : Mth := (cX5_orderOf, RX5, 7, (some .long), { frames := 5, cells := 0, slots := 0, locals := 108 })
abbrev K_Ma_fillWhole (n : Nat) (s : Sto) (Q : Sto → Prop) : Prop := SpV (SL n) yX5_fillWhole (Cond.code yX5_fillWhole cX5_fillWhole 1 none) { frames := 4, cells := 0, slots := 0, locals := 88 } [.ref 42] s Q
abbrev M_Ma_fillWhole : Mth := (cX5_fillWhole, RX5, 1, none, { frames := 4, cells := 0, slots := 0, locals := 88 })
abbrev K_Ma_commonDivisor (n : Nat) (x0 : Int) (x2 : Int) (s : Sto) (Q : Int → Sto → Prop) : Prop := SpJ (SL n) yX5_commonDivisor (Cond.code yX5_commonDivisor cX5_commonDivisor 11 (some .long)) { frames := 1, cells := 0, slots := 0, locals := 21 } [jV x0, jV x2] s Q
abbrev M_Ma_commonDivisor : Mth := (cX5_commonDivisor, RX5, 11, (some .long), { frames := 1, cells := 0, slots := 0, locals := 21 })
abbrev K_JM_abs (n : Nat) (x0 : Int) (s : Sto) (Q : Int → Sto → Prop) : Prop := SpJ (SL n) yJ9_abs_067f4 (Cond.code yJ9_abs_067f4 cJ9_abs_067f4 2 (some .long)) { frames := 0, cells := 0, slots := 0, locals := 0 } [jV x0] s Q
abbrev M_JM_abs : Mth := (cJ9_abs_067f4, RJ9, 2, (some .long), { frames := 0, cells := 0, slots := 0, locals := 0 })
abbrev K_Cg_factor (n : Nat) (x1 : Int) (s : Sto) (Q : Int → Sto → Prop) : Prop := SpJ (SL n) yX10_factor (Cond.code yX10_factor cX10_factor 2 (some .long)) { frames := 6, cells := 0, slots := 0, locals := 133 } [.ref 0, iV x1] s Q
abbrev M_Cg_factor : Mth := (cX10_factor, RX10, 2, (some .long), { frames := 6, cells := 0, slots := 0, locals := 133 })
abbrev K_Ma_findFactors (n : Nat) (s : Sto) (Q : Sto → Prop) : Prop := SpV (SL n) yX5_findFactors (Cond.code yX5_findFactors cX5_findFactors 6 none) { frames := 5, cells := 0, slots := 0, locals := 108 } [.ref 42] s Q
abbrev M_Ma_findFactors : Mth := (cX5_findFactors, RX5, 6, none, { frames := 5, cells := 0, slots := 0, locals := 108 })
abbrev K_JM_floorMod (n : Nat) (x0 : Int) (x2 : Int) (s : Sto) (Q : Int → Sto → Prop) : Prop := SpJ (SL n) yJ9_floorMod_f86c9 (Cond.code yJ9_floorMod_f86c9 cJ9_floorMod_f86c9 6 (some .long)) { frames := 0, cells := 0, slots := 0, locals := 0 } [jV x0, jV x2] s Q
abbrev M_JM_floorMod : Mth := (cJ9_floorMod_f86c9, RJ9, 6, (some .long), { frames := 0, cells := 0, slots := 0, locals := 0 })
abbrev K_Ma_clearAround (n : Nat) (x1 : Int) (x2 : Int) (s : Sto) (Q : Sto → Prop) : Prop := SpV (SL n) yX5_clearAround (Cond.code yX5_clearAround cX5_clearAround 7 none) { frames := 3, cells := 0, slots := 0, locals := 79 } [.ref 42, iV x1, jV x2] s Q
abbrev M_Ma_clearAround : Mth := (cX5_clearAround, RX5, 7, none, { frames := 3, cells := 0, slots := 0, locals := 79 })
abbrev K_Ma_bringLeastToCorner (n : Nat) (x1 : Int) (s : Sto) (Q : Int → Sto → Prop) : Prop := SpI (SL n) yX5_bringLeastToCorner (Cond.code yX5_bringLeastToCorner cX5_bringLeastToCorner 7 (some .boolean)) { frames := 1, cells := 0, slots := 0, locals := 25 } [.ref 42, iV x1] s Q
abbrev M_Ma_bringLeastToCorner : Mth := (cX5_bringLeastToCorner, RX5, 7, (some .boolean), { frames := 1, cells := 0, slots := 0, locals := 25 })
abbrev K_Ma_swapRows (n : Nat) (x1 : Int) (x2 : Int) (s : Sto) (Q : Sto → Prop) : Prop := SpV (SL n) yX5_swapRows (Cond.code yX5_swapRows cX5_swapRows 6 none) { frames := 0, cells := 0, slots := 0, locals := 0 } [.ref 42, iV x1, iV x2] s Q
abbrev M_Ma_swapRows : Mth := (cX5_swapRows, RX5, 6, none, { frames := 0, cells := 0, slots := 0, locals := 0 })
abbrev K_Ma_swapColumns (n : Nat) (x1 : Int) (x2 : Int) (s : Sto) (Q : Sto → Prop) : Prop := SpV (SL n) yX5_swapColumns (Cond.code yX5_swapColumns cX5_swapColumns 6 none) { frames := 0, cells := 0, slots := 0, locals := 0 } [.ref 42, iV x1, iV x2] s Q
abbrev M_Ma_swapColumns : Mth := (cX5_swapColumns, RX5, 6, none, { frames := 0, cells := 0, slots := 0, locals := 0 })
abbrev K_Ma_clearColumn (n : Nat) (x1 : Int) (x2 : Int) (s : Sto) (Q : Int → Sto → Prop) : Prop := SpI (SL n) yX5_clearColumn (Cond.code yX5_clearColumn cX5_clearColumn 8 (some .boolean)) { frames := 2, cells := 0, slots := 0, locals := 52 } [.ref 42, iV x1, jV x2] s Q
abbrev M_Ma_clearColumn : Mth := (cX5_clearColumn, RX5, 8, (some .boolean), { frames := 2, cells := 0, slots := 0, locals := 52 })
abbrev K_Ma_addRow (n : Nat) (x1 : Int) (x2 : Int) (x3 : Int) (x5 : Int) (s : Sto) (Q : Sto → Prop) : Prop := SpV (SL n) yX5_addRow (Cond.code yX5_addRow cX5_addRow 8 none) { frames := 1, cells := 0, slots := 0, locals := 25 } [.ref 42, iV x1, iV x2, jV x3, jV x5] s Q
abbrev M_Ma_addRow : Mth := (cX5_addRow, RX5, 8, none, { frames := 1, cells := 0, slots := 0, locals := 25 })
abbrev K_Ma_clearRow (n : Nat) (x1 : Int) (x2 : Int) (s : Sto) (Q : Int → Sto → Prop) : Prop := SpI (SL n) yX5_clearRow (Cond.code yX5_clearRow cX5_clearRow 8 (some .boolean)) { frames := 2, cells := 0, slots := 0, locals := 52 } [.ref 42, iV x1, jV x2] s Q
abbrev M_Ma_clearRow : Mth := (cX5_clearRow, RX5, 8, (some .boolean), { frames := 2, cells := 0, slots := 0, locals := 52 })
abbrev K_Ma_addColumn (n : Nat) (x1 : Int) (x2 : Int) (x3 : Int) (x5 : Int) (s : Sto) (Q : Sto → Prop) : Prop := SpV (SL n) yX5_addColumn (Cond.code yX5_addColumn cX5_addColumn 8 none) { frames := 1, cells := 0, slots := 0, locals := 25 } [.ref 42, iV x1, iV x2, jV x3, jV x5] s Q
abbrev M_Ma_addColumn : Mth := (cX5_addColumn, RX5, 8, none, { frames := 1, cells := 0, slots := 0, locals := 25 })
abbrev K_Ma_addUndividedRow (n : Nat) (x1 : Int) (x2 : Int) (s : Sto) (Q : Int → Sto → Prop) : Prop := SpI (SL n) yX5_addUndividedRow (Cond.code yX5_addUndividedRow cX5_addUndividedRow 8 (some .boolean)) { frames := 2, cells := 0, slots := 0, locals := 52 } [.ref 42, iV x1, jV x2] s Q
abbrev M_Ma_addUndividedRow : Mth := (cX5_addUndividedRow, RX5, 8, (some .boolean), { frames := 2, cells := 0, slots := 0, locals := 52 })
abbrev K_Cg_levelCount (n : Nat) (x1 : Int) (s : Sto) (Q : Int → Sto → Prop) : Prop := SpI (SL n) yX10_levelCount (Cond.code yX10_levelCount cX10_levelCount 2 (some .int)) { frames := 3, cells := 0, slots := 0, locals := 70 } [.ref 0, iV x1] s Q
abbrev M_Cg_levelCount : Mth := (cX10_levelCount, RX10, 2, (some .int), { frames := 3, cells := 0, slots := 0, locals := 70 })
abbrev K_Le_countAt (n : Nat) (x1 : Int) (s : Sto) (Q : Int → Sto → Prop) : Prop := SpJ (SL n) yX4_countAt (Cond.code yX4_countAt cX4_countAt 5 (some .long)) { frames := 2, cells := 0, slots := 0, locals := 46 } [.ref 55, iV x1] s Q
abbrev M_Le_countAt : Mth := (cX4_countAt, RX4, 5, (some .long), { frames := 2, cells := 0, slots := 0, locals := 46 })
abbrev K_Le_countEdgesInside (n : Nat) (s : Sto) (Q : Sto → Prop) : Prop := SpV (SL n) yX4_countEdgesInside (Cond.code yX4_countEdgesInside cX4_countEdgesInside 4 none) { frames := 0, cells := 0, slots := 0, locals := 0 } [.ref 55] s Q
abbrev M_Le_countEdgesInside : Mth := (cX4_countEdgesInside, RX4, 4, none, { frames := 0, cells := 0, slots := 0, locals := 0 })
abbrev K_Le_sumConnected (n : Nat) (x1 : Int) (s : Sto) (Q : Sto → Prop) : Prop := SpV (SL n) yX4_sumConnected (Cond.code yX4_sumConnected cX4_sumConnected 4 none) { frames := 1, cells := 0, slots := 0, locals := 23 } [.ref 55, iV x1] s Q
abbrev M_Le_sumConnected : Mth := (cX4_sumConnected, RX4, 4, none, { frames := 1, cells := 0, slots := 0, locals := 23 })
abbrev K_Le_subtractShifted (n : Nat) (k0 : Nat) (k1 : Nat) (x2 : Int) (s : Sto) (Q : Sto → Prop) : Prop := SpV (SL n) yX4_subtractShifted (Cond.code yX4_subtractShifted cX4_subtractShifted 4 none) { frames := 0, cells := 0, slots := 0, locals := 0 } [.ref k0, .ref k1, iV x2] s Q
abbrev M_Le_subtractShifted : Mth := (cX4_subtractShifted, RX4, 4, none, { frames := 0, cells := 0, slots := 0, locals := 0 })
abbrev K_Le_divideByYMinusOne (n : Nat) (s : Sto) (Q : Sto → Prop) : Prop := SpV (SL n) yX4_divideByYMinusOne (Cond.code yX4_divideByYMinusOne cX4_divideByYMinusOne 6 none) { frames := 0, cells := 0, slots := 0, locals := 0 } [.ref 55] s Q
abbrev M_Le_divideByYMinusOne : Mth := (cX4_divideByYMinusOne, RX4, 6, none, { frames := 0, cells := 0, slots := 0, locals := 0 })
abbrev K_Cg_tree (n : Nat) (s : Sto) (Q : Int → Sto → Prop) : Prop := SpI (SL n) yX10_tree (Cond.code yX10_tree cX10_tree 1 (some .int)) { frames := 5, cells := 0, slots := 0, locals := 111 } [.ref 0] s Q
abbrev M_Cg_tree : Mth := (cX10_tree, RX10, 1, (some .int), { frames := 5, cells := 0, slots := 0, locals := 111 })
abbrev K_Tr_treeOf (n : Nat) (k1 : Nat) (s : Sto) (Q : Int → Sto → Prop) : Prop := SpI (SL n) yX9_treeOf (Cond.code yX9_treeOf cX9_treeOf 8 (some .int)) { frames := 2, cells := 0, slots := 0, locals := 45 } [.ref 53, .ref k1] s Q
abbrev M_Tr_treeOf : Mth := (cX9_treeOf, RX9, 8, (some .int), { frames := 2, cells := 0, slots := 0, locals := 45 })
abbrev K_Tr_lowestBorderEdge (n : Nat) (x1 : Int) (x2 : Int) (s : Sto) (Q : Int → Sto → Prop) : Prop := SpI (SL n) yX9_lowestBorderEdge (Cond.code yX9_lowestBorderEdge cX9_lowestBorderEdge 5 (some .int)) { frames := 1, cells := 0, slots := 0, locals := 21 } [.ref 53, iV x1, iV x2] s Q
abbrev M_Tr_lowestBorderEdge : Mth := (cX9_lowestBorderEdge, RX9, 5, (some .int), { frames := 1, cells := 0, slots := 0, locals := 21 })
abbrev K_Tr_isIn (n : Nat) (x0 : Int) (x1 : Int) (s : Sto) (Q : Int → Sto → Prop) : Prop := SpI (SL n) yX9_isIn (Cond.code yX9_isIn cX9_isIn 2 (some .boolean)) { frames := 0, cells := 0, slots := 0, locals := 0 } [iV x0, iV x1] s Q
abbrev M_Tr_isIn : Mth := (cX9_isIn, RX9, 2, (some .boolean), { frames := 0, cells := 0, slots := 0, locals := 0 })
abbrev K_Tr_unmarkedEnd (n : Nat) (x1 : Int) (x2 : Int) (s : Sto) (Q : Int → Sto → Prop) : Prop := SpI (SL n) yX9_unmarkedEnd (Cond.code yX9_unmarkedEnd cX9_unmarkedEnd 3 (some .int)) { frames := 1, cells := 0, slots := 0, locals := 21 } [.ref 53, iV x1, iV x2] s Q
abbrev M_Tr_unmarkedEnd : Mth := (cX9_unmarkedEnd, RX9, 3, (some .int), { frames := 1, cells := 0, slots := 0, locals := 21 })
abbrev K_Cg_firings (n : Nat) (x1 : Int) (s : Sto) (Q : Int → Sto → Prop) : Prop := SpI (SL n) yX10_firings (Cond.code yX10_firings cX10_firings 2 (some .int)) { frames := 5, cells := 0, slots := 0, locals := 114 } [.ref 0, iV x1] s Q
abbrev M_Cg_firings : Mth := (cX10_firings, RX10, 2, (some .int), { frames := 5, cells := 0, slots := 0, locals := 114 })
abbrev K_Cg_degree (n : Nat) (x1 : Int) (s : Sto) (Q : Int → Sto → Prop) : Prop := SpI (SL n) yX10_degree (Cond.code yX10_degree cX10_degree 2 (some .int)) { frames := 2, cells := 0, slots := 0, locals := 42 } [.ref 0, iV x1] s Q
abbrev M_Cg_degree : Mth := (cX10_degree, RX10, 2, (some .int), { frames := 2, cells := 0, slots := 0, locals := 42 })
abbrev K_La_joins (n : Nat) (x1 : Int) (x2 : Int) (s : Sto) (Q : Int → Sto → Prop) : Prop := SpI (SL n) yL_joins (Cond.code yL_joins cL_joins 7 (some .int)) { frames := 4, cells := 0, slots := 0, locals := 89 } [.ref 0, iV x1, iV x2] s Q
abbrev M_La_joins : Mth := (cL_joins, RL, 7, (some .int), { frames := 4, cells := 0, slots := 0, locals := 89 })
abbrev K_Cg_fire (n : Nat) (x1 : Int) (s : Sto) (Q : Int → Sto → Prop) : Prop := SpI (SL n) yX10_fire (Cond.code yX10_fire cX10_fire 2 (some .int)) { frames := 3, cells := 0, slots := 0, locals := 65 } [.ref 0, iV x1] s Q
abbrev M_Cg_fire : Mth := (cX10_fire, RX10, 2, (some .int), { frames := 3, cells := 0, slots := 0, locals := 65 })
abbrev K_La_are (n : Nat) (k1 : Nat) (s : Sto) (Q : Int → Sto → Prop) : Prop := SpI (SL n) yL_are (Cond.code yL_are cL_are 3 (some .boolean)) { frames := 4, cells := 0, slots := 0, locals := 89 } [.ref 0, .ref k1] s Q
abbrev M_La_are : Mth := (cL_are, RL, 3, (some .boolean), { frames := 4, cells := 0, slots := 0, locals := 89 })
abbrev K_La_classes (n : Nat) (s : Sto) (Q : Int → Sto → Prop) : Prop := SpI (SL n) yL_classes (Cond.code yL_classes cL_classes 14 (some .boolean)) { frames := 7, cells := 3, slots := 24, locals := 156 } [.ref 0] s Q
abbrev M_La_classes : Mth := (cL_classes, RL, 14, (some .boolean), { frames := 7, cells := 3, slots := 24, locals := 156 })
abbrev K_Cg_keep (n : Nat) (x1 : Int) (s : Sto) (Q : Int → Sto → Prop) : Prop := SpI (SL n) yX10_keep (Cond.code yX10_keep cX10_keep 3 (some .int)) { frames := 2, cells := 0, slots := 0, locals := 44 } [.ref 0, iV x1] s Q
abbrev M_Cg_keep : Mth := (cX10_keep, RX10, 3, (some .int), { frames := 2, cells := 0, slots := 0, locals := 44 })
abbrev K_Sl_has (n : Nat) (x1 : Int) (s : Sto) (Q : Int → Sto → Prop) : Prop := SpI (SL n) yX7_has (Cond.code yX7_has cX7_has 2 (some .boolean)) { frames := 0, cells := 0, slots := 0, locals := 0 } [.ref 31, iV x1] s Q
abbrev M_Sl_has : Mth := (cX7_has, RX7, 2, (some .boolean), { frames := 0, cells := 0, slots := 0, locals := 0 })
abbrev K_Sl_isEmpty (n : Nat) (x1 : Int) (s : Sto) (Q : Int → Sto → Prop) : Prop := SpI (SL n) yX7_isEmpty (Cond.code yX7_isEmpty cX7_isEmpty 2 (some .boolean)) { frames := 1, cells := 0, slots := 0, locals := 21 } [.ref 31, iV x1] s Q
abbrev M_Sl_isEmpty : Mth := (cX7_isEmpty, RX7, 2, (some .boolean), { frames := 1, cells := 0, slots := 0, locals := 21 })
abbrev K_Sl_put (n : Nat) (x1 : Int) (k2 : Nat) (s : Sto) (Q : Sto → Prop) : Prop := SpV (SL n) yX7_put (Cond.code yX7_put cX7_put 3 none) { frames := 1, cells := 0, slots := 0, locals := 22 } [.ref 31, iV x1, .ref k2] s Q
abbrev M_Sl_put : Mth := (cX7_put, RX7, 3, none, { frames := 1, cells := 0, slots := 0, locals := 22 })
abbrev K_Cg_isSameClass (n : Nat) (x1 : Int) (s : Sto) (Q : Int → Sto → Prop) : Prop := SpI (SL n) yX10_isSameClass (Cond.code yX10_isSameClass cX10_isSameClass 2 (some .int)) { frames := 6, cells := 0, slots := 0, locals := 135 } [.ref 0, iV x1] s Q
abbrev M_Cg_isSameClass : Mth := (cX10_isSameClass, RX10, 2, (some .int), { frames := 6, cells := 0, slots := 0, locals := 135 })
abbrev K_Sl_copyTo (n : Nat) (x1 : Int) (k2 : Nat) (s : Sto) (Q : Sto → Prop) : Prop := SpV (SL n) yX7_copyTo (Cond.code yX7_copyTo cX7_copyTo 3 none) { frames := 1, cells := 0, slots := 0, locals := 22 } [.ref 31, iV x1, .ref k2] s Q
abbrev M_Sl_copyTo : Mth := (cX7_copyTo, RX7, 3, none, { frames := 1, cells := 0, slots := 0, locals := 22 })
abbrev K_La_lay (n : Nat) (k1 : Nat) (s : Sto) (Q : Sto → Prop) : Prop := SpV (SL n) yL_lay (Cond.code yL_lay cL_lay 3 none) { frames := 4, cells := 0, slots := 0, locals := 89 } [.ref 0, .ref k1] s Q
abbrev M_La_lay : Mth := (cL_lay, RL, 3, none, { frames := 4, cells := 0, slots := 0, locals := 89 })
abbrev K_Cg_level (n : Nat) (s : Sto) (Q : Int → Sto → Prop) : Prop := SpI (SL n) yX10_level (Cond.code yX10_level cX10_level 1 (some .int)) { frames := 5, cells := 0, slots := 0, locals := 111 } [.ref 0] s Q
abbrev M_Cg_level : Mth := (cX10_level, RX10, 1, (some .int), { frames := 5, cells := 0, slots := 0, locals := 111 })
abbrev K_Cg_takeTree (n : Nat) (x1 : Int) (s : Sto) (Q : Int → Sto → Prop) : Prop := SpI (SL n) yX10_takeTree (Cond.code yX10_takeTree cX10_takeTree 2 (some .int)) { frames := 3, cells := 0, slots := 0, locals := 72 } [.ref 0, iV x1] s Q
abbrev M_Cg_takeTree : Mth := (cX10_takeTree, RX10, 2, (some .int), { frames := 3, cells := 0, slots := 0, locals := 72 })
abbrev K_Gr_isSpanningTree (n : Nat) (x1 : Int) (s : Sto) (Q : Int → Sto → Prop) : Prop := SpI (SL n) yX2_isSpanningTree (Cond.code yX2_isSpanningTree cX2_isSpanningTree 2 (some .boolean)) { frames := 2, cells := 0, slots := 0, locals := 48 } [.ref 1, iV x1] s Q
abbrev M_Gr_isSpanningTree : Mth := (cX2_isSpanningTree, RX2, 2, (some .boolean), { frames := 2, cells := 0, slots := 0, locals := 48 })
abbrev K_JI_bitCount (n : Nat) (x0 : Int) (s : Sto) (Q : Int → Sto → Prop) : Prop := SpI (SL n) yJ6_bitCount_0f7a4 (Cond.code yJ6_bitCount_0f7a4 cJ6_bitCount_0f7a4 1 (some .int)) { frames := 0, cells := 0, slots := 0, locals := 0 } [iV x0] s Q
abbrev M_JI_bitCount : Mth := (cJ6_bitCount_0f7a4, RJ6, 1, (some .int), { frames := 0, cells := 0, slots := 0, locals := 0 })
abbrev K_Tr_toStateOf (n : Nat) (x1 : Int) (k2 : Nat) (s : Sto) (Q : Sto → Prop) : Prop := SpV (SL n) yX9_toStateOf (Cond.code yX9_toStateOf cX9_toStateOf 8 none) { frames := 2, cells := 0, slots := 0, locals := 45 } [.ref 53, iV x1, .ref k2] s Q
abbrev M_Tr_toStateOf : Mth := (cX9_toStateOf, RX9, 8, none, { frames := 2, cells := 0, slots := 0, locals := 45 })
abbrev K_Cg_identity (n : Nat) (x1 : Int) (s : Sto) (Q : Int → Sto → Prop) : Prop := SpI (SL n) yX10_identity (Cond.code yX10_identity cX10_identity 2 (some .int)) { frames := 6, cells := 0, slots := 0, locals := 135 } [.ref 0, iV x1] s Q
abbrev M_Cg_identity : Mth := (cX10_identity, RX10, 2, (some .int), { frames := 6, cells := 0, slots := 0, locals := 135 })
abbrev K_Cg_add (n : Nat) (x1 : Int) (s : Sto) (Q : Int → Sto → Prop) : Prop := SpI (SL n) yX10_add (Cond.code yX10_add cX10_add 3 (some .int)) { frames := 2, cells := 0, slots := 0, locals := 44 } [.ref 0, iV x1] s Q
abbrev M_Cg_add : Mth := (cX10_add, RX10, 3, (some .int), { frames := 2, cells := 0, slots := 0, locals := 44 })
abbrev K_La_sumOf (n : Nat) (k0 : Nat) (s : Sto) (Q : Int → Sto → Prop) : Prop := SpI (SL n) yL_sumOf (Cond.code yL_sumOf cL_sumOf 3 (some .int)) { frames := 0, cells := 0, slots := 0, locals := 0 } [.ref k0] s Q
abbrev M_La_sumOf : Mth := (cL_sumOf, RL, 3, (some .int), { frames := 0, cells := 0, slots := 0, locals := 0 })
abbrev K_La_group (n : Nat) (s : Sto) (Q : Int → Sto → Prop) : Prop := SpI (SL n) yL_group (Cond.code yL_group cL_group 13 (some .boolean)) { frames := 7, cells := 0, slots := 0, locals := 160 } [.ref 0] s Q
abbrev M_La_group : Mth := (cL_group, RL, 13, (some .boolean), { frames := 7, cells := 0, slots := 0, locals := 160 })
abbrev K_Cg_treeAt (n : Nat) (x1 : Int) (s : Sto) (Q : Int → Sto → Prop) : Prop := SpI (SL n) yX10_treeAt (Cond.code yX10_treeAt cX10_treeAt 2 (some .int)) { frames := 6, cells := 0, slots := 0, locals := 139 } [.ref 0, iV x1] s Q
abbrev M_Cg_treeAt : Mth := (cX10_treeAt, RX10, 2, (some .int), { frames := 6, cells := 0, slots := 0, locals := 139 })
abbrev K_Tr_treeNumbered (n : Nat) (x1 : Int) (s : Sto) (Q : Int → Sto → Prop) : Prop := SpI (SL n) yX9_treeNumbered (Cond.code yX9_treeNumbered cX9_treeNumbered 10 (some .int)) { frames := 5, cells := 0, slots := 0, locals := 110 } [.ref 53, iV x1] s Q
abbrev M_Tr_treeNumbered : Mth := (cX9_treeNumbered, RX9, 10, (some .int), { frames := 5, cells := 0, slots := 0, locals := 110 })
abbrev K_La_burning (n : Nat) (s : Sto) (Q : Int → Sto → Prop) : Prop := SpI (SL n) yL_burning (Cond.code yL_burning cL_burning 10 (some .boolean)) { frames := 6, cells := 0, slots := 0, locals := 132 } [.ref 0] s Q
abbrev M_La_burning : Mth := (cL_burning, RL, 10, (some .boolean), { frames := 6, cells := 0, slots := 0, locals := 132 })
abbrev K_Cg_burnt (n : Nat) (x1 : Int) (s : Sto) (Q : Int → Sto → Prop) : Prop := SpI (SL n) yX10_burnt (Cond.code yX10_burnt cX10_burnt 2 (some .int)) { frames := 4, cells := 0, slots := 0, locals := 91 } [.ref 0, iV x1] s Q
abbrev M_Cg_burnt : Mth := (cX10_burnt, RX10, 2, (some .int), { frames := 4, cells := 0, slots := 0, locals := 91 })
abbrev K_La_errors (n : Nat) (s : Sto) (Q : Int → Sto → Prop) : Prop := SpI (SL n) yL_errors (Cond.code yL_errors cL_errors 6 (some .boolean)) { frames := 7, cells := 0, slots := 0, locals := 156 } [.ref 0] s Q
abbrev M_La_errors : Mth := (cL_errors, RL, 6, (some .boolean), { frames := 7, cells := 0, slots := 0, locals := 156 })
abbrev K_Cg_load (n : Nat) (x1 : Int) (s : Sto) (Q : Int → Sto → Prop) : Prop := SpI (SL n) yX10_load (Cond.code yX10_load cX10_load 2 (some .int)) { frames := 2, cells := 0, slots := 0, locals := 44 } [.ref 0, iV x1] s Q
abbrev M_Cg_load : Mth := (cX10_load, RX10, 2, (some .int), { frames := 2, cells := 0, slots := 0, locals := 44 })
abbrev K_La_law (n : Nat) (k0 : Nat) (s : Sto) (Q : Int → Sto → Prop) : Prop := SpI (SL n) yL_law (Cond.code yL_law cL_law 13 ret) room_1 [.ref k0] s Q
abbrev M_La_law : Mth := (cL_law, RL, 13, ret, room_1)
theorem pf_Gr_9 {n cs ss : Nat} {M : Mth} {F : Option Value → Sto → Prop} {pc npc : Nat} {l : List (Nat × Value)} {st : List Value} {s : Sto} {x : Int} (hd : decode M.1 pc = .ok (.putfield 9, 3)) (hM : M.2.1 = RX2) (hn : pc + 3 = npc) (k' : Go (SL n) M F cs ss npc l st (up s 1 0 x)) : Go (SL n) M F cs ss pc l (iV x :: .ref 1 :: st) s := g_put (N := 8) (f := 0) tyX2 hd hn ⟨ltSL (by decide), rfl, rfl⟩ rfl inw_X2 tyX2_ok nmX2 (by decide) (by rw [hM]; exact tw_59) rfl rfl rfl ⟨rfl, rfl⟩ k'
theorem pf_Gr_15 {n cs ss : Nat} {M : Mth} {F : Option Value → Sto → Prop} {pc npc : Nat} {l : List (Nat × Value)} {st : List Value} {s : Sto} {x : Int} (hd : decode M.1 pc = .ok (.putfield 15, 3)) (hM : M.2.1 = RX2) (hn : pc + 3 = npc) (k' : Go (SL n) M F cs ss npc l st (up s 1 1 x)) : Go (SL n) M F cs ss pc l (iV x :: .ref 1 :: st) s := g_put (N := 8) (f := 1) tyX2 hd hn ⟨ltSL (by decide), rfl, rfl⟩ rfl inw_X2 tyX2_ok nmX2 (by decide) (by rw [hM]; exact tw_65) rfl rfl rfl ⟨rfl, rfl⟩ k'
theorem pf_Gr_18 {n cs ss : Nat} {M : Mth} {F : Option Value → Sto → Prop} {pc npc : Nat} {l : List (Nat × Value)} {st : List Value} {s : Sto} {x : Int} (hd : decode M.1 pc = .ok (.putfield 18, 3)) (hM : M.2.1 = RX2) (hn : pc + 3 = npc) (k' : Go (SL n) M F cs ss npc l st (up s 1 2 x)) : Go (SL n) M F cs ss pc l (iV x :: .ref 1 :: st) s := g_put (N := 8) (f := 2) tyX2 hd hn ⟨ltSL (by decide), rfl, rfl⟩ rfl inw_X2 tyX2_ok nmX2 (by decide) (by rw [hM]; exact tw_70) rfl rfl rfl ⟨rfl, rfl⟩ k'
theorem gf_Gr_33 {n cs ss : Nat} {M : Mth} {F : Option Value → Sto → Prop} {pc npc : Nat} {l : List (Nat × Value)} {st : List Value} {s : Sto} (hd : decode M.1 pc = .ok (.getfield 33, 3)) (hM : M.2.1 = RX2) (hn : pc + 3 = npc) (k' : Go (SL n) M F cs ss npc l (.ref 13 :: st) s) : Go (SL n) M F cs ss pc l (.ref 1 :: st) s := g_get (N := 8) (f := 6) hd hn ⟨ltSL (by decide), rfl, rfl⟩ rfl inw_X2 (by decide) (by rw [hM]; exact tw_89) rfl (Or.inr ⟨_, rfl, rfl⟩) k'
theorem gf_Gr_30 {n cs ss : Nat} {M : Mth} {F : Option Value → Sto → Prop} {pc npc : Nat} {l : List (Nat × Value)} {st : List Value} {s : Sto} (hd : decode M.1 pc = .ok (.getfield 30, 3)) (hM : M.2.1 = RX2) (hn : pc + 3 = npc) (k' : Go (SL n) M F cs ss npc l (.ref 4 :: st) s) : Go (SL n) M F cs ss pc l (.ref 1 :: st) s := g_get (N := 8) (f := 5) hd hn ⟨ltSL (by decide), rfl, rfl⟩ rfl inw_X2 (by decide) (by rw [hM]; exact tw_86) rfl (Or.inr ⟨_, rfl, rfl⟩) k'
theorem gf_Gr_9 {n cs ss : Nat} {M : Mth} {F : Option Value → Sto → Prop} {pc npc : Nat} {l : List (Nat × Value)} {st : List Value} {s : Sto} (hd : decode M.1 pc = .ok (.getfield 9, 3)) (hM : M.2.1 = RX2) (hn : pc + 3 = npc) (k' : Go (SL n) M F cs ss npc l (iV (s 1 0) :: st) s) : Go (SL n) M F cs ss pc l (.ref 1 :: st) s := g_get (N := 8) (f := 0) hd hn ⟨ltSL (by decide), rfl, rfl⟩ rfl inw_X2 (by decide) (by rw [hM]; exact tw_59) rfl (Or.inl ⟨rfl, rfl⟩) k'
theorem iv_Gr_39 {n cs ss : Nat} {M : Mth} {F : Option Value → Sto → Prop} {pc npc : Nat} {l : List (Nat × Value)} {st : List Value} {s : Sto} {x1 : Int} {Q : Int → Sto → Prop} (hd : decode M.1 pc = .ok (.invokevirtual 39, 3)) (hM : M.2.1 = RX2) (hn : pc + 3 = npc) (hcat : (st.map (fun v => v.category)).sum ≤ 8) (hR : 0 + 1 ≤ M.2.2.2.2.frames ∧ 8 + (2 + 11) + 0 ≤ M.2.2.2.2.locals) (hC : cs + 0 ≤ M.2.2.2.2.cells ∧ ss + 0 ≤ M.2.2.2.2.slots) (h : K_Gr_hasNode n x1 s Q) (k' : ∀ r s1, Q r s1 → Go (SL n) M F (cs + 0) (ss + 0) npc l (iV r :: st) s1) : Go (SL n) M F cs ss pc l (iV x1 :: .ref 1 :: st) s := g_callV (k := 1) (as := [iV x1]) (st := st) hd hn rfl ⟨ltSL (by decide), rfl⟩ rfl rfl (show okV M 39 RX2 yX2_hasNode cX2_hasNode 2 (some .boolean) 1 from ⟨⟨by rw [hM]; exact tw_262, tw_263, tw_264, tw_32, tw_265⟩, rfl, by decide, by decide, by decide +kernel⟩) rfl hcat hC hR h (fun r s1 h => by obtain ⟨x, rfl, h2⟩ := h; exact k' x s1 h2)
theorem gf_Gr_15 {n cs ss : Nat} {M : Mth} {F : Option Value → Sto → Prop} {pc npc : Nat} {l : List (Nat × Value)} {st : List Value} {s : Sto} (hd : decode M.1 pc = .ok (.getfield 15, 3)) (hM : M.2.1 = RX2) (hn : pc + 3 = npc) (k' : Go (SL n) M F cs ss npc l (iV (s 1 1) :: st) s) : Go (SL n) M F cs ss pc l (.ref 1 :: st) s := g_get (N := 8) (f := 1) hd hn ⟨ltSL (by decide), rfl, rfl⟩ rfl inw_X2 (by decide) (by rw [hM]; exact tw_65) rfl (Or.inl ⟨rfl, rfl⟩) k'
theorem gf_Gr_21 {n cs ss : Nat} {M : Mth} {F : Option Value → Sto → Prop} {pc npc : Nat} {l : List (Nat × Value)} {st : List Value} {s : Sto} (hd : decode M.1 pc = .ok (.getfield 21, 3)) (hM : M.2.1 = RX2) (hn : pc + 3 = npc) (k' : Go (SL n) M F cs ss npc l (.ref 2 :: st) s) : Go (SL n) M F cs ss pc l (.ref 1 :: st) s := g_get (N := 8) (f := 3) hd hn ⟨ltSL (by decide), rfl, rfl⟩ rfl inw_X2 (by decide) (by rw [hM]; exact tw_76) rfl (Or.inr ⟨_, rfl, rfl⟩) k'
theorem gf_Gr_25 {n cs ss : Nat} {M : Mth} {F : Option Value → Sto → Prop} {pc npc : Nat} {l : List (Nat × Value)} {st : List Value} {s : Sto} (hd : decode M.1 pc = .ok (.getfield 25, 3)) (hM : M.2.1 = RX2) (hn : pc + 3 = npc) (k' : Go (SL n) M F cs ss npc l (.ref 3 :: st) s) : Go (SL n) M F cs ss pc l (.ref 1 :: st) s := g_get (N := 8) (f := 4) hd hn ⟨ltSL (by decide), rfl, rfl⟩ rfl inw_X2 (by decide) (by rw [hM]; exact tw_81) rfl (Or.inr ⟨_, rfl, rfl⟩) k'
theorem iv_Gr_43 {n cs ss : Nat} {M : Mth} {F : Option Value → Sto → Prop} {pc npc : Nat} {l : List (Nat × Value)} {st : List Value} {s : Sto} {x1 : Int} {x2 : Int} {x3 : Int} {Q : Sto → Prop} (hd : decode M.1 pc = .ok (.invokevirtual 43, 3)) (hM : M.2.1 = RX2) (hn : pc + 3 = npc) (hcat : (st.map (fun v => v.category)).sum ≤ 8) (hR : 1 + 1 ≤ M.2.2.2.2.frames ∧ 8 + (4 + 11) + 21 ≤ M.2.2.2.2.locals) (hC : cs + 0 ≤ M.2.2.2.2.cells ∧ ss + 0 ≤ M.2.2.2.2.slots) (h : K_Gr_countJoining n x1 x2 x3 s Q) (k' : ∀ s1, Q s1 → Go (SL n) M F (cs + 0) (ss + 0) npc l st s1) : Go (SL n) M F cs ss pc l (iV x3 :: iV x2 :: iV x1 :: .ref 1 :: st) s := g_callV (k := 1) (as := [iV x1, iV x2, iV x3]) (st := st) hd hn rfl ⟨ltSL (by decide), rfl⟩ rfl rfl (show okV M 43 RX2 yX2_countJoining cX2_countJoining 4 none 3 from ⟨⟨by rw [hM]; exact tw_266, tw_268, tw_0, tw_32, tw_269⟩, rfl, by decide, by decide, by decide +kernel⟩) rfl hcat hC hR h (fun r s1 h => by obtain ⟨rfl, h2⟩ := h; exact k' s1 h2)
theorem pf_Hi_9 {n cs ss : Nat} {M : Mth} {F : Option Value → Sto → Prop} {pc npc : Nat} {l : List (Nat × Value)} {st : List Value} {s : Sto} {x : Int} (hd : decode M.1 pc = .ok (.putfield 9, 3)) (hM : M.2.1 = RX3) (hn : pc + 3 = npc) (k' : Go (SL n) M F cs ss npc l st (up s 17 0 x)) : Go (SL n) M F cs ss pc l (iV x :: .ref 17 :: st) s := g_put (N := 3) (f := 0) tyX3 hd hn ⟨ltSL (by decide), rfl, rfl⟩ rfl inw_X3 tyX3_ok nmX3 (by decide) (by rw [hM]; exact tw_131) rfl rfl rfl ⟨rfl, rfl⟩ k'
theorem pf_Hi_15 {n cs ss : Nat} {M : Mth} {F : Option Value → Sto → Prop} {pc npc : Nat} {l : List (Nat × Value)} {st : List Value} {s : Sto} {x : Int} (hd : decode M.1 pc = .ok (.putfield 15, 3)) (hM : M.2.1 = RX3) (hn : pc + 3 = npc) (k' : Go (SL n) M F cs ss npc l st (up s 17 1 x)) : Go (SL n) M F cs ss pc l (iV x :: .ref 17 :: st) s := g_put (N := 3) (f := 1) tyX3 hd hn ⟨ltSL (by decide), rfl, rfl⟩ rfl inw_X3 tyX3_ok nmX3 (by decide) (by rw [hM]; exact tw_133) rfl rfl rfl ⟨rfl, rfl⟩ k'
theorem gf_Sl_9 {n cs ss : Nat} {M : Mth} {F : Option Value → Sto → Prop} {pc npc : Nat} {l : List (Nat × Value)} {st : List Value} {s : Sto} (hd : decode M.1 pc = .ok (.getfield 9, 3)) (hM : M.2.1 = RX7) (hn : pc + 3 = npc) (k' : Go (SL n) M F cs ss npc l (.ref 32 :: st) s) : Go (SL n) M F cs ss pc l (.ref 31 :: st) s := g_get (N := 2) (f := 0) hd hn ⟨ltSL (by decide), rfl, rfl⟩ rfl inw_X7 (by decide) (by rw [hM]; exact tw_149) rfl (Or.inr ⟨_, rfl, rfl⟩) k'
theorem gf_Cg_28 {n cs ss : Nat} {M : Mth} {F : Option Value → Sto → Prop} {pc npc : Nat} {l : List (Nat × Value)} {st : List Value} {s : Sto} (hd : decode M.1 pc = .ok (.getfield 28, 3)) (hM : M.2.1 = RX10) (hn : pc + 3 = npc) (k' : Go (SL n) M F cs ss npc l (.ref 17 :: st) s) : Go (SL n) M F cs ss pc l (.ref 0 :: st) s := g_get (N := 12) (f := 2) hd hn ⟨ltSL (by decide), rfl, rfl⟩ rfl inw_X10 (by decide) (by rw [hM]; exact tw_272) rfl (Or.inr ⟨_, rfl, rfl⟩) k'
theorem iv_Cg_279 {n cs ss : Nat} {M : Mth} {F : Option Value → Sto → Prop} {pc npc : Nat} {l : List (Nat × Value)} {st : List Value} {s : Sto} {Q : Sto → Prop} (hd : decode M.1 pc = .ok (.invokevirtual 279, 3)) (hM : M.2.1 = RX10) (hn : pc + 3 = npc) (hcat : (st.map (fun v => v.category)).sum ≤ 8) (hR : 0 + 1 ≤ M.2.2.2.2.frames ∧ 8 + (1 + 11) + 0 ≤ M.2.2.2.2.locals) (hC : cs + 0 ≤ M.2.2.2.2.cells ∧ ss + 0 ≤ M.2.2.2.2.slots) (h : K_Hi_forgetAll n s Q) (k' : ∀ s1, Q s1 → Go (SL n) M F (cs + 0) (ss + 0) npc l st s1) : Go (SL n) M F cs ss pc l (.ref 17 :: st) s := g_callV (k := 17) (as := []) (st := st) hd hn rfl ⟨ltSL (by decide), rfl⟩ rfl rfl (show okV M 279 RX3 yX3_forgetAll cX3_forgetAll 1 none 0 from ⟨⟨by rw [hM]; exact tw_322, tw_323, tw_324, tw_34, tw_325⟩, rfl, by decide, by decide, by decide +kernel⟩) rfl hcat hC hR h (fun r s1 h => by obtain ⟨rfl, h2⟩ := h; exact k' s1 h2)
theorem gf_Cg_35 {n cs ss : Nat} {M : Mth} {F : Option Value → Sto → Prop} {pc npc : Nat} {l : List (Nat × Value)} {st : List Value} {s : Sto} (hd : decode M.1 pc = .ok (.getfield 35, 3)) (hM : M.2.1 = RX10) (hn : pc + 3 = npc) (k' : Go (SL n) M F cs ss npc l (.ref 31 :: st) s) : Go (SL n) M F cs ss pc l (.ref 0 :: st) s := g_get (N := 12) (f := 3) hd hn ⟨ltSL (by decide), rfl, rfl⟩ rfl inw_X10 (by decide) (by rw [hM]; exact tw_273) rfl (Or.inr ⟨_, rfl, rfl⟩) k'
theorem iv_Cg_282 {n cs ss : Nat} {M : Mth} {F : Option Value → Sto → Prop} {pc npc : Nat} {l : List (Nat × Value)} {st : List Value} {s : Sto} {Q : Sto → Prop} (hd : decode M.1 pc = .ok (.invokevirtual 282, 3)) (hM : M.2.1 = RX10) (hn : pc + 3 = npc) (hcat : (st.map (fun v => v.category)).sum ≤ 8) (hR : 0 + 1 ≤ M.2.2.2.2.frames ∧ 8 + (2 + 11) + 0 ≤ M.2.2.2.2.locals) (hC : cs + 0 ≤ M.2.2.2.2.cells ∧ ss + 0 ≤ M.2.2.2.2.slots) (h : K_Sl_forgetAll n s Q) (k' : ∀ s1, Q s1 → Go (SL n) M F (cs + 0) (ss + 0) npc l st s1) : Go (SL n) M F cs ss pc l (.ref 31 :: st) s := g_callV (k := 31) (as := []) (st := st) hd hn rfl ⟨ltSL (by decide), rfl⟩ rfl rfl (show okV M 282 RX7 yX7_forgetAll cX7_forgetAll 2 none 0 from ⟨⟨by rw [hM]; exact tw_326, tw_327, tw_328, tw_35, tw_329⟩, rfl, by decide, by decide, by decide +kernel⟩) rfl hcat hC hR h (fun r s1 h => by obtain ⟨rfl, h2⟩ := h; exact k' s1 h2)
theorem gf_Cg_12 {n cs ss : Nat} {M : Mth} {F : Option Value → Sto → Prop} {pc npc : Nat} {l : List (Nat × Value)} {st : List Value} {s : Sto} (hd : decode M.1 pc = .ok (.getfield 12, 3)) (hM : M.2.1 = RX10) (hn : pc + 3 = npc) (k' : Go (SL n) M F cs ss npc l (.ref 1 :: st) s) : Go (SL n) M F cs ss pc l (.ref 0 :: st) s := g_get (N := 12) (f := 0) hd hn ⟨ltSL (by decide), rfl, rfl⟩ rfl inw_X10 (by decide) (by rw [hM]; exact tw_270) rfl (Or.inr ⟨_, rfl, rfl⟩) k'
theorem iv_Cg_90 {n cs ss : Nat} {M : Mth} {F : Option Value → Sto → Prop} {pc npc : Nat} {l : List (Nat × Value)} {st : List Value} {s : Sto} {x1 : Int} {Q : Sto → Prop} (hd : decode M.1 pc = .ok (.invokevirtual 90, 3)) (hM : M.2.1 = RX10) (hn : pc + 3 = npc) (hcat : (st.map (fun v => v.category)).sum ≤ 8) (hR : 0 + 1 ≤ M.2.2.2.2.frames ∧ 8 + (4 + 11) + 0 ≤ M.2.2.2.2.locals) (hC : cs + 0 ≤ M.2.2.2.2.cells ∧ ss + 0 ≤ M.2.2.2.2.slots) (h : K_Gr_clear n x1 s Q) (k' : ∀ s1, Q s1 → Go (SL n) M F (cs + 0) (ss + 0) npc l st s1) : Go (SL n) M F cs ss pc l (iV x1 :: .ref 1 :: st) s := g_callV (k := 1) (as := [iV x1]) (st := st) hd hn rfl ⟨ltSL (by decide), rfl⟩ rfl rfl (show okV M 90 RX2 yX2_clear cX2_clear 4 none 1 from ⟨⟨by rw [hM]; exact tw_254, tw_255, tw_256, tw_32, tw_257⟩, rfl, by decide, by decide, by decide +kernel⟩) rfl hcat hC hR h (fun r s1 h => by obtain ⟨rfl, h2⟩ := h; exact k' s1 h2)
theorem gf_Cg_80 {n cs ss : Nat} {M : Mth} {F : Option Value → Sto → Prop} {pc npc : Nat} {l : List (Nat × Value)} {st : List Value} {s : Sto} (hd : decode M.1 pc = .ok (.getfield 80, 3)) (hM : M.2.1 = RX10) (hn : pc + 3 = npc) (k' : Go (SL n) M F cs ss npc l (.ref 187 :: st) s) : Go (SL n) M F cs ss pc l (.ref 0 :: st) s := g_get (N := 12) (f := 9) hd hn ⟨ltSL (by decide), rfl, rfl⟩ rfl inw_X10 (by decide) (by rw [hM]; exact tw_279) rfl (Or.inr ⟨_, rfl, rfl⟩) k'
theorem iv_Cg_244 {n cs ss : Nat} {M : Mth} {F : Option Value → Sto → Prop} {pc npc : Nat} {l : List (Nat × Value)} {st : List Value} {s : Sto} {k0 : Nat} {Q : Sto → Prop} (hd : decode M.1 pc = .ok (.invokestatic 244, 3)) (hM : M.2.1 = RX10) (hn : pc + 3 = npc) (hcat : (st.map (fun v => v.category)).sum ≤ 8) (hR : 0 + 1 ≤ M.2.2.2.2.frames ∧ 8 + (2 + 11) + 0 ≤ M.2.2.2.2.locals) (hC : cs + 0 ≤ M.2.2.2.2.cells ∧ ss + 0 ≤ M.2.2.2.2.slots) (h : K_Cg_clearChips n k0 s Q) (k' : ∀ s1, Q s1 → Go (SL n) M F (cs + 0) (ss + 0) npc l st s1) : Go (SL n) M F cs ss pc l (.ref k0 :: st) s := g_callS (as := [.ref k0]) (st := st) hd hn rfl (show okS M 244 yX10_clearChips cX10_clearChips 2 none 1 from ⟨⟨by rw [hM]; exact tw_315, tw_316, tw_31, tw_317⟩, by decide, by decide, by decide +kernel⟩) rfl hcat hC hR h (fun r s1 h => by obtain ⟨rfl, h2⟩ := h; exact k' s1 h2)
theorem iv_Cg_112 {n cs ss : Nat} {M : Mth} {F : Option Value → Sto → Prop} {pc npc : Nat} {l : List (Nat × Value)} {st : List Value} {s : Sto} {Q : Sto → Prop} (hd : decode M.1 pc = .ok (.invokevirtual 112, 3)) (hM : M.2.1 = RX10) (hn : pc + 3 = npc) (hcat : (st.map (fun v => v.category)).sum ≤ 8) (hR : 1 + 1 ≤ M.2.2.2.2.frames ∧ 8 + (1 + 11) + 21 ≤ M.2.2.2.2.locals) (hC : cs + 0 ≤ M.2.2.2.2.cells ∧ ss + 0 ≤ M.2.2.2.2.slots) (h : K_Cg_forgetStates n s Q) (k' : ∀ s1, Q s1 → Go (SL n) M F (cs + 0) (ss + 0) npc l st s1) : Go (SL n) M F cs ss pc l (.ref 0 :: st) s := g_callV (k := 0) (as := []) (st := st) hd hn rfl ⟨ltSL (by decide), rfl⟩ rfl rfl (show okV M 112 RX10 yX10_forgetStates cX10_forgetStates 1 none 0 from ⟨⟨by rw [hM]; exact tw_318, tw_320, tw_2, tw_31, tw_321⟩, rfl, by decide, by decide, by decide +kernel⟩) rfl hcat hC hR h (fun r s1 h => by obtain ⟨rfl, h2⟩ := h; exact k' s1 h2)
theorem gf_Cg_98 {n cs ss : Nat} {M : Mth} {F : Option Value → Sto → Prop} {pc npc : Nat} {l : List (Nat × Value)} {st : List Value} {s : Sto} (hd : decode M.1 pc = .ok (.getfield 98, 3)) (hM : M.2.1 = RX10) (hn : pc + 3 = npc) (k' : Go (SL n) M F cs ss npc l (iV (s 1 0) :: st) s) : Go (SL n) M F cs ss pc l (.ref 1 :: st) s := g_get (N := 8) (f := 0) hd hn ⟨ltSL (by decide), rfl, rfl⟩ rfl inw_X2 (by decide) (by rw [hM]; exact tw_61) rfl (Or.inl ⟨rfl, rfl⟩) k'
theorem iv_Cg_102 {n cs ss : Nat} {M : Mth} {F : Option Value → Sto → Prop} {pc npc : Nat} {l : List (Nat × Value)} {st : List Value} {s : Sto} {x1 : Int} {Q : Sto → Prop} (hd : decode M.1 pc = .ok (.invokevirtual 102, 3)) (hM : M.2.1 = RX10) (hn : pc + 3 = npc) (hcat : (st.map (fun v => v.category)).sum ≤ 8) (hR : 2 + 1 ≤ M.2.2.2.2.frames ∧ 8 + (2 + 11) + 41 ≤ M.2.2.2.2.locals) (hC : cs + 0 ≤ M.2.2.2.2.cells ∧ ss + 0 ≤ M.2.2.2.2.slots) (h : K_Cg_startAnew n x1 s Q) (k' : ∀ s1, Q s1 → Go (SL n) M F (cs + 0) (ss + 0) npc l st s1) : Go (SL n) M F cs ss pc l (iV x1 :: .ref 0 :: st) s := g_callV (k := 0) (as := [iV x1]) (st := st) hd hn rfl ⟨ltSL (by decide), rfl⟩ rfl rfl (show okV M 102 RX10 yX10_startAnew cX10_startAnew 2 none 1 from ⟨⟨by rw [hM]; exact tw_311, tw_313, tw_1, tw_31, tw_314⟩, rfl, by decide, by decide, by decide +kernel⟩) rfl hcat hC hR h (fun r s1 h => by obtain ⟨rfl, h2⟩ := h; exact k' s1 h2)
theorem iv_Cg_105 {n cs ss : Nat} {M : Mth} {F : Option Value → Sto → Prop} {pc npc : Nat} {l : List (Nat × Value)} {st : List Value} {s : Sto} {x1 : Int} {Q : Int → Sto → Prop} (hd : decode M.1 pc = .ok (.invokevirtual 105, 3)) (hM : M.2.1 = RX10) (hn : pc + 3 = npc) (hcat : (st.map (fun v => v.category)).sum ≤ 8) (hR : 0 + 1 ≤ M.2.2.2.2.frames ∧ 8 + (2 + 11) + 0 ≤ M.2.2.2.2.locals) (hC : cs + 0 ≤ M.2.2.2.2.cells ∧ ss + 0 ≤ M.2.2.2.2.slots) (h : K_Gr_hasNode n x1 s Q) (k' : ∀ r s1, Q r s1 → Go (SL n) M F (cs + 0) (ss + 0) npc l (iV r :: st) s1) : Go (SL n) M F cs ss pc l (iV x1 :: .ref 1 :: st) s := g_callV (k := 1) (as := [iV x1]) (st := st) hd hn rfl ⟨ltSL (by decide), rfl⟩ rfl rfl (show okV M 105 RX2 yX2_hasNode cX2_hasNode 2 (some .boolean) 1 from ⟨⟨by rw [hM]; exact tw_334, tw_263, tw_264, tw_32, tw_265⟩, rfl, by decide, by decide, by decide +kernel⟩) rfl hcat hC hR h (fun r s1 h => by obtain ⟨x, rfl, h2⟩ := h; exact k' x s1 h2)
theorem gf_Cg_109 {n cs ss : Nat} {M : Mth} {F : Option Value → Sto → Prop} {pc npc : Nat} {l : List (Nat × Value)} {st : List Value} {s : Sto} (hd : decode M.1 pc = .ok (.getfield 109, 3)) (hM : M.2.1 = RX10) (hn : pc + 3 = npc) (k' : Go (SL n) M F cs ss npc l (iV (s 1 1) :: st) s) : Go (SL n) M F cs ss pc l (.ref 1 :: st) s := g_get (N := 8) (f := 1) hd hn ⟨ltSL (by decide), rfl, rfl⟩ rfl inw_X2 (by decide) (by rw [hM]; exact tw_69) rfl (Or.inl ⟨rfl, rfl⟩) k'
theorem iv_Cg_94 {n cs ss : Nat} {M : Mth} {F : Option Value → Sto → Prop} {pc npc : Nat} {l : List (Nat × Value)} {st : List Value} {s : Sto} {x1 : Int} {x2 : Int} {Q : Sto → Prop} (hd : decode M.1 pc = .ok (.invokevirtual 94, 3)) (hM : M.2.1 = RX10) (hn : pc + 3 = npc) (hcat : (st.map (fun v => v.category)).sum ≤ 8) (hR : 2 + 1 ≤ M.2.2.2.2.frames ∧ 8 + (3 + 11) + 44 ≤ M.2.2.2.2.locals) (hC : cs + 0 ≤ M.2.2.2.2.cells ∧ ss + 0 ≤ M.2.2.2.2.slots) (h : K_Gr_append n x1 x2 s Q) (k' : ∀ s1, Q s1 → Go (SL n) M F (cs + 0) (ss + 0) npc l st s1) : Go (SL n) M F cs ss pc l (iV x2 :: iV x1 :: .ref 1 :: st) s := g_callV (k := 1) (as := [iV x1, iV x2]) (st := st) hd hn rfl ⟨ltSL (by decide), rfl⟩ rfl rfl (show okV M 94 RX2 yX2_append cX2_append 3 none 2 from ⟨⟨by rw [hM]; exact tw_258, tw_259, tw_260, tw_32, tw_261⟩, rfl, by decide, by decide, by decide +kernel⟩) rfl hcat hC hR h (fun r s1 h => by obtain ⟨rfl, h2⟩ := h; exact k' s1 h2)
theorem iv_Gr_47 {n cs ss : Nat} {M : Mth} {F : Option Value → Sto → Prop} {pc npc : Nat} {l : List (Nat × Value)} {st : List Value} {s : Sto} {x1 : Int} {Q : Int → Sto → Prop} (hd : decode M.1 pc = .ok (.invokevirtual 47, 3)) (hM : M.2.1 = RX2) (hn : pc + 3 = npc) (hcat : (st.map (fun v => v.category)).sum ≤ 8) (hR : 0 + 1 ≤ M.2.2.2.2.frames ∧ 8 + (2 + 11) + 0 ≤ M.2.2.2.2.locals) (hC : cs + 0 ≤ M.2.2.2.2.cells ∧ ss + 0 ≤ M.2.2.2.2.slots) (h : K_Gr_hasEdge n x1 s Q) (k' : ∀ r s1, Q r s1 → Go (SL n) M F (cs + 0) (ss + 0) npc l (iV r :: st) s1) : Go (SL n) M F cs ss pc l (iV x1 :: .ref 1 :: st) s := g_callV (k := 1) (as := [iV x1]) (st := st) hd hn rfl ⟨ltSL (by decide), rfl⟩ rfl rfl (show okV M 47 RX2 yX2_hasEdge cX2_hasEdge 2 (some .boolean) 1 from ⟨⟨by rw [hM]; exact tw_347, tw_340, tw_341, tw_32, tw_342⟩, rfl, by decide, by decide, by decide +kernel⟩) rfl hcat hC hR h (fun r s1 h => by obtain ⟨x, rfl, h2⟩ := h; exact k' x s1 h2)
theorem iv_Cg_115 {n cs ss : Nat} {M : Mth} {F : Option Value → Sto → Prop} {pc npc : Nat} {l : List (Nat × Value)} {st : List Value} {s : Sto} {x1 : Int} {Q : Int → Sto → Prop} (hd : decode M.1 pc = .ok (.invokevirtual 115, 3)) (hM : M.2.1 = RX10) (hn : pc + 3 = npc) (hcat : (st.map (fun v => v.category)).sum ≤ 8) (hR : 0 + 1 ≤ M.2.2.2.2.frames ∧ 8 + (2 + 11) + 0 ≤ M.2.2.2.2.locals) (hC : cs + 0 ≤ M.2.2.2.2.cells ∧ ss + 0 ≤ M.2.2.2.2.slots) (h : K_Gr_hasEdge n x1 s Q) (k' : ∀ r s1, Q r s1 → Go (SL n) M F (cs + 0) (ss + 0) npc l (iV r :: st) s1) : Go (SL n) M F cs ss pc l (iV x1 :: .ref 1 :: st) s := g_callV (k := 1) (as := [iV x1]) (st := st) hd hn rfl ⟨ltSL (by decide), rfl⟩ rfl rfl (show okV M 115 RX2 yX2_hasEdge cX2_hasEdge 2 (some .boolean) 1 from ⟨⟨by rw [hM]; exact tw_339, tw_340, tw_341, tw_32, tw_342⟩, rfl, by decide, by decide, by decide +kernel⟩) rfl hcat hC hR h (fun r s1 h => by obtain ⟨x, rfl, h2⟩ := h; exact k' x s1 h2)
theorem iv_Cg_118 {n cs ss : Nat} {M : Mth} {F : Option Value → Sto → Prop} {pc npc : Nat} {l : List (Nat × Value)} {st : List Value} {s : Sto} {x1 : Int} {Q : Sto → Prop} (hd : decode M.1 pc = .ok (.invokevirtual 118, 3)) (hM : M.2.1 = RX10) (hn : pc + 3 = npc) (hcat : (st.map (fun v => v.category)).sum ≤ 8) (hR : 2 + 1 ≤ M.2.2.2.2.frames ∧ 8 + (3 + 11) + 44 ≤ M.2.2.2.2.locals) (hC : cs + 0 ≤ M.2.2.2.2.cells ∧ ss + 0 ≤ M.2.2.2.2.slots) (h : K_Gr_drop n x1 s Q) (k' : ∀ s1, Q s1 → Go (SL n) M F (cs + 0) (ss + 0) npc l st s1) : Go (SL n) M F cs ss pc l (iV x1 :: .ref 1 :: st) s := g_callV (k := 1) (as := [iV x1]) (st := st) hd hn rfl ⟨ltSL (by decide), rfl⟩ rfl rfl (show okV M 118 RX2 yX2_drop cX2_drop 3 none 1 from ⟨⟨by rw [hM]; exact tw_343, tw_344, tw_345, tw_32, tw_346⟩, rfl, by decide, by decide, by decide +kernel⟩) rfl hcat hC hR h (fun r s1 h => by obtain ⟨rfl, h2⟩ := h; exact k' s1 h2)
theorem gf_Cg_121 {n cs ss : Nat} {M : Mth} {F : Option Value → Sto → Prop} {pc npc : Nat} {l : List (Nat × Value)} {st : List Value} {s : Sto} (hd : decode M.1 pc = .ok (.getfield 121, 3)) (hM : M.2.1 = RX10) (hn : pc + 3 = npc) (k' : Go (SL n) M F cs ss npc l (iV (s 1 2) :: st) s) : Go (SL n) M F cs ss pc l (.ref 1 :: st) s := g_get (N := 8) (f := 2) hd hn ⟨ltSL (by decide), rfl, rfl⟩ rfl inw_X2 (by decide) (by rw [hM]; exact tw_73) rfl (Or.inl ⟨rfl, rfl⟩) k'
theorem pf_Cg_121 {n cs ss : Nat} {M : Mth} {F : Option Value → Sto → Prop} {pc npc : Nat} {l : List (Nat × Value)} {st : List Value} {s : Sto} {x : Int} (hd : decode M.1 pc = .ok (.putfield 121, 3)) (hM : M.2.1 = RX10) (hn : pc + 3 = npc) (k' : Go (SL n) M F cs ss npc l st (up s 1 2 x)) : Go (SL n) M F cs ss pc l (iV x :: .ref 1 :: st) s := g_put (N := 8) (f := 2) tyX2 hd hn ⟨ltSL (by decide), rfl, rfl⟩ rfl inw_X2 tyX2_ok nmX2 (by decide) (by rw [hM]; exact tw_73) rfl rfl rfl ⟨rfl, rfl⟩ k'
theorem gf_Gr_36 {n cs ss : Nat} {M : Mth} {F : Option Value → Sto → Prop} {pc npc : Nat} {l : List (Nat × Value)} {st : List Value} {s : Sto} (hd : decode M.1 pc = .ok (.getfield 36, 3)) (hM : M.2.1 = RX2) (hn : pc + 3 = npc) (k' : Go (SL n) M F cs ss npc l (.ref 14 :: st) s) : Go (SL n) M F cs ss pc l (.ref 1 :: st) s := g_get (N := 8) (f := 7) hd hn ⟨ltSL (by decide), rfl, rfl⟩ rfl inw_X2 (by decide) (by rw [hM]; exact tw_90) rfl (Or.inr ⟨_, rfl, rfl⟩) k'
theorem iv_Gr_66 {n cs ss : Nat} {M : Mth} {F : Option Value → Sto → Prop} {pc npc : Nat} {l : List (Nat × Value)} {st : List Value} {s : Sto} {x1 : Int} {x2 : Int} {Q : Sto → Prop} (hd : decode M.1 pc = .ok (.invokevirtual 66, 3)) (hM : M.2.1 = RX2) (hn : pc + 3 = npc) (hcat : (st.map (fun v => v.category)).sum ≤ 8) (hR : 0 + 1 ≤ M.2.2.2.2.frames ∧ 8 + (4 + 11) + 0 ≤ M.2.2.2.2.locals) (hC : cs + 0 ≤ M.2.2.2.2.cells ∧ ss + 0 ≤ M.2.2.2.2.slots) (h : K_Gr_relabel n x1 x2 s Q) (k' : ∀ s1, Q s1 → Go (SL n) M F (cs + 0) (ss + 0) npc l st s1) : Go (SL n) M F cs ss pc l (iV x2 :: iV x1 :: .ref 1 :: st) s := g_callV (k := 1) (as := [iV x1, iV x2]) (st := st) hd hn rfl ⟨ltSL (by decide), rfl⟩ rfl rfl (show okV M 66 RX2 yX2_relabel cX2_relabel 4 none 2 from ⟨⟨by rw [hM]; exact tw_368, tw_370, tw_3, tw_32, tw_371⟩, rfl, by decide, by decide, by decide +kernel⟩) rfl hcat hC hR h (fun r s1 h => by obtain ⟨rfl, h2⟩ := h; exact k' s1 h2)
theorem iv_Gr_54 {n cs ss : Nat} {M : Mth} {F : Option Value → Sto → Prop} {pc npc : Nat} {l : List (Nat × Value)} {st : List Value} {s : Sto} {Q : Int → Sto → Prop} (hd : decode M.1 pc = .ok (.invokevirtual 54, 3)) (hM : M.2.1 = RX2) (hn : pc + 3 = npc) (hcat : (st.map (fun v => v.category)).sum ≤ 8) (hR : 0 + 1 ≤ M.2.2.2.2.frames ∧ 8 + (1 + 11) + 0 ≤ M.2.2.2.2.locals) (hC : cs + 0 ≤ M.2.2.2.2.cells ∧ ss + 0 ≤ M.2.2.2.2.slots) (h : K_Gr_allEdges n s Q) (k' : ∀ r s1, Q r s1 → Go (SL n) M F (cs + 0) (ss + 0) npc l (iV r :: st) s1) : Go (SL n) M F cs ss pc l (.ref 1 :: st) s := g_callV (k := 1) (as := []) (st := st) hd hn rfl ⟨ltSL (by decide), rfl⟩ rfl rfl (show okV M 54 RX2 yX2_allEdges cX2_allEdges 1 (some .int) 0 from ⟨⟨by rw [hM]; exact tw_360, tw_361, tw_362, tw_32, tw_363⟩, rfl, by decide, by decide, by decide +kernel⟩) rfl hcat hC hR h (fun r s1 h => by obtain ⟨x, rfl, h2⟩ := h; exact k' x s1 h2)
theorem iv_Gr_58 {n cs ss : Nat} {M : Mth} {F : Option Value → Sto → Prop} {pc npc : Nat} {l : List (Nat × Value)} {st : List Value} {s : Sto} {x1 : Int} {Q : Int → Sto → Prop} (hd : decode M.1 pc = .ok (.invokevirtual 58, 3)) (hM : M.2.1 = RX2) (hn : pc + 3 = npc) (hcat : (st.map (fun v => v.category)).sum ≤ 8) (hR : 1 + 1 ≤ M.2.2.2.2.frames ∧ 8 + (6 + 11) + 23 ≤ M.2.2.2.2.locals) (hC : cs + 0 ≤ M.2.2.2.2.cells ∧ ss + 0 ≤ M.2.2.2.2.slots) (h : K_Gr_findParts n x1 s Q) (k' : ∀ r s1, Q r s1 → Go (SL n) M F (cs + 0) (ss + 0) npc l (iV r :: st) s1) : Go (SL n) M F cs ss pc l (iV x1 :: .ref 1 :: st) s := g_callV (k := 1) (as := [iV x1]) (st := st) hd hn rfl ⟨ltSL (by decide), rfl⟩ rfl rfl (show okV M 58 RX2 yX2_findParts cX2_findParts 6 (some .int) 1 from ⟨⟨by rw [hM]; exact tw_364, tw_365, tw_366, tw_32, tw_367⟩, rfl, by decide, by decide, by decide +kernel⟩) rfl hcat hC hR h (fun r s1 h => by obtain ⟨x, rfl, h2⟩ := h; exact k' x s1 h2)
theorem gf_Gr_18 {n cs ss : Nat} {M : Mth} {F : Option Value → Sto → Prop} {pc npc : Nat} {l : List (Nat × Value)} {st : List Value} {s : Sto} (hd : decode M.1 pc = .ok (.getfield 18, 3)) (hM : M.2.1 = RX2) (hn : pc + 3 = npc) (k' : Go (SL n) M F cs ss npc l (iV (s 1 2) :: st) s) : Go (SL n) M F cs ss pc l (.ref 1 :: st) s := g_get (N := 8) (f := 2) hd hn ⟨ltSL (by decide), rfl, rfl⟩ rfl inw_X2 (by decide) (by rw [hM]; exact tw_70) rfl (Or.inl ⟨rfl, rfl⟩) k'
theorem iv_Gr_50 {n cs ss : Nat} {M : Mth} {F : Option Value → Sto → Prop} {pc npc : Nat} {l : List (Nat × Value)} {st : List Value} {s : Sto} {x1 : Int} {Q : Int → Sto → Prop} (hd : decode M.1 pc = .ok (.invokevirtual 50, 3)) (hM : M.2.1 = RX2) (hn : pc + 3 = npc) (hcat : (st.map (fun v => v.category)).sum ≤ 8) (hR : 1 + 1 ≤ M.2.2.2.2.frames ∧ 8 + (2 + 11) + 21 ≤ M.2.2.2.2.locals) (hC : cs + 0 ≤ M.2.2.2.2.cells ∧ ss + 0 ≤ M.2.2.2.2.slots) (h : K_Gr_degreeOf n x1 s Q) (k' : ∀ r s1, Q r s1 → Go (SL n) M F (cs + 0) (ss + 0) npc l (iV r :: st) s1) : Go (SL n) M F cs ss pc l (iV x1 :: .ref 1 :: st) s := g_callV (k := 1) (as := [iV x1]) (st := st) hd hn rfl ⟨ltSL (by decide), rfl⟩ rfl rfl (show okV M 50 RX2 yX2_degreeOf cX2_degreeOf 2 (some .int) 1 from ⟨⟨by rw [hM]; exact tw_379, tw_380, tw_381, tw_32, tw_382⟩, rfl, by decide, by decide, by decide +kernel⟩) rfl hcat hC hR h (fun r s1 h => by obtain ⟨x, rfl, h2⟩ := h; exact k' x s1 h2)
theorem iv_Cg_147 {n cs ss : Nat} {M : Mth} {F : Option Value → Sto → Prop} {pc npc : Nat} {l : List (Nat × Value)} {st : List Value} {s : Sto} {Q : Int → Sto → Prop} (hd : decode M.1 pc = .ok (.invokevirtual 147, 3)) (hM : M.2.1 = RX10) (hn : pc + 3 = npc) (hcat : (st.map (fun v => v.category)).sum ≤ 8) (hR : 2 + 1 ≤ M.2.2.2.2.frames ∧ 8 + (1 + 11) + 48 ≤ M.2.2.2.2.locals) (hC : cs + 0 ≤ M.2.2.2.2.cells ∧ ss + 0 ≤ M.2.2.2.2.slots) (h : K_Gr_isConnected n s Q) (k' : ∀ r s1, Q r s1 → Go (SL n) M F (cs + 0) (ss + 0) npc l (iV r :: st) s1) : Go (SL n) M F cs ss pc l (.ref 1 :: st) s := g_callV (k := 1) (as := []) (st := st) hd hn rfl ⟨ltSL (by decide), rfl⟩ rfl rfl (show okV M 147 RX2 yX2_isConnected cX2_isConnected 1 (some .boolean) 0 from ⟨⟨by rw [hM]; exact tw_356, tw_357, tw_358, tw_32, tw_359⟩, rfl, by decide, by decide, by decide +kernel⟩) rfl hcat hC hR h (fun r s1 h => by obtain ⟨x, rfl, h2⟩ := h; exact k' x s1 h2)
theorem iv_Cg_151 {n cs ss : Nat} {M : Mth} {F : Option Value → Sto → Prop} {pc npc : Nat} {l : List (Nat × Value)} {st : List Value} {s : Sto} {k0 : Nat} {Q : Int → Sto → Prop} (hd : decode M.1 pc = .ok (.invokestatic 151, 3)) (hM : M.2.1 = RX10) (hn : pc + 3 = npc) (hcat : (st.map (fun v => v.category)).sum ≤ 8) (hR : 0 + 1 ≤ M.2.2.2.2.frames ∧ 8 + (3 + 11) + 0 ≤ M.2.2.2.2.locals) (hC : cs + 0 ≤ M.2.2.2.2.cells ∧ ss + 0 ≤ M.2.2.2.2.slots) (h : K_Cg_sumOf n k0 s Q) (k' : ∀ r s1, Q r s1 → Go (SL n) M F (cs + 0) (ss + 0) npc l (iV r :: st) s1) : Go (SL n) M F cs ss pc l (.ref k0 :: st) s := g_callS (as := [.ref k0]) (st := st) hd hn rfl (show okS M 151 yX10_sumOf cX10_sumOf 3 (some .int) 1 from ⟨⟨by rw [hM]; exact tw_372, tw_373, tw_31, tw_374⟩, by decide, by decide, by decide +kernel⟩) rfl hcat hC hR h (fun r s1 h => by obtain ⟨x, rfl, h2⟩ := h; exact k' x s1 h2)
theorem gf_Cg_155 {n cs ss : Nat} {M : Mth} {F : Option Value → Sto → Prop} {pc npc : Nat} {l : List (Nat × Value)} {st : List Value} {s : Sto} (hd : decode M.1 pc = .ok (.getfield 155, 3)) (hM : M.2.1 = RX10) (hn : pc + 3 = npc) (k' : Go (SL n) M F cs ss npc l (iV (s 17 0) :: st) s) : Go (SL n) M F cs ss pc l (.ref 17 :: st) s := g_get (N := 3) (f := 0) hd hn ⟨ltSL (by decide), rfl, rfl⟩ rfl inw_X3 (by decide) (by rw [hM]; exact tw_132) rfl (Or.inl ⟨rfl, rfl⟩) k'
theorem iv_Cg_158 {n cs ss : Nat} {M : Mth} {F : Option Value → Sto → Prop} {pc npc : Nat} {l : List (Nat × Value)} {st : List Value} {s : Sto} {Q : Int → Sto → Prop} (hd : decode M.1 pc = .ok (.invokevirtual 158, 3)) (hM : M.2.1 = RX10) (hn : pc + 3 = npc) (hcat : (st.map (fun v => v.category)).sum ≤ 8) (hR : 2 + 1 ≤ M.2.2.2.2.frames ∧ 8 + (1 + 11) + 42 ≤ M.2.2.2.2.locals) (hC : cs + 0 ≤ M.2.2.2.2.cells ∧ ss + 0 ≤ M.2.2.2.2.slots) (h : K_Gr_edgesAwayFromSink n s Q) (k' : ∀ r s1, Q r s1 → Go (SL n) M F (cs + 0) (ss + 0) npc l (iV r :: st) s1) : Go (SL n) M F cs ss pc l (.ref 1 :: st) s := g_callV (k := 1) (as := []) (st := st) hd hn rfl ⟨ltSL (by decide), rfl⟩ rfl rfl (show okV M 158 RX2 yX2_edgesAwayFromSink cX2_edgesAwayFromSink 1 (some .int) 0 from ⟨⟨by rw [hM]; exact tw_375, tw_376, tw_377, tw_32, tw_378⟩, rfl, by decide, by decide, by decide +kernel⟩) rfl hcat hC hR h (fun r s1 h => by obtain ⟨x, rfl, h2⟩ := h; exact k' x s1 h2)
theorem gf_Cg_168 {n cs ss : Nat} {M : Mth} {F : Option Value → Sto → Prop} {pc npc : Nat} {l : List (Nat × Value)} {st : List Value} {s : Sto} (hd : decode M.1 pc = .ok (.getfield 168, 3)) (hM : M.2.1 = RX10) (hn : pc + 3 = npc) (k' : Go (SL n) M F cs ss npc l (.ref 2 :: st) s) : Go (SL n) M F cs ss pc l (.ref 1 :: st) s := g_get (N := 8) (f := 3) hd hn ⟨ltSL (by decide), rfl, rfl⟩ rfl inw_X2 (by decide) (by rw [hM]; exact tw_80) rfl (Or.inr ⟨_, rfl, rfl⟩) k'
theorem gf_Cg_165 {n cs ss : Nat} {M : Mth} {F : Option Value → Sto → Prop} {pc npc : Nat} {l : List (Nat × Value)} {st : List Value} {s : Sto} (hd : decode M.1 pc = .ok (.getfield 165, 3)) (hM : M.2.1 = RX10) (hn : pc + 3 = npc) (k' : Go (SL n) M F cs ss npc l (.ref 3 :: st) s) : Go (SL n) M F cs ss pc l (.ref 1 :: st) s := g_get (N := 8) (f := 4) hd hn ⟨ltSL (by decide), rfl, rfl⟩ rfl inw_X2 (by decide) (by rw [hM]; exact tw_85) rfl (Or.inr ⟨_, rfl, rfl⟩) k'
theorem gf_Hi_9 {n cs ss : Nat} {M : Mth} {F : Option Value → Sto → Prop} {pc npc : Nat} {l : List (Nat × Value)} {st : List Value} {s : Sto} (hd : decode M.1 pc = .ok (.getfield 9, 3)) (hM : M.2.1 = RX3) (hn : pc + 3 = npc) (k' : Go (SL n) M F cs ss npc l (iV (s 17 0) :: st) s) : Go (SL n) M F cs ss pc l (.ref 17 :: st) s := g_get (N := 3) (f := 0) hd hn ⟨ltSL (by decide), rfl, rfl⟩ rfl inw_X3 (by decide) (by rw [hM]; exact tw_131) rfl (Or.inl ⟨rfl, rfl⟩) k'
theorem gf_Hi_20 {n cs ss : Nat} {M : Mth} {F : Option Value → Sto → Prop} {pc npc : Nat} {l : List (Nat × Value)} {st : List Value} {s : Sto} (hd : decode M.1 pc = .ok (.getfield 20, 3)) (hM : M.2.1 = RX3) (hn : pc + 3 = npc) (k' : Go (SL n) M F cs ss npc l (.ref 18 :: st) s) : Go (SL n) M F cs ss pc l (.ref 17 :: st) s := g_get (N := 3) (f := 2) hd hn ⟨ltSL (by decide), rfl, rfl⟩ rfl inw_X3 (by decide) (by rw [hM]; exact tw_134) rfl (Or.inr ⟨_, rfl, rfl⟩) k'
theorem gf_Hi_15 {n cs ss : Nat} {M : Mth} {F : Option Value → Sto → Prop} {pc npc : Nat} {l : List (Nat × Value)} {st : List Value} {s : Sto} (hd : decode M.1 pc = .ok (.getfield 15, 3)) (hM : M.2.1 = RX3) (hn : pc + 3 = npc) (k' : Go (SL n) M F cs ss npc l (iV (s 17 1) :: st) s) : Go (SL n) M F cs ss pc l (.ref 17 :: st) s := g_get (N := 3) (f := 1) hd hn ⟨ltSL (by decide), rfl, rfl⟩ rfl inw_X3 (by decide) (by rw [hM]; exact tw_133) rfl (Or.inl ⟨rfl, rfl⟩) k'
theorem iv_Hi_23 {n cs ss : Nat} {M : Mth} {F : Option Value → Sto → Prop} {pc npc : Nat} {l : List (Nat × Value)} {st : List Value} {s : Sto} {k0 : Nat} {k1 : Nat} {Q : Sto → Prop} (hd : decode M.1 pc = .ok (.invokestatic 23, 3)) (hM : M.2.1 = RX3) (hn : pc + 3 = npc) (hcat : (st.map (fun v => v.category)).sum ≤ 8) (hR : 0 + 1 ≤ M.2.2.2.2.frames ∧ 8 + (3 + 11) + 0 ≤ M.2.2.2.2.locals) (hC : cs + 0 ≤ M.2.2.2.2.cells ∧ ss + 0 ≤ M.2.2.2.2.slots) (h : K_Cg_copyChips n k0 k1 s Q) (k' : ∀ s1, Q s1 → Go (SL n) M F (cs + 0) (ss + 0) npc l st s1) : Go (SL n) M F cs ss pc l (.ref k1 :: .ref k0 :: st) s := g_callN (as := [.ref k0, .ref k1]) (st := st) hd hn rfl (show okN M 23 yX10_copyChips cX10_copyChips 3 none 2 from ⟨⟨by rw [hM]; decide +kernel, tw_400, tw_31, tw_401⟩, by decide, by decide, by decide +kernel⟩) rfl hcat hC hR h (fun r s1 h => by obtain ⟨rfl, h2⟩ := h; exact k' s1 h2)
theorem iv_Cg_171 {n cs ss : Nat} {M : Mth} {F : Option Value → Sto → Prop} {pc npc : Nat} {l : List (Nat × Value)} {st : List Value} {s : Sto} {x1 : Int} {Q : Int → Sto → Prop} (hd : decode M.1 pc = .ok (.invokevirtual 171, 3)) (hM : M.2.1 = RX10) (hn : pc + 3 = npc) (hcat : (st.map (fun v => v.category)).sum ≤ 8) (hR : 1 + 1 ≤ M.2.2.2.2.frames ∧ 8 + (2 + 11) + 21 ≤ M.2.2.2.2.locals) (hC : cs + 0 ≤ M.2.2.2.2.cells ∧ ss + 0 ≤ M.2.2.2.2.slots) (h : K_Gr_hasChipsAt n x1 s Q) (k' : ∀ r s1, Q r s1 → Go (SL n) M F (cs + 0) (ss + 0) npc l (iV r :: st) s1) : Go (SL n) M F cs ss pc l (iV x1 :: .ref 1 :: st) s := g_callV (k := 1) (as := [iV x1]) (st := st) hd hn rfl ⟨ltSL (by decide), rfl⟩ rfl rfl (show okV M 171 RX2 yX2_hasChipsAt cX2_hasChipsAt 2 (some .boolean) 1 from ⟨⟨by rw [hM]; exact tw_391, tw_392, tw_393, tw_32, tw_394⟩, rfl, by decide, by decide, by decide +kernel⟩) rfl hcat hC hR h (fun r s1 h => by obtain ⟨x, rfl, h2⟩ := h; exact k' x s1 h2)
theorem iv_Cg_174 {n cs ss : Nat} {M : Mth} {F : Option Value → Sto → Prop} {pc npc : Nat} {l : List (Nat × Value)} {st : List Value} {s : Sto} {k1 : Nat} {Q : Sto → Prop} (hd : decode M.1 pc = .ok (.invokevirtual 174, 3)) (hM : M.2.1 = RX10) (hn : pc + 3 = npc) (hcat : (st.map (fun v => v.category)).sum ≤ 8) (hR : 1 + 1 ≤ M.2.2.2.2.frames ∧ 8 + (2 + 11) + 22 ≤ M.2.2.2.2.locals) (hC : cs + 0 ≤ M.2.2.2.2.cells ∧ ss + 0 ≤ M.2.2.2.2.slots) (h : K_Hi_record n k1 s Q) (k' : ∀ s1, Q s1 → Go (SL n) M F (cs + 0) (ss + 0) npc l st s1) : Go (SL n) M F cs ss pc l (.ref k1 :: .ref 17 :: st) s := g_callV (k := 17) (as := [.ref k1]) (st := st) hd hn rfl ⟨ltSL (by decide), rfl⟩ rfl rfl (show okV M 174 RX3 yX3_record cX3_record 2 none 1 from ⟨⟨by rw [hM]; exact tw_395, tw_396, tw_397, tw_34, tw_398⟩, rfl, by decide, by decide, by decide +kernel⟩) rfl hcat hC hR h (fun r s1 h => by obtain ⟨rfl, h2⟩ := h; exact k' s1 h2)
theorem gf_Fi_15 {n cs ss : Nat} {M : Mth} {F : Option Value → Sto → Prop} {pc npc : Nat} {l : List (Nat × Value)} {st : List Value} {s : Sto} (hd : decode M.1 pc = .ok (.getfield 15, 3)) (hM : M.2.1 = RX1) (hn : pc + 3 = npc) (k' : Go (SL n) M F cs ss npc l (.ref 1 :: st) s) : Go (SL n) M F cs ss pc l (.ref 40 :: st) s := g_get (N := 3) (f := 1) hd hn ⟨ltSL (by decide), rfl, rfl⟩ rfl inw_X1 (by decide) (by rw [hM]; exact tw_182) rfl (Or.inr ⟨_, rfl, rfl⟩) k'
theorem iv_Fi_23 {n cs ss : Nat} {M : Mth} {F : Option Value → Sto → Prop} {pc npc : Nat} {l : List (Nat × Value)} {st : List Value} {s : Sto} {x1 : Int} {Q : Int → Sto → Prop} (hd : decode M.1 pc = .ok (.invokevirtual 23, 3)) (hM : M.2.1 = RX1) (hn : pc + 3 = npc) (hcat : (st.map (fun v => v.category)).sum ≤ 8) (hR : 1 + 1 ≤ M.2.2.2.2.frames ∧ 8 + (2 + 11) + 21 ≤ M.2.2.2.2.locals) (hC : cs + 0 ≤ M.2.2.2.2.cells ∧ ss + 0 ≤ M.2.2.2.2.slots) (h : K_Gr_degreeOf n x1 s Q) (k' : ∀ r s1, Q r s1 → Go (SL n) M F (cs + 0) (ss + 0) npc l (iV r :: st) s1) : Go (SL n) M F cs ss pc l (iV x1 :: .ref 1 :: st) s := g_callV (k := 1) (as := [iV x1]) (st := st) hd hn rfl ⟨ltSL (by decide), rfl⟩ rfl rfl (show okV M 23 RX2 yX2_degreeOf cX2_degreeOf 2 (some .int) 1 from ⟨⟨by rw [hM]; exact tw_418, tw_380, tw_381, tw_32, tw_382⟩, rfl, by decide, by decide, by decide +kernel⟩) rfl hcat hC hR h (fun r s1 h => by obtain ⟨x, rfl, h2⟩ := h; exact k' x s1 h2)
theorem iv_Fi_29 {n cs ss : Nat} {M : Mth} {F : Option Value → Sto → Prop} {pc npc : Nat} {l : List (Nat × Value)} {st : List Value} {s : Sto} {x1 : Int} {Q : Int → Sto → Prop} (hd : decode M.1 pc = .ok (.invokevirtual 29, 3)) (hM : M.2.1 = RX1) (hn : pc + 3 = npc) (hcat : (st.map (fun v => v.category)).sum ≤ 8) (hR : 1 + 1 ≤ M.2.2.2.2.frames ∧ 8 + (2 + 11) + 21 ≤ M.2.2.2.2.locals) (hC : cs + 0 ≤ M.2.2.2.2.cells ∧ ss + 0 ≤ M.2.2.2.2.slots) (h : K_Gr_hasChipsAt n x1 s Q) (k' : ∀ r s1, Q r s1 → Go (SL n) M F (cs + 0) (ss + 0) npc l (iV r :: st) s1) : Go (SL n) M F cs ss pc l (iV x1 :: .ref 1 :: st) s := g_callV (k := 1) (as := [iV x1]) (st := st) hd hn rfl ⟨ltSL (by decide), rfl⟩ rfl rfl (show okV M 29 RX2 yX2_hasChipsAt cX2_hasChipsAt 2 (some .boolean) 1 from ⟨⟨by rw [hM]; exact tw_419, tw_392, tw_393, tw_32, tw_394⟩, rfl, by decide, by decide, by decide +kernel⟩) rfl hcat hC hR h (fun r s1 h => by obtain ⟨x, rfl, h2⟩ := h; exact k' x s1 h2)
theorem gf_Fi_33 {n cs ss : Nat} {M : Mth} {F : Option Value → Sto → Prop} {pc npc : Nat} {l : List (Nat × Value)} {st : List Value} {s : Sto} (hd : decode M.1 pc = .ok (.getfield 33, 3)) (hM : M.2.1 = RX1) (hn : pc + 3 = npc) (k' : Go (SL n) M F cs ss npc l (iV (s 1 0) :: st) s) : Go (SL n) M F cs ss pc l (.ref 1 :: st) s := g_get (N := 8) (f := 0) hd hn ⟨ltSL (by decide), rfl, rfl⟩ rfl inw_X2 (by decide) (by rw [hM]; exact tw_63) rfl (Or.inl ⟨rfl, rfl⟩) k'
theorem iv_Fi_37 {n cs ss : Nat} {M : Mth} {F : Option Value → Sto → Prop} {pc npc : Nat} {l : List (Nat × Value)} {st : List Value} {s : Sto} {k1 : Nat} {x2 : Int} {Q : Int → Sto → Prop} (hd : decode M.1 pc = .ok (.invokevirtual 37, 3)) (hM : M.2.1 = RX1) (hn : pc + 3 = npc) (hcat : (st.map (fun v => v.category)).sum ≤ 8) (hR : 2 + 1 ≤ M.2.2.2.2.frames ∧ 8 + (4 + 11) + 42 ≤ M.2.2.2.2.locals) (hC : cs + 0 ≤ M.2.2.2.2.cells ∧ ss + 0 ≤ M.2.2.2.2.slots) (h : K_Fi_canFire n k1 x2 s Q) (k' : ∀ r s1, Q r s1 → Go (SL n) M F (cs + 0) (ss + 0) npc l (iV r :: st) s1) : Go (SL n) M F cs ss pc l (iV x2 :: .ref k1 :: .ref 40 :: st) s := g_callV (k := 40) (as := [.ref k1, iV x2]) (st := st) hd hn rfl ⟨ltSL (by decide), rfl⟩ rfl rfl (show okV M 37 RX1 yX1_canFire cX1_canFire 4 (some .boolean) 2 from ⟨⟨by rw [hM]; exact tw_414, tw_415, tw_416, tw_37, tw_417⟩, rfl, by decide, by decide, by decide +kernel⟩) rfl hcat hC hR h (fun r s1 h => by obtain ⟨x, rfl, h2⟩ := h; exact k' x s1 h2)
theorem gf_Bu_18 {n cs ss : Nat} {M : Mth} {F : Option Value → Sto → Prop} {pc npc : Nat} {l : List (Nat × Value)} {st : List Value} {s : Sto} (hd : decode M.1 pc = .ok (.getfield 18, 3)) (hM : M.2.1 = RX0) (hn : pc + 3 = npc) (k' : Go (SL n) M F cs ss npc l (.ref 1 :: st) s) : Go (SL n) M F cs ss pc l (.ref 37 :: st) s := g_get (N := 3) (f := 2) hd hn ⟨ltSL (by decide), rfl, rfl⟩ rfl inw_X0 (by decide) (by rw [hM]; exact tw_166) rfl (Or.inr ⟨_, rfl, rfl⟩) k'
theorem gf_Bu_28 {n cs ss : Nat} {M : Mth} {F : Option Value → Sto → Prop} {pc npc : Nat} {l : List (Nat × Value)} {st : List Value} {s : Sto} (hd : decode M.1 pc = .ok (.getfield 28, 3)) (hM : M.2.1 = RX0) (hn : pc + 3 = npc) (k' : Go (SL n) M F cs ss npc l (iV (s 1 0) :: st) s) : Go (SL n) M F cs ss pc l (.ref 1 :: st) s := g_get (N := 8) (f := 0) hd hn ⟨ltSL (by decide), rfl, rfl⟩ rfl inw_X2 (by decide) (by rw [hM]; exact tw_64) rfl (Or.inl ⟨rfl, rfl⟩) k'
theorem gf_Bu_9 {n cs ss : Nat} {M : Mth} {F : Option Value → Sto → Prop} {pc npc : Nat} {l : List (Nat × Value)} {st : List Value} {s : Sto} (hd : decode M.1 pc = .ok (.getfield 9, 3)) (hM : M.2.1 = RX0) (hn : pc + 3 = npc) (k' : Go (SL n) M F cs ss npc l (.ref 38 :: st) s) : Go (SL n) M F cs ss pc l (.ref 37 :: st) s := g_get (N := 3) (f := 0) hd hn ⟨ltSL (by decide), rfl, rfl⟩ rfl inw_X0 (by decide) (by rw [hM]; exact tw_163) rfl (Or.inr ⟨_, rfl, rfl⟩) k'
theorem gf_Bu_50 {n cs ss : Nat} {M : Mth} {F : Option Value → Sto → Prop} {pc npc : Nat} {l : List (Nat × Value)} {st : List Value} {s : Sto} (hd : decode M.1 pc = .ok (.getfield 50, 3)) (hM : M.2.1 = RX0) (hn : pc + 3 = npc) (k' : Go (SL n) M F cs ss npc l (.ref 4 :: st) s) : Go (SL n) M F cs ss pc l (.ref 1 :: st) s := g_get (N := 8) (f := 5) hd hn ⟨ltSL (by decide), rfl, rfl⟩ rfl inw_X2 (by decide) (by rw [hM]; exact tw_88) rfl (Or.inr ⟨_, rfl, rfl⟩) k'
theorem iv_Bu_46 {n cs ss : Nat} {M : Mth} {F : Option Value → Sto → Prop} {pc npc : Nat} {l : List (Nat × Value)} {st : List Value} {s : Sto} {x1 : Int} {x2 : Int} {Q : Int → Sto → Prop} (hd : decode M.1 pc = .ok (.invokevirtual 46, 3)) (hM : M.2.1 = RX0) (hn : pc + 3 = npc) (hcat : (st.map (fun v => v.category)).sum ≤ 8) (hR : 0 + 1 ≤ M.2.2.2.2.frames ∧ 8 + (5 + 11) + 0 ≤ M.2.2.2.2.locals) (hC : cs + 0 ≤ M.2.2.2.2.cells ∧ ss + 0 ≤ M.2.2.2.2.slots) (h : K_Bu_edgesToBurnt n x1 x2 s Q) (k' : ∀ r s1, Q r s1 → Go (SL n) M F (cs + 0) (ss + 0) npc l (iV r :: st) s1) : Go (SL n) M F cs ss pc l (iV x2 :: iV x1 :: .ref 37 :: st) s := g_callV (k := 37) (as := [iV x1, iV x2]) (st := st) hd hn rfl ⟨ltSL (by decide), rfl⟩ rfl rfl (show okV M 46 RX0 yX0_edgesToBurnt cX0_edgesToBurnt 5 (some .int) 2 from ⟨⟨by rw [hM]; exact tw_437, tw_439, tw_7, tw_36, tw_440⟩, rfl, by decide, by decide, by decide +kernel⟩) rfl hcat hC hR h (fun r s1 h => by obtain ⟨x, rfl, h2⟩ := h; exact k' x s1 h2)
theorem gf_Bu_15 {n cs ss : Nat} {M : Mth} {F : Option Value → Sto → Prop} {pc npc : Nat} {l : List (Nat × Value)} {st : List Value} {s : Sto} (hd : decode M.1 pc = .ok (.getfield 15, 3)) (hM : M.2.1 = RX0) (hn : pc + 3 = npc) (k' : Go (SL n) M F cs ss npc l (.ref 39 :: st) s) : Go (SL n) M F cs ss pc l (.ref 37 :: st) s := g_get (N := 3) (f := 1) hd hn ⟨ltSL (by decide), rfl, rfl⟩ rfl inw_X0 (by decide) (by rw [hM]; exact tw_165) rfl (Or.inr ⟨_, rfl, rfl⟩) k'
theorem gf_Bu_40 {n cs ss : Nat} {M : Mth} {F : Option Value → Sto → Prop} {pc npc : Nat} {l : List (Nat × Value)} {st : List Value} {s : Sto} (hd : decode M.1 pc = .ok (.getfield 40, 3)) (hM : M.2.1 = RX0) (hn : pc + 3 = npc) (k' : Go (SL n) M F cs ss npc l (iV (s 1 2) :: st) s) : Go (SL n) M F cs ss pc l (.ref 1 :: st) s := g_get (N := 8) (f := 2) hd hn ⟨ltSL (by decide), rfl, rfl⟩ rfl inw_X2 (by decide) (by rw [hM]; exact tw_74) rfl (Or.inl ⟨rfl, rfl⟩) k'
theorem iv_Bu_43 {n cs ss : Nat} {M : Mth} {F : Option Value → Sto → Prop} {pc npc : Nat} {l : List (Nat × Value)} {st : List Value} {s : Sto} {x1 : Int} {Q : Int → Sto → Prop} (hd : decode M.1 pc = .ok (.invokevirtual 43, 3)) (hM : M.2.1 = RX0) (hn : pc + 3 = npc) (hcat : (st.map (fun v => v.category)).sum ≤ 8) (hR : 1 + 1 ≤ M.2.2.2.2.frames ∧ 8 + (4 + 11) + 24 ≤ M.2.2.2.2.locals) (hC : cs + 0 ≤ M.2.2.2.2.cells ∧ ss + 0 ≤ M.2.2.2.2.slots) (h : K_Bu_burnRound n x1 s Q) (k' : ∀ r s1, Q r s1 → Go (SL n) M F (cs + 0) (ss + 0) npc l (iV r :: st) s1) : Go (SL n) M F cs ss pc l (iV x1 :: .ref 37 :: st) s := g_callV (k := 37) (as := [iV x1]) (st := st) hd hn rfl ⟨ltSL (by decide), rfl⟩ rfl rfl (show okV M 43 RX0 yX0_burnRound cX0_burnRound 4 (some .int) 1 from ⟨⟨by rw [hM]; exact tw_433, tw_435, tw_6, tw_36, tw_436⟩, rfl, by decide, by decide, by decide +kernel⟩) rfl hcat hC hR h (fun r s1 h => by obtain ⟨x, rfl, h2⟩ := h; exact k' x s1 h2)
theorem iv_Bu_36 {n cs ss : Nat} {M : Mth} {F : Option Value → Sto → Prop} {pc npc : Nat} {l : List (Nat × Value)} {st : List Value} {s : Sto} {Q : Int → Sto → Prop} (hd : decode M.1 pc = .ok (.invokevirtual 36, 3)) (hM : M.2.1 = RX0) (hn : pc + 3 = npc) (hcat : (st.map (fun v => v.category)).sum ≤ 8) (hR : 2 + 1 ≤ M.2.2.2.2.frames ∧ 8 + (3 + 11) + 47 ≤ M.2.2.2.2.locals) (hC : cs + 0 ≤ M.2.2.2.2.cells ∧ ss + 0 ≤ M.2.2.2.2.slots) (h : K_Bu_spreadFire n s Q) (k' : ∀ r s1, Q r s1 → Go (SL n) M F (cs + 0) (ss + 0) npc l (iV r :: st) s1) : Go (SL n) M F cs ss pc l (.ref 37 :: st) s := g_callV (k := 37) (as := []) (st := st) hd hn rfl ⟨ltSL (by decide), rfl⟩ rfl rfl (show okV M 36 RX0 yX0_spreadFire cX0_spreadFire 3 (some .boolean) 0 from ⟨⟨by rw [hM]; exact tw_429, tw_431, tw_5, tw_36, tw_432⟩, rfl, by decide, by decide, by decide +kernel⟩) rfl hcat hC hR h (fun r s1 h => by obtain ⟨x, rfl, h2⟩ := h; exact k' x s1 h2)
theorem iv_Bu_32 {n cs ss : Nat} {M : Mth} {F : Option Value → Sto → Prop} {pc npc : Nat} {l : List (Nat × Value)} {st : List Value} {s : Sto} {x1 : Int} {Q : Int → Sto → Prop} (hd : decode M.1 pc = .ok (.invokevirtual 32, 3)) (hM : M.2.1 = RX0) (hn : pc + 3 = npc) (hcat : (st.map (fun v => v.category)).sum ≤ 8) (hR : 1 + 1 ≤ M.2.2.2.2.frames ∧ 8 + (2 + 11) + 21 ≤ M.2.2.2.2.locals) (hC : cs + 0 ≤ M.2.2.2.2.cells ∧ ss + 0 ≤ M.2.2.2.2.slots) (h : K_Gr_degreeOf n x1 s Q) (k' : ∀ r s1, Q r s1 → Go (SL n) M F (cs + 0) (ss + 0) npc l (iV r :: st) s1) : Go (SL n) M F cs ss pc l (iV x1 :: .ref 1 :: st) s := g_callV (k := 1) (as := [iV x1]) (st := st) hd hn rfl ⟨ltSL (by decide), rfl⟩ rfl rfl (show okV M 32 RX2 yX2_degreeOf cX2_degreeOf 2 (some .int) 1 from ⟨⟨by rw [hM]; exact tw_428, tw_380, tw_381, tw_32, tw_382⟩, rfl, by decide, by decide, by decide +kernel⟩) rfl hcat hC hR h (fun r s1 h => by obtain ⟨x, rfl, h2⟩ := h; exact k' x s1 h2)
theorem gf_Cg_53 {n cs ss : Nat} {M : Mth} {F : Option Value → Sto → Prop} {pc npc : Nat} {l : List (Nat × Value)} {st : List Value} {s : Sto} (hd : decode M.1 pc = .ok (.getfield 53, 3)) (hM : M.2.1 = RX10) (hn : pc + 3 = npc) (k' : Go (SL n) M F cs ss npc l (.ref 40 :: st) s) : Go (SL n) M F cs ss pc l (.ref 0 :: st) s := g_get (N := 12) (f := 5) hd hn ⟨ltSL (by decide), rfl, rfl⟩ rfl inw_X10 (by decide) (by rw [hM]; exact tw_275) rfl (Or.inr ⟨_, rfl, rfl⟩) k'
theorem iv_Cg_206 {n cs ss : Nat} {M : Mth} {F : Option Value → Sto → Prop} {pc npc : Nat} {l : List (Nat × Value)} {st : List Value} {s : Sto} {k1 : Nat} {Q : Int → Sto → Prop} (hd : decode M.1 pc = .ok (.invokevirtual 206, 3)) (hM : M.2.1 = RX10) (hn : pc + 3 = npc) (hcat : (st.map (fun v => v.category)).sum ≤ 8) (hR : 3 + 1 ≤ M.2.2.2.2.frames ∧ 8 + (3 + 11) + 65 ≤ M.2.2.2.2.locals) (hC : cs + 0 ≤ M.2.2.2.2.cells ∧ ss + 0 ≤ M.2.2.2.2.slots) (h : K_Fi_isStable n k1 s Q) (k' : ∀ r s1, Q r s1 → Go (SL n) M F (cs + 0) (ss + 0) npc l (iV r :: st) s1) : Go (SL n) M F cs ss pc l (.ref k1 :: .ref 40 :: st) s := g_callV (k := 40) (as := [.ref k1]) (st := st) hd hn rfl ⟨ltSL (by decide), rfl⟩ rfl rfl (show okV M 206 RX1 yX1_isStable cX1_isStable 3 (some .boolean) 1 from ⟨⟨by rw [hM]; exact tw_410, tw_411, tw_412, tw_37, tw_413⟩, rfl, by decide, by decide, by decide +kernel⟩) rfl hcat hC hR h (fun r s1 h => by obtain ⟨x, rfl, h2⟩ := h; exact k' x s1 h2)
theorem gf_Cg_44 {n cs ss : Nat} {M : Mth} {F : Option Value → Sto → Prop} {pc npc : Nat} {l : List (Nat × Value)} {st : List Value} {s : Sto} (hd : decode M.1 pc = .ok (.getfield 44, 3)) (hM : M.2.1 = RX10) (hn : pc + 3 = npc) (k' : Go (SL n) M F cs ss npc l (.ref 37 :: st) s) : Go (SL n) M F cs ss pc l (.ref 0 :: st) s := g_get (N := 12) (f := 4) hd hn ⟨ltSL (by decide), rfl, rfl⟩ rfl inw_X10 (by decide) (by rw [hM]; exact tw_274) rfl (Or.inr ⟨_, rfl, rfl⟩) k'
theorem iv_Cg_216 {n cs ss : Nat} {M : Mth} {F : Option Value → Sto → Prop} {pc npc : Nat} {l : List (Nat × Value)} {st : List Value} {s : Sto} {k1 : Nat} {Q : Int → Sto → Prop} (hd : decode M.1 pc = .ok (.invokevirtual 216, 3)) (hM : M.2.1 = RX10) (hn : pc + 3 = npc) (hcat : (st.map (fun v => v.category)).sum ≤ 8) (hR : 3 + 1 ≤ M.2.2.2.2.frames ∧ 8 + (3 + 11) + 69 ≤ M.2.2.2.2.locals) (hC : cs + 0 ≤ M.2.2.2.2.cells ∧ ss + 0 ≤ M.2.2.2.2.slots) (h : K_Bu_allBurn n k1 s Q) (k' : ∀ r s1, Q r s1 → Go (SL n) M F (cs + 0) (ss + 0) npc l (iV r :: st) s1) : Go (SL n) M F cs ss pc l (.ref k1 :: .ref 37 :: st) s := g_callV (k := 37) (as := [.ref k1]) (st := st) hd hn rfl ⟨ltSL (by decide), rfl⟩ rfl rfl (show okV M 216 RX0 yX0_allBurn cX0_allBurn 3 (some .boolean) 1 from ⟨⟨by rw [hM]; exact tw_424, tw_425, tw_426, tw_36, tw_427⟩, rfl, by decide, by decide, by decide +kernel⟩) rfl hcat hC hR h (fun r s1 h => by obtain ⟨x, rfl, h2⟩ := h; exact k' x s1 h2)
theorem iv_Cg_210 {n cs ss : Nat} {M : Mth} {F : Option Value → Sto → Prop} {pc npc : Nat} {l : List (Nat × Value)} {st : List Value} {s : Sto} {Q : Int → Sto → Prop} (hd : decode M.1 pc = .ok (.invokevirtual 210, 3)) (hM : M.2.1 = RX10) (hn : pc + 3 = npc) (hcat : (st.map (fun v => v.category)).sum ≤ 8) (hR : 4 + 1 ≤ M.2.2.2.2.frames ∧ 8 + (1 + 11) + 91 ≤ M.2.2.2.2.locals) (hC : cs + 0 ≤ M.2.2.2.2.cells ∧ ss + 0 ≤ M.2.2.2.2.slots) (h : K_Cg_isRecurrent n s Q) (k' : ∀ r s1, Q r s1 → Go (SL n) M F (cs + 0) (ss + 0) npc l (iV r :: st) s1) : Go (SL n) M F cs ss pc l (.ref 0 :: st) s := g_callV (k := 0) (as := []) (st := st) hd hn rfl ⟨ltSL (by decide), rfl⟩ rfl rfl (show okV M 210 RX10 yX10_isRecurrent cX10_isRecurrent 1 (some .boolean) 0 from ⟨⟨by rw [hM]; exact tw_420, tw_422, tw_4, tw_31, tw_423⟩, rfl, by decide, by decide, by decide +kernel⟩) rfl hcat hC hR h (fun r s1 h => by obtain ⟨x, rfl, h2⟩ := h; exact k' x s1 h2)
theorem iv_Cg_213 {n cs ss : Nat} {M : Mth} {F : Option Value → Sto → Prop} {pc npc : Nat} {l : List (Nat × Value)} {st : List Value} {s : Sto} {k1 : Nat} {Q : Int → Sto → Prop} (hd : decode M.1 pc = .ok (.invokevirtual 213, 3)) (hM : M.2.1 = RX10) (hn : pc + 3 = npc) (hcat : (st.map (fun v => v.category)).sum ≤ 8) (hR : 3 + 1 ≤ M.2.2.2.2.frames ∧ 8 + (3 + 11) + 69 ≤ M.2.2.2.2.locals) (hC : cs + 0 ≤ M.2.2.2.2.cells ∧ ss + 0 ≤ M.2.2.2.2.slots) (h : K_Bu_allBurnBySecondRule n k1 s Q) (k' : ∀ r s1, Q r s1 → Go (SL n) M F (cs + 0) (ss + 0) npc l (iV r :: st) s1) : Go (SL n) M F cs ss pc l (.ref k1 :: .ref 37 :: st) s := g_callV (k := 37) (as := [.ref k1]) (st := st) hd hn rfl ⟨ltSL (by decide), rfl⟩ rfl rfl (show okV M 213 RX0 yX0_allBurnBySecondRule cX0_allBurnBySecondRule 3 (some .boolean) 1 from ⟨⟨by rw [hM]; exact tw_441, tw_442, tw_443, tw_36, tw_444⟩, rfl, by decide, by decide, by decide +kernel⟩) rfl hcat hC hR h (fun r s1 h => by obtain ⟨x, rfl, h2⟩ := h; exact k' x s1 h2)
theorem iv_Cg_225 {n cs ss : Nat} {M : Mth} {F : Option Value → Sto → Prop} {pc npc : Nat} {l : List (Nat × Value)} {st : List Value} {s : Sto} {k1 : Nat} {Q : Sto → Prop} (hd : decode M.1 pc = .ok (.invokevirtual 225, 3)) (hM : M.2.1 = RX10) (hn : pc + 3 = npc) (hcat : (st.map (fun v => v.category)).sum ≤ 8) (hR : 1 + 1 ≤ M.2.2.2.2.frames ∧ 8 + (2 + 11) + 22 ≤ M.2.2.2.2.locals) (hC : cs + 0 ≤ M.2.2.2.2.cells ∧ ss + 0 ≤ M.2.2.2.2.slots) (h : K_Hi_takeBack n k1 s Q) (k' : ∀ s1, Q s1 → Go (SL n) M F (cs + 0) (ss + 0) npc l st s1) : Go (SL n) M F cs ss pc l (.ref k1 :: .ref 17 :: st) s := g_callV (k := 17) (as := [.ref k1]) (st := st) hd hn rfl ⟨ltSL (by decide), rfl⟩ rfl rfl (show okV M 225 RX3 yX3_takeBack cX3_takeBack 2 none 1 from ⟨⟨by rw [hM]; exact tw_449, tw_450, tw_451, tw_34, tw_452⟩, rfl, by decide, by decide, by decide +kernel⟩) rfl hcat hC hR h (fun r s1 h => by obtain ⟨rfl, h2⟩ := h; exact k' s1 h2)
theorem gf_Ma_27 {n cs ss : Nat} {M : Mth} {F : Option Value → Sto → Prop} {pc npc : Nat} {l : List (Nat × Value)} {st : List Value} {s : Sto} (hd : decode M.1 pc = .ok (.getfield 27, 3)) (hM : M.2.1 = RX5) (hn : pc + 3 = npc) (k' : Go (SL n) M F cs ss npc l (.ref 1 :: st) s) : Go (SL n) M F cs ss pc l (.ref 42 :: st) s := g_get (N := 5) (f := 2) hd hn ⟨ltSL (by decide), rfl, rfl⟩ rfl inw_X5 (by decide) (by rw [hM]; exact tw_203) rfl (Or.inr ⟨_, rfl, rfl⟩) k'
theorem iv_Ma_57 {n cs ss : Nat} {M : Mth} {F : Option Value → Sto → Prop} {pc npc : Nat} {l : List (Nat × Value)} {st : List Value} {s : Sto} {x1 : Int} {Q : Int → Sto → Prop} (hd : decode M.1 pc = .ok (.invokevirtual 57, 3)) (hM : M.2.1 = RX5) (hn : pc + 3 = npc) (hcat : (st.map (fun v => v.category)).sum ≤ 8) (hR : 0 + 1 ≤ M.2.2.2.2.frames ∧ 8 + (2 + 11) + 0 ≤ M.2.2.2.2.locals) (hC : cs + 0 ≤ M.2.2.2.2.cells ∧ ss + 0 ≤ M.2.2.2.2.slots) (h : K_Gr_hasNode n x1 s Q) (k' : ∀ r s1, Q r s1 → Go (SL n) M F (cs + 0) (ss + 0) npc l (iV r :: st) s1) : Go (SL n) M F cs ss pc l (iV x1 :: .ref 1 :: st) s := g_callV (k := 1) (as := [iV x1]) (st := st) hd hn rfl ⟨ltSL (by decide), rfl⟩ rfl rfl (show okV M 57 RX2 yX2_hasNode cX2_hasNode 2 (some .boolean) 1 from ⟨⟨by rw [hM]; exact tw_470, tw_263, tw_264, tw_32, tw_265⟩, rfl, by decide, by decide, by decide +kernel⟩) rfl hcat hC hR h (fun r s1 h => by obtain ⟨x, rfl, h2⟩ := h; exact k' x s1 h2)
theorem gf_Ma_43 {n cs ss : Nat} {M : Mth} {F : Option Value → Sto → Prop} {pc npc : Nat} {l : List (Nat × Value)} {st : List Value} {s : Sto} (hd : decode M.1 pc = .ok (.getfield 43, 3)) (hM : M.2.1 = RX5) (hn : pc + 3 = npc) (k' : Go (SL n) M F cs ss npc l (.ref 14 :: st) s) : Go (SL n) M F cs ss pc l (.ref 1 :: st) s := g_get (N := 8) (f := 7) hd hn ⟨ltSL (by decide), rfl, rfl⟩ rfl inw_X2 (by decide) (by rw [hM]; exact tw_91) rfl (Or.inr ⟨_, rfl, rfl⟩) k'
theorem gf_Ma_60 {n cs ss : Nat} {M : Mth} {F : Option Value → Sto → Prop} {pc npc : Nat} {l : List (Nat × Value)} {st : List Value} {s : Sto} (hd : decode M.1 pc = .ok (.getfield 60, 3)) (hM : M.2.1 = RX5) (hn : pc + 3 = npc) (k' : Go (SL n) M F cs ss npc l (iV (s 1 2) :: st) s) : Go (SL n) M F cs ss pc l (.ref 1 :: st) s := g_get (N := 8) (f := 2) hd hn ⟨ltSL (by decide), rfl, rfl⟩ rfl inw_X2 (by decide) (by rw [hM]; exact tw_72) rfl (Or.inl ⟨rfl, rfl⟩) k'
theorem iv_Ma_36 {n cs ss : Nat} {M : Mth} {F : Option Value → Sto → Prop} {pc npc : Nat} {l : List (Nat × Value)} {st : List Value} {s : Sto} {x1 : Int} {Q : Int → Sto → Prop} (hd : decode M.1 pc = .ok (.invokevirtual 36, 3)) (hM : M.2.1 = RX5) (hn : pc + 3 = npc) (hcat : (st.map (fun v => v.category)).sum ≤ 8) (hR : 1 + 1 ≤ M.2.2.2.2.frames ∧ 8 + (2 + 11) + 21 ≤ M.2.2.2.2.locals) (hC : cs + 0 ≤ M.2.2.2.2.cells ∧ ss + 0 ≤ M.2.2.2.2.slots) (h : K_Ma_isFree n x1 s Q) (k' : ∀ r s1, Q r s1 → Go (SL n) M F (cs + 0) (ss + 0) npc l (iV r :: st) s1) : Go (SL n) M F cs ss pc l (iV x1 :: .ref 42 :: st) s := g_callV (k := 42) (as := [iV x1]) (st := st) hd hn rfl ⟨ltSL (by decide), rfl⟩ rfl rfl (show okV M 36 RX5 yX5_isFree cX5_isFree 2 (some .boolean) 1 from ⟨⟨by rw [hM]; exact tw_466, tw_468, tw_8, tw_38, tw_469⟩, rfl, by decide, by decide, by decide +kernel⟩) rfl hcat hC hR h (fun r s1 h => by obtain ⟨x, rfl, h2⟩ := h; exact k' x s1 h2)
theorem gf_Ma_21 {n cs ss : Nat} {M : Mth} {F : Option Value → Sto → Prop} {pc npc : Nat} {l : List (Nat × Value)} {st : List Value} {s : Sto} (hd : decode M.1 pc = .ok (.getfield 21, 3)) (hM : M.2.1 = RX5) (hn : pc + 3 = npc) (k' : Go (SL n) M F cs ss npc l (.ref 44 :: st) s) : Go (SL n) M F cs ss pc l (.ref 42 :: st) s := g_get (N := 5) (f := 3) hd hn ⟨ltSL (by decide), rfl, rfl⟩ rfl inw_X5 (by decide) (by rw [hM]; exact tw_204) rfl (Or.inr ⟨_, rfl, rfl⟩) k'
theorem gf_Ma_31 {n cs ss : Nat} {M : Mth} {F : Option Value → Sto → Prop} {pc npc : Nat} {l : List (Nat × Value)} {st : List Value} {s : Sto} (hd : decode M.1 pc = .ok (.getfield 31, 3)) (hM : M.2.1 = RX5) (hn : pc + 3 = npc) (k' : Go (SL n) M F cs ss npc l (iV (s 1 0) :: st) s) : Go (SL n) M F cs ss pc l (.ref 1 :: st) s := g_get (N := 8) (f := 0) hd hn ⟨ltSL (by decide), rfl, rfl⟩ rfl inw_X2 (by decide) (by rw [hM]; exact tw_60) rfl (Or.inl ⟨rfl, rfl⟩) k'
theorem pf_Ma_24 {n cs ss : Nat} {M : Mth} {F : Option Value → Sto → Prop} {pc npc : Nat} {l : List (Nat × Value)} {st : List Value} {s : Sto} {x : Int} (hd : decode M.1 pc = .ok (.putfield 24, 3)) (hM : M.2.1 = RX5) (hn : pc + 3 = npc) (k' : Go (SL n) M F cs ss npc l st (up s 42 4 x)) : Go (SL n) M F cs ss pc l (iV x :: .ref 42 :: st) s := g_put (N := 5) (f := 4) tyX5 hd hn ⟨ltSL (by decide), rfl, rfl⟩ rfl inw_X5 tyX5_ok nmX5 (by decide) (by rw [hM]; exact tw_205) rfl rfl rfl ⟨rfl, rfl⟩ k'
theorem gf_Ma_24 {n cs ss : Nat} {M : Mth} {F : Option Value → Sto → Prop} {pc npc : Nat} {l : List (Nat × Value)} {st : List Value} {s : Sto} (hd : decode M.1 pc = .ok (.getfield 24, 3)) (hM : M.2.1 = RX5) (hn : pc + 3 = npc) (k' : Go (SL n) M F cs ss npc l (iV (s 42 4) :: st) s) : Go (SL n) M F cs ss pc l (.ref 42 :: st) s := g_get (N := 5) (f := 4) hd hn ⟨ltSL (by decide), rfl, rfl⟩ rfl inw_X5 (by decide) (by rw [hM]; exact tw_205) rfl (Or.inl ⟨rfl, rfl⟩) k'
theorem gf_Ma_40 {n cs ss : Nat} {M : Mth} {F : Option Value → Sto → Prop} {pc npc : Nat} {l : List (Nat × Value)} {st : List Value} {s : Sto} (hd : decode M.1 pc = .ok (.getfield 40, 3)) (hM : M.2.1 = RX5) (hn : pc + 3 = npc) (k' : Go (SL n) M F cs ss npc l (iV (s 1 1) :: st) s) : Go (SL n) M F cs ss pc l (.ref 1 :: st) s := g_get (N := 8) (f := 1) hd hn ⟨ltSL (by decide), rfl, rfl⟩ rfl inw_X2 (by decide) (by rw [hM]; exact tw_66) rfl (Or.inl ⟨rfl, rfl⟩) k'
theorem gf_Ma_47 {n cs ss : Nat} {M : Mth} {F : Option Value → Sto → Prop} {pc npc : Nat} {l : List (Nat × Value)} {st : List Value} {s : Sto} (hd : decode M.1 pc = .ok (.getfield 47, 3)) (hM : M.2.1 = RX5) (hn : pc + 3 = npc) (k' : Go (SL n) M F cs ss npc l (.ref 2 :: st) s) : Go (SL n) M F cs ss pc l (.ref 1 :: st) s := g_get (N := 8) (f := 3) hd hn ⟨ltSL (by decide), rfl, rfl⟩ rfl inw_X2 (by decide) (by rw [hM]; exact tw_77) rfl (Or.inr ⟨_, rfl, rfl⟩) k'
theorem gf_Ma_50 {n cs ss : Nat} {M : Mth} {F : Option Value → Sto → Prop} {pc npc : Nat} {l : List (Nat × Value)} {st : List Value} {s : Sto} (hd : decode M.1 pc = .ok (.getfield 50, 3)) (hM : M.2.1 = RX5) (hn : pc + 3 = npc) (k' : Go (SL n) M F cs ss npc l (.ref 3 :: st) s) : Go (SL n) M F cs ss pc l (.ref 1 :: st) s := g_get (N := 8) (f := 4) hd hn ⟨ltSL (by decide), rfl, rfl⟩ rfl inw_X2 (by decide) (by rw [hM]; exact tw_82) rfl (Or.inr ⟨_, rfl, rfl⟩) k'
theorem iv_Ma_53 {n cs ss : Nat} {M : Mth} {F : Option Value → Sto → Prop} {pc npc : Nat} {l : List (Nat × Value)} {st : List Value} {s : Sto} {x1 : Int} {x2 : Int} {Q : Sto → Prop} (hd : decode M.1 pc = .ok (.invokevirtual 53, 3)) (hM : M.2.1 = RX5) (hn : pc + 3 = npc) (hcat : (st.map (fun v => v.category)).sum ≤ 8) (hR : 2 + 1 ≤ M.2.2.2.2.frames ∧ 8 + (3 + 11) + 42 ≤ M.2.2.2.2.locals) (hC : cs + 0 ≤ M.2.2.2.2.cells ∧ ss + 0 ≤ M.2.2.2.2.slots) (h : K_Ma_fillEdge n x1 x2 s Q) (k' : ∀ s1, Q s1 → Go (SL n) M F (cs + 0) (ss + 0) npc l st s1) : Go (SL n) M F cs ss pc l (iV x2 :: iV x1 :: .ref 42 :: st) s := g_callV (k := 42) (as := [iV x1, iV x2]) (st := st) hd hn rfl ⟨ltSL (by decide), rfl⟩ rfl rfl (show okV M 53 RX5 yX5_fillEdge cX5_fillEdge 3 none 2 from ⟨⟨by rw [hM]; exact tw_471, tw_473, tw_9, tw_38, tw_474⟩, rfl, by decide, by decide, by decide +kernel⟩) rfl hcat hC hR h (fun r s1 h => by obtain ⟨rfl, h2⟩ := h; exact k' s1 h2)
theorem iv_Ma_71 {n cs ss : Nat} {M : Mth} {F : Option Value → Sto → Prop} {pc npc : Nat} {l : List (Nat × Value)} {st : List Value} {s : Sto} {x1 : Int} {x2 : Int} {x3 : Int} {Q : Sto → Prop} (hd : decode M.1 pc = .ok (.invokevirtual 71, 3)) (hM : M.2.1 = RX5) (hn : pc + 3 = npc) (hcat : (st.map (fun v => v.category)).sum ≤ 8) (hR : 0 + 1 ≤ M.2.2.2.2.frames ∧ 8 + (10 + 11) + 0 ≤ M.2.2.2.2.locals) (hC : cs + 0 ≤ M.2.2.2.2.cells ∧ ss + 0 ≤ M.2.2.2.2.slots) (h : K_Ma_combineRows n x1 x2 x3 s Q) (k' : ∀ s1, Q s1 → Go (SL n) M F (cs + 0) (ss + 0) npc l st s1) : Go (SL n) M F cs ss pc l (jV x3 :: iV x2 :: iV x1 :: .ref 42 :: st) s := g_callV (k := 42) (as := [iV x1, iV x2, jV x3]) (st := st) hd hn rfl ⟨ltSL (by decide), rfl⟩ rfl rfl (show okV M 71 RX5 yX5_combineRows cX5_combineRows 10 none 3 from ⟨⟨by rw [hM]; exact tw_479, tw_481, tw_10, tw_38, tw_482⟩, rfl, by decide, by decide, by decide +kernel⟩) rfl hcat hC hR h (fun r s1 h => by obtain ⟨rfl, h2⟩ := h; exact k' s1 h2)
theorem gf_Tr_15 {n cs ss : Nat} {M : Mth} {F : Option Value → Sto → Prop} {pc npc : Nat} {l : List (Nat × Value)} {st : List Value} {s : Sto} (hd : decode M.1 pc = .ok (.getfield 15, 3)) (hM : M.2.1 = RX9) (hn : pc + 3 = npc) (k' : Go (SL n) M F cs ss npc l (.ref 1 :: st) s) : Go (SL n) M F cs ss pc l (.ref 53 :: st) s := g_get (N := 3) (f := 0) hd hn ⟨ltSL (by decide), rfl, rfl⟩ rfl inw_X9 (by decide) (by rw [hM]; exact tw_224) rfl (Or.inr ⟨_, rfl, rfl⟩) k'
theorem iv_Tr_23 {n cs ss : Nat} {M : Mth} {F : Option Value → Sto → Prop} {pc npc : Nat} {l : List (Nat × Value)} {st : List Value} {s : Sto} {x1 : Int} {Q : Int → Sto → Prop} (hd : decode M.1 pc = .ok (.invokevirtual 23, 3)) (hM : M.2.1 = RX9) (hn : pc + 3 = npc) (hcat : (st.map (fun v => v.category)).sum ≤ 8) (hR : 1 + 1 ≤ M.2.2.2.2.frames ∧ 8 + (6 + 11) + 23 ≤ M.2.2.2.2.locals) (hC : cs + 0 ≤ M.2.2.2.2.cells ∧ ss + 0 ≤ M.2.2.2.2.slots) (h : K_Gr_findParts n x1 s Q) (k' : ∀ r s1, Q r s1 → Go (SL n) M F (cs + 0) (ss + 0) npc l (iV r :: st) s1) : Go (SL n) M F cs ss pc l (iV x1 :: .ref 1 :: st) s := g_callV (k := 1) (as := [iV x1]) (st := st) hd hn rfl ⟨ltSL (by decide), rfl⟩ rfl rfl (show okV M 23 RX2 yX2_findParts cX2_findParts 6 (some .int) 1 from ⟨⟨by rw [hM]; exact tw_461, tw_365, tw_366, tw_32, tw_367⟩, rfl, by decide, by decide, by decide +kernel⟩) rfl hcat hC hR h (fun r s1 h => by obtain ⟨x, rfl, h2⟩ := h; exact k' x s1 h2)
theorem gf_Tr_19 {n cs ss : Nat} {M : Mth} {F : Option Value → Sto → Prop} {pc npc : Nat} {l : List (Nat × Value)} {st : List Value} {s : Sto} (hd : decode M.1 pc = .ok (.getfield 19, 3)) (hM : M.2.1 = RX9) (hn : pc + 3 = npc) (k' : Go (SL n) M F cs ss npc l (.ref 42 :: st) s) : Go (SL n) M F cs ss pc l (.ref 53 :: st) s := g_get (N := 3) (f := 1) hd hn ⟨ltSL (by decide), rfl, rfl⟩ rfl inw_X9 (by decide) (by rw [hM]; exact tw_225) rfl (Or.inr ⟨_, rfl, rfl⟩) k'
theorem iv_Tr_29 {n cs ss : Nat} {M : Mth} {F : Option Value → Sto → Prop} {pc npc : Nat} {l : List (Nat × Value)} {st : List Value} {s : Sto} {x1 : Int} {Q : Sto → Prop} (hd : decode M.1 pc = .ok (.invokevirtual 29, 3)) (hM : M.2.1 = RX9) (hn : pc + 3 = npc) (hcat : (st.map (fun v => v.category)).sum ≤ 8) (hR : 3 + 1 ≤ M.2.2.2.2.frames ∧ 8 + (5 + 11) + 64 ≤ M.2.2.2.2.locals) (hC : cs + 0 ≤ M.2.2.2.2.cells ∧ ss + 0 ≤ M.2.2.2.2.slots) (h : K_Ma_fill n x1 s Q) (k' : ∀ s1, Q s1 → Go (SL n) M F (cs + 0) (ss + 0) npc l st s1) : Go (SL n) M F cs ss pc l (iV x1 :: .ref 42 :: st) s := g_callV (k := 42) (as := [iV x1]) (st := st) hd hn rfl ⟨ltSL (by decide), rfl⟩ rfl rfl (show okV M 29 RX5 yX5_fill cX5_fill 5 none 1 from ⟨⟨by rw [hM]; exact tw_462, tw_463, tw_464, tw_38, tw_465⟩, rfl, by decide, by decide, by decide +kernel⟩) rfl hcat hC hR h (fun r s1 h => by obtain ⟨rfl, h2⟩ := h; exact k' s1 h2)
theorem iv_Tr_35 {n cs ss : Nat} {M : Mth} {F : Option Value → Sto → Prop} {pc npc : Nat} {l : List (Nat × Value)} {st : List Value} {s : Sto} {Q : Int → Sto → Prop} (hd : decode M.1 pc = .ok (.invokevirtual 35, 3)) (hM : M.2.1 = RX9) (hn : pc + 3 = npc) (hcat : (st.map (fun v => v.category)).sum ≤ 8) (hR : 1 + 1 ≤ M.2.2.2.2.frames ∧ 8 + (7 + 11) + 29 ≤ M.2.2.2.2.locals) (hC : cs + 0 ≤ M.2.2.2.2.cells ∧ ss + 0 ≤ M.2.2.2.2.slots) (h : K_Ma_eliminate n s Q) (k' : ∀ r s1, Q r s1 → Go (SL n) M F (cs + 0) (ss + 0) npc l (jV r :: st) s1) : Go (SL n) M F cs ss pc l (.ref 42 :: st) s := g_callV (k := 42) (as := []) (st := st) hd hn rfl ⟨ltSL (by decide), rfl⟩ rfl rfl (show okV M 35 RX5 yX5_eliminate cX5_eliminate 7 (some .long) 0 from ⟨⟨by rw [hM]; exact tw_475, tw_476, tw_477, tw_38, tw_478⟩, rfl, by decide, by decide, by decide +kernel⟩) rfl hcat hC hR h (fun r s1 h => by obtain ⟨x, rfl, h2⟩ := h; exact k' x s1 h2)
theorem gf_Cg_69 {n cs ss : Nat} {M : Mth} {F : Option Value → Sto → Prop} {pc npc : Nat} {l : List (Nat × Value)} {st : List Value} {s : Sto} (hd : decode M.1 pc = .ok (.getfield 69, 3)) (hM : M.2.1 = RX10) (hn : pc + 3 = npc) (k' : Go (SL n) M F cs ss npc l (.ref 53 :: st) s) : Go (SL n) M F cs ss pc l (.ref 0 :: st) s := g_get (N := 12) (f := 7) hd hn ⟨ltSL (by decide), rfl, rfl⟩ rfl inw_X10 (by decide) (by rw [hM]; exact tw_277) rfl (Or.inr ⟨_, rfl, rfl⟩) k'
theorem iv_Cg_241 {n cs ss : Nat} {M : Mth} {F : Option Value → Sto → Prop} {pc npc : Nat} {l : List (Nat × Value)} {st : List Value} {s : Sto} {x1 : Int} {x2 : Int} {Q : Int → Sto → Prop} (hd : decode M.1 pc = .ok (.invokevirtual 241, 3)) (hM : M.2.1 = RX10) (hn : pc + 3 = npc) (hcat : (st.map (fun v => v.category)).sum ≤ 8) (hR : 4 + 1 ≤ M.2.2.2.2.frames ∧ 8 + (3 + 11) + 88 ≤ M.2.2.2.2.locals) (hC : cs + 0 ≤ M.2.2.2.2.cells ∧ ss + 0 ≤ M.2.2.2.2.slots) (h : K_Tr_count n x1 x2 s Q) (k' : ∀ r s1, Q r s1 → Go (SL n) M F (cs + 0) (ss + 0) npc l (jV r :: st) s1) : Go (SL n) M F cs ss pc l (iV x2 :: iV x1 :: .ref 53 :: st) s := g_callV (k := 53) (as := [iV x1, iV x2]) (st := st) hd hn rfl ⟨ltSL (by decide), rfl⟩ rfl rfl (show okV M 241 RX9 yX9_count cX9_count 3 (some .long) 2 from ⟨⟨by rw [hM]; exact tw_457, tw_458, tw_459, tw_39, tw_460⟩, rfl, by decide, by decide, by decide +kernel⟩) rfl hcat hC hR h (fun r s1 h => by obtain ⟨x, rfl, h2⟩ := h; exact k' x s1 h2)
theorem iv_La_9 {n cs ss : Nat} {M : Mth} {F : Option Value → Sto → Prop} {pc npc : Nat} {l : List (Nat × Value)} {st : List Value} {s : Sto} {x1 : Int} {Q : Int → Sto → Prop} (hd : decode M.1 pc = .ok (.invokevirtual 9, 3)) (hM : M.2.1 = RL) (hn : pc + 3 = npc) (hcat : (st.map (fun v => v.category)).sum ≤ 8) (hR : 3 + 1 ≤ M.2.2.2.2.frames ∧ 8 + (2 + 11) + 68 ≤ M.2.2.2.2.locals) (hC : cs + 0 ≤ M.2.2.2.2.cells ∧ ss + 0 ≤ M.2.2.2.2.slots) (h : K_Cg_value n x1 s Q) (k' : ∀ r s1, Q r s1 → Go (SL n) M F (cs + 0) (ss + 0) npc l (iV r :: st) s1) : Go (SL n) M F cs ss pc l (iV x1 :: .ref 0 :: st) s := g_callV (k := 0) (as := [iV x1]) (st := st) hd hn rfl ⟨ltSL (by decide), rfl⟩ rfl rfl (show okV M 9 RX10 yX10_value cX10_value 2 (some .int) 1 from ⟨⟨by rw [hM]; exact tw_352, tw_353, tw_354, tw_31, tw_355⟩, rfl, by decide, by decide, by decide +kernel⟩) rfl hcat hC hR h (fun r s1 h => by obtain ⟨x, rfl, h2⟩ := h; exact k' x s1 h2)
theorem iv_La_19 {n cs ss : Nat} {M : Mth} {F : Option Value → Sto → Prop} {pc npc : Nat} {l : List (Nat × Value)} {st : List Value} {s : Sto} {x1 : Int} {Q : Int → Sto → Prop} (hd : decode M.1 pc = .ok (.invokevirtual 19, 3)) (hM : M.2.1 = RL) (hn : pc + 3 = npc) (hcat : (st.map (fun v => v.category)).sum ≤ 8) (hR : 2 + 1 ≤ M.2.2.2.2.frames ∧ 8 + (2 + 11) + 42 ≤ M.2.2.2.2.locals) (hC : cs + 0 ≤ M.2.2.2.2.cells ∧ ss + 0 ≤ M.2.2.2.2.slots) (h : K_Cg_chips n x1 s Q) (k' : ∀ r s1, Q r s1 → Go (SL n) M F (cs + 0) (ss + 0) npc l (iV r :: st) s1) : Go (SL n) M F cs ss pc l (iV x1 :: .ref 0 :: st) s := g_callV (k := 0) (as := [iV x1]) (st := st) hd hn rfl ⟨ltSL (by decide), rfl⟩ rfl rfl (show okV M 19 RX10 yX10_chips cX10_chips 2 (some .int) 1 from ⟨⟨by rw [hM]; exact tw_402, tw_403, tw_404, tw_31, tw_405⟩, rfl, by decide, by decide, by decide +kernel⟩) rfl hcat hC hR h (fun r s1 h => by obtain ⟨x, rfl, h2⟩ := h; exact k' x s1 h2)
theorem gf_Fi_48 {n cs ss : Nat} {M : Mth} {F : Option Value → Sto → Prop} {pc npc : Nat} {l : List (Nat × Value)} {st : List Value} {s : Sto} (hd : decode M.1 pc = .ok (.getfield 48, 3)) (hM : M.2.1 = RX1) (hn : pc + 3 = npc) (k' : Go (SL n) M F cs ss npc l (.ref 4 :: st) s) : Go (SL n) M F cs ss pc l (.ref 1 :: st) s := g_get (N := 8) (f := 5) hd hn ⟨ltSL (by decide), rfl, rfl⟩ rfl inw_X2 (by decide) (by rw [hM]; exact tw_87) rfl (Or.inr ⟨_, rfl, rfl⟩) k'
theorem gf_Fi_52 {n cs ss : Nat} {M : Mth} {F : Option Value → Sto → Prop} {pc npc : Nat} {l : List (Nat × Value)} {st : List Value} {s : Sto} (hd : decode M.1 pc = .ok (.getfield 52, 3)) (hM : M.2.1 = RX1) (hn : pc + 3 = npc) (k' : Go (SL n) M F cs ss npc l (iV (s 1 2) :: st) s) : Go (SL n) M F cs ss pc l (.ref 1 :: st) s := g_get (N := 8) (f := 2) hd hn ⟨ltSL (by decide), rfl, rfl⟩ rfl inw_X2 (by decide) (by rw [hM]; exact tw_75) rfl (Or.inl ⟨rfl, rfl⟩) k'
theorem iv_Fi_41 {n cs ss : Nat} {M : Mth} {F : Option Value → Sto → Prop} {pc npc : Nat} {l : List (Nat × Value)} {st : List Value} {s : Sto} {x1 : Int} {Q : Int → Sto → Prop} (hd : decode M.1 pc = .ok (.invokevirtual 41, 3)) (hM : M.2.1 = RX1) (hn : pc + 3 = npc) (hcat : (st.map (fun v => v.category)).sum ≤ 8) (hR : 0 + 1 ≤ M.2.2.2.2.frames ∧ 8 + (2 + 11) + 0 ≤ M.2.2.2.2.locals) (hC : cs + 0 ≤ M.2.2.2.2.cells ∧ ss + 0 ≤ M.2.2.2.2.slots) (h : K_Gr_hasNode n x1 s Q) (k' : ∀ r s1, Q r s1 → Go (SL n) M F (cs + 0) (ss + 0) npc l (iV r :: st) s1) : Go (SL n) M F cs ss pc l (iV x1 :: .ref 1 :: st) s := g_callV (k := 1) (as := [iV x1]) (st := st) hd hn rfl ⟨ltSL (by decide), rfl⟩ rfl rfl (show okV M 41 RX2 yX2_hasNode cX2_hasNode 2 (some .boolean) 1 from ⟨⟨by rw [hM]; exact tw_515, tw_263, tw_264, tw_32, tw_265⟩, rfl, by decide, by decide, by decide +kernel⟩) rfl hcat hC hR h (fun r s1 h => by obtain ⟨x, rfl, h2⟩ := h; exact k' x s1 h2)
theorem iv_Fi_44 {n cs ss : Nat} {M : Mth} {F : Option Value → Sto → Prop} {pc npc : Nat} {l : List (Nat × Value)} {st : List Value} {s : Sto} {k1 : Nat} {x2 : Int} {x3 : Int} {x4 : Int} {Q : Sto → Prop} (hd : decode M.1 pc = .ok (.invokevirtual 44, 3)) (hM : M.2.1 = RX1) (hn : pc + 3 = npc) (hcat : (st.map (fun v => v.category)).sum ≤ 8) (hR : 0 + 1 ≤ M.2.2.2.2.frames ∧ 8 + (6 + 11) + 0 ≤ M.2.2.2.2.locals) (hC : cs + 0 ≤ M.2.2.2.2.cells ∧ ss + 0 ≤ M.2.2.2.2.slots) (h : K_Fi_giveAlong n k1 x2 x3 x4 s Q) (k' : ∀ s1, Q s1 → Go (SL n) M F (cs + 0) (ss + 0) npc l st s1) : Go (SL n) M F cs ss pc l (iV x4 :: iV x3 :: iV x2 :: .ref k1 :: .ref 40 :: st) s := g_callV (k := 40) (as := [.ref k1, iV x2, iV x3, iV x4]) (st := st) hd hn rfl ⟨ltSL (by decide), rfl⟩ rfl rfl (show okV M 44 RX1 yX1_giveAlong cX1_giveAlong 6 none 4 from ⟨⟨by rw [hM]; exact tw_516, tw_518, tw_12, tw_37, tw_519⟩, rfl, by decide, by decide, by decide +kernel⟩) rfl hcat hC hR h (fun r s1 h => by obtain ⟨rfl, h2⟩ := h; exact k' s1 h2)
theorem iv_Fi_64 {n cs ss : Nat} {M : Mth} {F : Option Value → Sto → Prop} {pc npc : Nat} {l : List (Nat × Value)} {st : List Value} {s : Sto} {k1 : Nat} {x2 : Int} {x3 : Int} {Q : Sto → Prop} (hd : decode M.1 pc = .ok (.invokevirtual 64, 3)) (hM : M.2.1 = RX1) (hn : pc + 3 = npc) (hcat : (st.map (fun v => v.category)).sum ≤ 8) (hR : 1 + 1 ≤ M.2.2.2.2.frames ∧ 8 + (5 + 11) + 25 ≤ M.2.2.2.2.locals) (hC : cs + 0 ≤ M.2.2.2.2.cells ∧ ss + 0 ≤ M.2.2.2.2.slots) (h : K_Fi_give n k1 x2 x3 s Q) (k' : ∀ s1, Q s1 → Go (SL n) M F (cs + 0) (ss + 0) npc l st s1) : Go (SL n) M F cs ss pc l (iV x3 :: iV x2 :: .ref k1 :: .ref 40 :: st) s := g_callV (k := 40) (as := [.ref k1, iV x2, iV x3]) (st := st) hd hn rfl ⟨ltSL (by decide), rfl⟩ rfl rfl (show okV M 64 RX1 yX1_give cX1_give 5 none 3 from ⟨⟨by rw [hM]; exact tw_511, tw_512, tw_513, tw_37, tw_514⟩, rfl, by decide, by decide, by decide +kernel⟩) rfl hcat hC hR h (fun r s1 h => by obtain ⟨rfl, h2⟩ := h; exact k' s1 h2)
theorem gf_Fi_9 {n cs ss : Nat} {M : Mth} {F : Option Value → Sto → Prop} {pc npc : Nat} {l : List (Nat × Value)} {st : List Value} {s : Sto} (hd : decode M.1 pc = .ok (.getfield 9, 3)) (hM : M.2.1 = RX1) (hn : pc + 3 = npc) (k' : Go (SL n) M F cs ss npc l (.ref 41 :: st) s) : Go (SL n) M F cs ss pc l (.ref 40 :: st) s := g_get (N := 3) (f := 0) hd hn ⟨ltSL (by decide), rfl, rfl⟩ rfl inw_X1 (by decide) (by rw [hM]; exact tw_180) rfl (Or.inr ⟨_, rfl, rfl⟩) k'
theorem iv_Fi_55 {n cs ss : Nat} {M : Mth} {F : Option Value → Sto → Prop} {pc npc : Nat} {l : List (Nat × Value)} {st : List Value} {s : Sto} {k0 : Nat} {Q : Sto → Prop} (hd : decode M.1 pc = .ok (.invokestatic 55, 3)) (hM : M.2.1 = RX1) (hn : pc + 3 = npc) (hcat : (st.map (fun v => v.category)).sum ≤ 8) (hR : 0 + 1 ≤ M.2.2.2.2.frames ∧ 8 + (2 + 11) + 0 ≤ M.2.2.2.2.locals) (hC : cs + 0 ≤ M.2.2.2.2.cells ∧ ss + 0 ≤ M.2.2.2.2.slots) (h : K_Cg_clearChips n k0 s Q) (k' : ∀ s1, Q s1 → Go (SL n) M F (cs + 0) (ss + 0) npc l st s1) : Go (SL n) M F cs ss pc l (.ref k0 :: st) s := g_callN (as := [.ref k0]) (st := st) hd hn rfl (show okN M 55 yX10_clearChips cX10_clearChips 2 none 1 from ⟨⟨by rw [hM]; decide +kernel, tw_316, tw_31, tw_317⟩, by decide, by decide, by decide +kernel⟩) rfl hcat hC hR h (fun r s1 h => by obtain ⟨rfl, h2⟩ := h; exact k' s1 h2)
theorem iv_Fi_60 {n cs ss : Nat} {M : Mth} {F : Option Value → Sto → Prop} {pc npc : Nat} {l : List (Nat × Value)} {st : List Value} {s : Sto} {k1 : Nat} {x2 : Int} {Q : Int → Sto → Prop} (hd : decode M.1 pc = .ok (.invokevirtual 60, 3)) (hM : M.2.1 = RX1) (hn : pc + 3 = npc) (hcat : (st.map (fun v => v.category)).sum ≤ 8) (hR : 3 + 1 ≤ M.2.2.2.2.frames ∧ 8 + (5 + 11) + 65 ≤ M.2.2.2.2.locals) (hC : cs + 0 ≤ M.2.2.2.2.cells ∧ ss + 0 ≤ M.2.2.2.2.slots) (h : K_Fi_fireWhilePossible n k1 x2 s Q) (k' : ∀ r s1, Q r s1 → Go (SL n) M F (cs + 0) (ss + 0) npc l (iV r :: st) s1) : Go (SL n) M F cs ss pc l (iV x2 :: .ref k1 :: .ref 40 :: st) s := g_callV (k := 40) (as := [.ref k1, iV x2]) (st := st) hd hn rfl ⟨ltSL (by decide), rfl⟩ rfl rfl (show okV M 60 RX1 yX1_fireWhilePossible cX1_fireWhilePossible 5 (some .int) 2 from ⟨⟨by rw [hM]; exact tw_507, tw_509, tw_11, tw_37, tw_510⟩, rfl, by decide, by decide, by decide +kernel⟩) rfl hcat hC hR h (fun r s1 h => by obtain ⟨x, rfl, h2⟩ := h; exact k' x s1 h2)
theorem iv_Cg_186 {n cs ss : Nat} {M : Mth} {F : Option Value → Sto → Prop} {pc npc : Nat} {l : List (Nat × Value)} {st : List Value} {s : Sto} {k1 : Nat} {Q : Int → Sto → Prop} (hd : decode M.1 pc = .ok (.invokevirtual 186, 3)) (hM : M.2.1 = RX10) (hn : pc + 3 = npc) (hcat : (st.map (fun v => v.category)).sum ≤ 8) (hR : 4 + 1 ≤ M.2.2.2.2.frames ∧ 8 + (6 + 11) + 89 ≤ M.2.2.2.2.locals) (hC : cs + 0 ≤ M.2.2.2.2.cells ∧ ss + 0 ≤ M.2.2.2.2.slots) (h : K_Fi_settle n k1 s Q) (k' : ∀ r s1, Q r s1 → Go (SL n) M F (cs + 0) (ss + 0) npc l (iV r :: st) s1) : Go (SL n) M F cs ss pc l (.ref k1 :: .ref 40 :: st) s := g_callV (k := 40) (as := [.ref k1]) (st := st) hd hn rfl ⟨ltSL (by decide), rfl⟩ rfl rfl (show okV M 186 RX1 yX1_settle cX1_settle 6 (some .int) 1 from ⟨⟨by rw [hM]; exact tw_501, tw_502, tw_503, tw_37, tw_504⟩, rfl, by decide, by decide, by decide +kernel⟩) rfl hcat hC hR h (fun r s1 h => by obtain ⟨x, rfl, h2⟩ := h; exact k' x s1 h2)
theorem iv_Bu_22 {n cs ss : Nat} {M : Mth} {F : Option Value → Sto → Prop} {pc npc : Nat} {l : List (Nat × Value)} {st : List Value} {s : Sto} {x1 : Int} {Q : Int → Sto → Prop} (hd : decode M.1 pc = .ok (.invokevirtual 22, 3)) (hM : M.2.1 = RX0) (hn : pc + 3 = npc) (hcat : (st.map (fun v => v.category)).sum ≤ 8) (hR : 0 + 1 ≤ M.2.2.2.2.frames ∧ 8 + (2 + 11) + 0 ≤ M.2.2.2.2.locals) (hC : cs + 0 ≤ M.2.2.2.2.cells ∧ ss + 0 ≤ M.2.2.2.2.slots) (h : K_Gr_hasNode n x1 s Q) (k' : ∀ r s1, Q r s1 → Go (SL n) M F (cs + 0) (ss + 0) npc l (iV r :: st) s1) : Go (SL n) M F cs ss pc l (iV x1 :: .ref 1 :: st) s := g_callV (k := 1) (as := [iV x1]) (st := st) hd hn rfl ⟨ltSL (by decide), rfl⟩ rfl rfl (show okV M 22 RX2 yX2_hasNode cX2_hasNode 2 (some .boolean) 1 from ⟨⟨by rw [hM]; exact tw_537, tw_263, tw_264, tw_32, tw_265⟩, rfl, by decide, by decide, by decide +kernel⟩) rfl hcat hC hR h (fun r s1 h => by obtain ⟨x, rfl, h2⟩ := h; exact k' x s1 h2)
theorem gf_Fi_19 {n cs ss : Nat} {M : Mth} {F : Option Value → Sto → Prop} {pc npc : Nat} {l : List (Nat × Value)} {st : List Value} {s : Sto} (hd : decode M.1 pc = .ok (.getfield 19, 3)) (hM : M.2.1 = RX1) (hn : pc + 3 = npc) (k' : Go (SL n) M F cs ss npc l (.ref 37 :: st) s) : Go (SL n) M F cs ss pc l (.ref 40 :: st) s := g_get (N := 3) (f := 2) hd hn ⟨ltSL (by decide), rfl, rfl⟩ rfl inw_X1 (by decide) (by rw [hM]; exact tw_183) rfl (Or.inr ⟨_, rfl, rfl⟩) k'
theorem iv_Fi_77 {n cs ss : Nat} {M : Mth} {F : Option Value → Sto → Prop} {pc npc : Nat} {l : List (Nat × Value)} {st : List Value} {s : Sto} {x1 : Int} {Q : Int → Sto → Prop} (hd : decode M.1 pc = .ok (.invokevirtual 77, 3)) (hM : M.2.1 = RX1) (hn : pc + 3 = npc) (hcat : (st.map (fun v => v.category)).sum ≤ 8) (hR : 1 + 1 ≤ M.2.2.2.2.frames ∧ 8 + (2 + 11) + 21 ≤ M.2.2.2.2.locals) (hC : cs + 0 ≤ M.2.2.2.2.cells ∧ ss + 0 ≤ M.2.2.2.2.slots) (h : K_Bu_hasBurnt n x1 s Q) (k' : ∀ r s1, Q r s1 → Go (SL n) M F (cs + 0) (ss + 0) npc l (iV r :: st) s1) : Go (SL n) M F cs ss pc l (iV x1 :: .ref 37 :: st) s := g_callV (k := 37) (as := [iV x1]) (st := st) hd hn rfl ⟨ltSL (by decide), rfl⟩ rfl rfl (show okV M 77 RX0 yX0_hasBurnt cX0_hasBurnt 2 (some .boolean) 1 from ⟨⟨by rw [hM]; exact tw_533, tw_534, tw_535, tw_36, tw_536⟩, rfl, by decide, by decide, by decide +kernel⟩) rfl hcat hC hR h (fun r s1 h => by obtain ⟨x, rfl, h2⟩ := h; exact k' x s1 h2)
theorem iv_Fi_68 {n cs ss : Nat} {M : Mth} {F : Option Value → Sto → Prop} {pc npc : Nat} {l : List (Nat × Value)} {st : List Value} {s : Sto} {k1 : Nat} {Q : Int → Sto → Prop} (hd : decode M.1 pc = .ok (.invokevirtual 68, 3)) (hM : M.2.1 = RX1) (hn : pc + 3 = npc) (hcat : (st.map (fun v => v.category)).sum ≤ 8) (hR : 3 + 1 ≤ M.2.2.2.2.frames ∧ 8 + (3 + 11) + 69 ≤ M.2.2.2.2.locals) (hC : cs + 0 ≤ M.2.2.2.2.cells ∧ ss + 0 ≤ M.2.2.2.2.slots) (h : K_Bu_allBurnBySecondRule n k1 s Q) (k' : ∀ r s1, Q r s1 → Go (SL n) M F (cs + 0) (ss + 0) npc l (iV r :: st) s1) : Go (SL n) M F cs ss pc l (.ref k1 :: .ref 37 :: st) s := g_callV (k := 37) (as := [.ref k1]) (st := st) hd hn rfl ⟨ltSL (by decide), rfl⟩ rfl rfl (show okV M 68 RX0 yX0_allBurnBySecondRule cX0_allBurnBySecondRule 3 (some .boolean) 1 from ⟨⟨by rw [hM]; exact tw_528, tw_442, tw_443, tw_36, tw_444⟩, rfl, by decide, by decide, by decide +kernel⟩) rfl hcat hC hR h (fun r s1 h => by obtain ⟨x, rfl, h2⟩ := h; exact k' x s1 h2)
theorem iv_Fi_74 {n cs ss : Nat} {M : Mth} {F : Option Value → Sto → Prop} {pc npc : Nat} {l : List (Nat × Value)} {st : List Value} {s : Sto} {k1 : Nat} {Q : Sto → Prop} (hd : decode M.1 pc = .ok (.invokevirtual 74, 3)) (hM : M.2.1 = RX1) (hn : pc + 3 = npc) (hcat : (st.map (fun v => v.category)).sum ≤ 8) (hR : 2 + 1 ≤ M.2.2.2.2.frames ∧ 8 + (4 + 11) + 42 ≤ M.2.2.2.2.locals) (hC : cs + 0 ≤ M.2.2.2.2.cells ∧ ss + 0 ≤ M.2.2.2.2.slots) (h : K_Fi_fireUnburnt n k1 s Q) (k' : ∀ s1, Q s1 → Go (SL n) M F (cs + 0) (ss + 0) npc l st s1) : Go (SL n) M F cs ss pc l (.ref k1 :: .ref 40 :: st) s := g_callV (k := 40) (as := [.ref k1]) (st := st) hd hn rfl ⟨ltSL (by decide), rfl⟩ rfl rfl (show okV M 74 RX1 yX1_fireUnburnt cX1_fireUnburnt 4 none 1 from ⟨⟨by rw [hM]; exact tw_529, tw_531, tw_13, tw_37, tw_532⟩, rfl, by decide, by decide, by decide +kernel⟩) rfl hcat hC hR h (fun r s1 h => by obtain ⟨rfl, h2⟩ := h; exact k' s1 h2)
theorem iv_Cg_196 {n cs ss : Nat} {M : Mth} {F : Option Value → Sto → Prop} {pc npc : Nat} {l : List (Nat × Value)} {st : List Value} {s : Sto} {k1 : Nat} {Q : Int → Sto → Prop} (hd : decode M.1 pc = .ok (.invokevirtual 196, 3)) (hM : M.2.1 = RX10) (hn : pc + 3 = npc) (hcat : (st.map (fun v => v.category)).sum ≤ 8) (hR : 4 + 1 ≤ M.2.2.2.2.frames ∧ 8 + (3 + 11) + 91 ≤ M.2.2.2.2.locals) (hC : cs + 0 ≤ M.2.2.2.2.cells ∧ ss + 0 ≤ M.2.2.2.2.slots) (h : K_Fi_fireSets n k1 s Q) (k' : ∀ r s1, Q r s1 → Go (SL n) M F (cs + 0) (ss + 0) npc l (iV r :: st) s1) : Go (SL n) M F cs ss pc l (.ref k1 :: .ref 40 :: st) s := g_callV (k := 40) (as := [.ref k1]) (st := st) hd hn rfl ⟨ltSL (by decide), rfl⟩ rfl rfl (show okV M 196 RX1 yX1_fireSets cX1_fireSets 3 (some .int) 1 from ⟨⟨by rw [hM]; exact tw_524, tw_525, tw_526, tw_37, tw_527⟩, rfl, by decide, by decide, by decide +kernel⟩) rfl hcat hC hR h (fun r s1 h => by obtain ⟨x, rfl, h2⟩ := h; exact k' x s1 h2)
theorem iv_Fi_80 {n cs ss : Nat} {M : Mth} {F : Option Value → Sto → Prop} {pc npc : Nat} {l : List (Nat × Value)} {st : List Value} {s : Sto} {k1 : Nat} {Q : Int → Sto → Prop} (hd : decode M.1 pc = .ok (.invokevirtual 80, 3)) (hM : M.2.1 = RX1) (hn : pc + 3 = npc) (hcat : (st.map (fun v => v.category)).sum ≤ 8) (hR : 4 + 1 ≤ M.2.2.2.2.frames ∧ 8 + (6 + 11) + 89 ≤ M.2.2.2.2.locals) (hC : cs + 0 ≤ M.2.2.2.2.cells ∧ ss + 0 ≤ M.2.2.2.2.slots) (h : K_Fi_settle n k1 s Q) (k' : ∀ r s1, Q r s1 → Go (SL n) M F (cs + 0) (ss + 0) npc l (iV r :: st) s1) : Go (SL n) M F cs ss pc l (.ref k1 :: .ref 40 :: st) s := g_callV (k := 40) (as := [.ref k1]) (st := st) hd hn rfl ⟨ltSL (by decide), rfl⟩ rfl rfl (show okV M 80 RX1 yX1_settle cX1_settle 6 (some .int) 1 from ⟨⟨by rw [hM]; exact tw_547, tw_502, tw_503, tw_37, tw_504⟩, rfl, by decide, by decide, by decide +kernel⟩) rfl hcat hC hR h (fun r s1 h => by obtain ⟨x, rfl, h2⟩ := h; exact k' x s1 h2)
theorem iv_Fi_84 {n cs ss : Nat} {M : Mth} {F : Option Value → Sto → Prop} {pc npc : Nat} {l : List (Nat × Value)} {st : List Value} {s : Sto} {k1 : Nat} {Q : Sto → Prop} (hd : decode M.1 pc = .ok (.invokevirtual 84, 3)) (hM : M.2.1 = RX1) (hn : pc + 3 = npc) (hcat : (st.map (fun v => v.category)).sum ≤ 8) (hR : 2 + 1 ≤ M.2.2.2.2.frames ∧ 8 + (3 + 11) + 42 ≤ M.2.2.2.2.locals) (hC : cs + 0 ≤ M.2.2.2.2.cells ∧ ss + 0 ≤ M.2.2.2.2.slots) (h : K_Fi_mirror n k1 s Q) (k' : ∀ s1, Q s1 → Go (SL n) M F (cs + 0) (ss + 0) npc l st s1) : Go (SL n) M F cs ss pc l (.ref k1 :: .ref 40 :: st) s := g_callV (k := 40) (as := [.ref k1]) (st := st) hd hn rfl ⟨ltSL (by decide), rfl⟩ rfl rfl (show okV M 84 RX1 yX1_mirror cX1_mirror 3 none 1 from ⟨⟨by rw [hM]; exact tw_548, tw_550, tw_14, tw_37, tw_551⟩, rfl, by decide, by decide, by decide +kernel⟩) rfl hcat hC hR h (fun r s1 h => by obtain ⟨rfl, h2⟩ := h; exact k' s1 h2)
theorem iv_Fi_87 {n cs ss : Nat} {M : Mth} {F : Option Value → Sto → Prop} {pc npc : Nat} {l : List (Nat × Value)} {st : List Value} {s : Sto} {k1 : Nat} {Q : Int → Sto → Prop} (hd : decode M.1 pc = .ok (.invokevirtual 87, 3)) (hM : M.2.1 = RX1) (hn : pc + 3 = npc) (hcat : (st.map (fun v => v.category)).sum ≤ 8) (hR : 4 + 1 ≤ M.2.2.2.2.frames ∧ 8 + (3 + 11) + 91 ≤ M.2.2.2.2.locals) (hC : cs + 0 ≤ M.2.2.2.2.cells ∧ ss + 0 ≤ M.2.2.2.2.slots) (h : K_Fi_fireSets n k1 s Q) (k' : ∀ r s1, Q r s1 → Go (SL n) M F (cs + 0) (ss + 0) npc l (iV r :: st) s1) : Go (SL n) M F cs ss pc l (.ref k1 :: .ref 40 :: st) s := g_callV (k := 40) (as := [.ref k1]) (st := st) hd hn rfl ⟨ltSL (by decide), rfl⟩ rfl rfl (show okV M 87 RX1 yX1_fireSets cX1_fireSets 3 (some .int) 1 from ⟨⟨by rw [hM]; exact tw_552, tw_525, tw_526, tw_37, tw_527⟩, rfl, by decide, by decide, by decide +kernel⟩) rfl hcat hC hR h (fun r s1 h => by obtain ⟨x, rfl, h2⟩ := h; exact k' x s1 h2)
theorem gf_Cg_84 {n cs ss : Nat} {M : Mth} {F : Option Value → Sto → Prop} {pc npc : Nat} {l : List (Nat × Value)} {st : List Value} {s : Sto} (hd : decode M.1 pc = .ok (.getfield 84, 3)) (hM : M.2.1 = RX10) (hn : pc + 3 = npc) (k' : Go (SL n) M F cs ss npc l (.ref 188 :: st) s) : Go (SL n) M F cs ss pc l (.ref 0 :: st) s := g_get (N := 12) (f := 10) hd hn ⟨ltSL (by decide), rfl, rfl⟩ rfl inw_X10 (by decide) (by rw [hM]; exact tw_280) rfl (Or.inr ⟨_, rfl, rfl⟩) k'
theorem iv_Cg_189 {n cs ss : Nat} {M : Mth} {F : Option Value → Sto → Prop} {pc npc : Nat} {l : List (Nat × Value)} {st : List Value} {s : Sto} {k0 : Nat} {k1 : Nat} {Q : Sto → Prop} (hd : decode M.1 pc = .ok (.invokestatic 189, 3)) (hM : M.2.1 = RX10) (hn : pc + 3 = npc) (hcat : (st.map (fun v => v.category)).sum ≤ 8) (hR : 0 + 1 ≤ M.2.2.2.2.frames ∧ 8 + (3 + 11) + 0 ≤ M.2.2.2.2.locals) (hC : cs + 0 ≤ M.2.2.2.2.cells ∧ ss + 0 ≤ M.2.2.2.2.slots) (h : K_Cg_copyChips n k0 k1 s Q) (k' : ∀ s1, Q s1 → Go (SL n) M F (cs + 0) (ss + 0) npc l st s1) : Go (SL n) M F cs ss pc l (.ref k1 :: .ref k0 :: st) s := g_callS (as := [.ref k0, .ref k1]) (st := st) hd hn rfl (show okS M 189 yX10_copyChips cX10_copyChips 3 none 2 from ⟨⟨by rw [hM]; exact tw_542, tw_400, tw_31, tw_401⟩, by decide, by decide, by decide +kernel⟩) rfl hcat hC hR h (fun r s1 h => by obtain ⟨rfl, h2⟩ := h; exact k' s1 h2)
theorem iv_Cg_199 {n cs ss : Nat} {M : Mth} {F : Option Value → Sto → Prop} {pc npc : Nat} {l : List (Nat × Value)} {st : List Value} {s : Sto} {k1 : Nat} {Q : Sto → Prop} (hd : decode M.1 pc = .ok (.invokevirtual 199, 3)) (hM : M.2.1 = RX10) (hn : pc + 3 = npc) (hcat : (st.map (fun v => v.category)).sum ≤ 8) (hR : 5 + 1 ≤ M.2.2.2.2.frames ∧ 8 + (2 + 11) + 114 ≤ M.2.2.2.2.locals) (hC : cs + 0 ≤ M.2.2.2.2.cells ∧ ss + 0 ≤ M.2.2.2.2.slots) (h : K_Fi_toRecurrent n k1 s Q) (k' : ∀ s1, Q s1 → Go (SL n) M F (cs + 0) (ss + 0) npc l st s1) : Go (SL n) M F cs ss pc l (.ref k1 :: .ref 40 :: st) s := g_callV (k := 40) (as := [.ref k1]) (st := st) hd hn rfl ⟨ltSL (by decide), rfl⟩ rfl rfl (show okV M 199 RX1 yX1_toRecurrent cX1_toRecurrent 2 none 1 from ⟨⟨by rw [hM]; exact tw_543, tw_544, tw_545, tw_37, tw_546⟩, rfl, by decide, by decide, by decide +kernel⟩) rfl hcat hC hR h (fun r s1 h => by obtain ⟨rfl, h2⟩ := h; exact k' s1 h2)
theorem iv_Cg_202 {n cs ss : Nat} {M : Mth} {F : Option Value → Sto → Prop} {pc npc : Nat} {l : List (Nat × Value)} {st : List Value} {s : Sto} {k0 : Nat} {k1 : Nat} {Q : Int → Sto → Prop} (hd : decode M.1 pc = .ok (.invokestatic 202, 3)) (hM : M.2.1 = RX10) (hn : pc + 3 = npc) (hcat : (st.map (fun v => v.category)).sum ≤ 8) (hR : 0 + 1 ≤ M.2.2.2.2.frames ∧ 8 + (3 + 11) + 0 ≤ M.2.2.2.2.locals) (hC : cs + 0 ≤ M.2.2.2.2.cells ∧ ss + 0 ≤ M.2.2.2.2.slots) (h : K_Cg_isEqual n k0 k1 s Q) (k' : ∀ r s1, Q r s1 → Go (SL n) M F (cs + 0) (ss + 0) npc l (iV r :: st) s1) : Go (SL n) M F cs ss pc l (.ref k1 :: .ref k0 :: st) s := g_callS (as := [.ref k0, .ref k1]) (st := st) hd hn rfl (show okS M 202 yX10_isEqual cX10_isEqual 3 (some .boolean) 2 from ⟨⟨by rw [hM]; exact tw_553, tw_554, tw_31, tw_555⟩, by decide, by decide, by decide +kernel⟩) rfl hcat hC hR h (fun r s1 h => by obtain ⟨x, rfl, h2⟩ := h; exact k' x s1 h2)
theorem iv_Ma_63 {n cs ss : Nat} {M : Mth} {F : Option Value → Sto → Prop} {pc npc : Nat} {l : List (Nat × Value)} {st : List Value} {s : Sto} {x1 : Int} {Q : Int → Sto → Prop} (hd : decode M.1 pc = .ok (.invokevirtual 63, 3)) (hM : M.2.1 = RX5) (hn : pc + 3 = npc) (hcat : (st.map (fun v => v.category)).sum ≤ 8) (hR : 1 + 1 ≤ M.2.2.2.2.frames ∧ 8 + (6 + 11) + 23 ≤ M.2.2.2.2.locals) (hC : cs + 0 ≤ M.2.2.2.2.cells ∧ ss + 0 ≤ M.2.2.2.2.slots) (h : K_Gr_findParts n x1 s Q) (k' : ∀ r s1, Q r s1 → Go (SL n) M F (cs + 0) (ss + 0) npc l (iV r :: st) s1) : Go (SL n) M F cs ss pc l (iV x1 :: .ref 1 :: st) s := g_callV (k := 1) (as := [iV x1]) (st := st) hd hn rfl ⟨ltSL (by decide), rfl⟩ rfl rfl (show okV M 63 RX2 yX2_findParts cX2_findParts 6 (some .int) 1 from ⟨⟨by rw [hM]; exact tw_568, tw_365, tw_366, tw_32, tw_367⟩, rfl, by decide, by decide, by decide +kernel⟩) rfl hcat hC hR h (fun r s1 h => by obtain ⟨x, rfl, h2⟩ := h; exact k' x s1 h2)
theorem iv_Ma_67 {n cs ss : Nat} {M : Mth} {F : Option Value → Sto → Prop} {pc npc : Nat} {l : List (Nat × Value)} {st : List Value} {s : Sto} {x1 : Int} {Q : Sto → Prop} (hd : decode M.1 pc = .ok (.invokevirtual 67, 3)) (hM : M.2.1 = RX5) (hn : pc + 3 = npc) (hcat : (st.map (fun v => v.category)).sum ≤ 8) (hR : 3 + 1 ≤ M.2.2.2.2.frames ∧ 8 + (5 + 11) + 64 ≤ M.2.2.2.2.locals) (hC : cs + 0 ≤ M.2.2.2.2.cells ∧ ss + 0 ≤ M.2.2.2.2.slots) (h : K_Ma_fill n x1 s Q) (k' : ∀ s1, Q s1 → Go (SL n) M F (cs + 0) (ss + 0) npc l st s1) : Go (SL n) M F cs ss pc l (iV x1 :: .ref 42 :: st) s := g_callV (k := 42) (as := [iV x1]) (st := st) hd hn rfl ⟨ltSL (by decide), rfl⟩ rfl rfl (show okV M 67 RX5 yX5_fill cX5_fill 5 none 1 from ⟨⟨by rw [hM]; exact tw_569, tw_463, tw_464, tw_38, tw_465⟩, rfl, by decide, by decide, by decide +kernel⟩) rfl hcat hC hR h (fun r s1 h => by obtain ⟨rfl, h2⟩ := h; exact k' s1 h2)
theorem iv_Ma_75 {n cs ss : Nat} {M : Mth} {F : Option Value → Sto → Prop} {pc npc : Nat} {l : List (Nat × Value)} {st : List Value} {s : Sto} {Q : Sto → Prop} (hd : decode M.1 pc = .ok (.invokevirtual 75, 3)) (hM : M.2.1 = RX5) (hn : pc + 3 = npc) (hcat : (st.map (fun v => v.category)).sum ≤ 8) (hR : 4 + 1 ≤ M.2.2.2.2.frames ∧ 8 + (1 + 11) + 88 ≤ M.2.2.2.2.locals) (hC : cs + 0 ≤ M.2.2.2.2.cells ∧ ss + 0 ≤ M.2.2.2.2.slots) (h : K_Ma_fillWhole n s Q) (k' : ∀ s1, Q s1 → Go (SL n) M F (cs + 0) (ss + 0) npc l st s1) : Go (SL n) M F cs ss pc l (.ref 42 :: st) s := g_callV (k := 42) (as := []) (st := st) hd hn rfl ⟨ltSL (by decide), rfl⟩ rfl rfl (show okV M 75 RX5 yX5_fillWhole cX5_fillWhole 1 none 0 from ⟨⟨by rw [hM]; exact tw_564, tw_566, tw_15, tw_38, tw_567⟩, rfl, by decide, by decide, by decide +kernel⟩) rfl hcat hC hR h (fun r s1 h => by obtain ⟨rfl, h2⟩ := h; exact k' s1 h2)
theorem iv_Ma_78 {n cs ss : Nat} {M : Mth} {F : Option Value → Sto → Prop} {pc npc : Nat} {l : List (Nat × Value)} {st : List Value} {s : Sto} {Q : Int → Sto → Prop} (hd : decode M.1 pc = .ok (.invokevirtual 78, 3)) (hM : M.2.1 = RX5) (hn : pc + 3 = npc) (hcat : (st.map (fun v => v.category)).sum ≤ 8) (hR : 1 + 1 ≤ M.2.2.2.2.frames ∧ 8 + (7 + 11) + 29 ≤ M.2.2.2.2.locals) (hC : cs + 0 ≤ M.2.2.2.2.cells ∧ ss + 0 ≤ M.2.2.2.2.slots) (h : K_Ma_eliminate n s Q) (k' : ∀ r s1, Q r s1 → Go (SL n) M F (cs + 0) (ss + 0) npc l (jV r :: st) s1) : Go (SL n) M F cs ss pc l (.ref 42 :: st) s := g_callV (k := 42) (as := []) (st := st) hd hn rfl ⟨ltSL (by decide), rfl⟩ rfl rfl (show okV M 78 RX5 yX5_eliminate cX5_eliminate 7 (some .long) 0 from ⟨⟨by rw [hM]; exact tw_570, tw_476, tw_477, tw_38, tw_478⟩, rfl, by decide, by decide, by decide +kernel⟩) rfl hcat hC hR h (fun r s1 h => by obtain ⟨x, rfl, h2⟩ := h; exact k' x s1 h2)
theorem iv_Ma_82 {n cs ss : Nat} {M : Mth} {F : Option Value → Sto → Prop} {pc npc : Nat} {l : List (Nat × Value)} {st : List Value} {s : Sto} {x0 : Int} {x2 : Int} {Q : Int → Sto → Prop} (hd : decode M.1 pc = .ok (.invokestatic 82, 3)) (hM : M.2.1 = RX5) (hn : pc + 3 = npc) (hcat : (st.map (fun v => v.category)).sum ≤ 8) (hR : 1 + 1 ≤ M.2.2.2.2.frames ∧ 8 + (11 + 11) + 21 ≤ M.2.2.2.2.locals) (hC : cs + 0 ≤ M.2.2.2.2.cells ∧ ss + 0 ≤ M.2.2.2.2.slots) (h : K_Ma_commonDivisor n x0 x2 s Q) (k' : ∀ r s1, Q r s1 → Go (SL n) M F (cs + 0) (ss + 0) npc l (jV r :: st) s1) : Go (SL n) M F cs ss pc l (jV x2 :: jV x0 :: st) s := g_callS (as := [jV x0, jV x2]) (st := st) hd hn rfl (show okS M 82 yX5_commonDivisor cX5_commonDivisor 11 (some .long) 2 from ⟨⟨by rw [hM]; exact tw_571, tw_572, tw_38, tw_573⟩, by decide, by decide, by decide +kernel⟩) rfl hcat hC hR h (fun r s1 h => by obtain ⟨x, rfl, h2⟩ := h; exact k' x s1 h2)
theorem gf_Cg_60 {n cs ss : Nat} {M : Mth} {F : Option Value → Sto → Prop} {pc npc : Nat} {l : List (Nat × Value)} {st : List Value} {s : Sto} (hd : decode M.1 pc = .ok (.getfield 60, 3)) (hM : M.2.1 = RX10) (hn : pc + 3 = npc) (k' : Go (SL n) M F cs ss npc l (.ref 42 :: st) s) : Go (SL n) M F cs ss pc l (.ref 0 :: st) s := g_get (N := 12) (f := 6) hd hn ⟨ltSL (by decide), rfl, rfl⟩ rfl inw_X10 (by decide) (by rw [hM]; exact tw_276) rfl (Or.inr ⟨_, rfl, rfl⟩) k'
theorem iv_Cg_247 {n cs ss : Nat} {M : Mth} {F : Option Value → Sto → Prop} {pc npc : Nat} {l : List (Nat × Value)} {st : List Value} {s : Sto} {k1 : Nat} {Q : Int → Sto → Prop} (hd : decode M.1 pc = .ok (.invokevirtual 247, 3)) (hM : M.2.1 = RX10) (hn : pc + 3 = npc) (hcat : (st.map (fun v => v.category)).sum ≤ 8) (hR : 5 + 1 ≤ M.2.2.2.2.frames ∧ 8 + (7 + 11) + 108 ≤ M.2.2.2.2.locals) (hC : cs + 0 ≤ M.2.2.2.2.cells ∧ ss + 0 ≤ M.2.2.2.2.slots) (h : K_Ma_orderOf n k1 s Q) (k' : ∀ r s1, Q r s1 → Go (SL n) M F (cs + 0) (ss + 0) npc l (jV r :: st) s1) : Go (SL n) M F cs ss pc l (.ref k1 :: .ref 42 :: st) s := g_callV (k := 42) (as := [.ref k1]) (st := st) hd hn rfl ⟨ltSL (by decide), rfl⟩ rfl rfl (show okV M 247 RX5 yX5_orderOf cX5_orderOf 7 (some .long) 1 from ⟨⟨by rw [hM]; exact tw_560, tw_561, tw_562, tw_38, tw_563⟩, rfl, by decide, by decide, by decide +kernel⟩) rfl hcat hC hR h (fun r s1 h => by obtain ⟨x, rfl, h2⟩ := h; exact k' x s1 h2)
theorem iv_Ma_109 {n cs ss : Nat} {M : Mth} {F : Option Value → Sto → Prop} {pc npc : Nat} {l : List (Nat × Value)} {st : List Value} {s : Sto} {x1 : Int} {x2 : Int} {Q : Sto → Prop} (hd : decode M.1 pc = .ok (.invokevirtual 109, 3)) (hM : M.2.1 = RX5) (hn : pc + 3 = npc) (hcat : (st.map (fun v => v.category)).sum ≤ 8) (hR : 0 + 1 ≤ M.2.2.2.2.frames ∧ 8 + (6 + 11) + 0 ≤ M.2.2.2.2.locals) (hC : cs + 0 ≤ M.2.2.2.2.cells ∧ ss + 0 ≤ M.2.2.2.2.slots) (h : K_Ma_swapRows n x1 x2 s Q) (k' : ∀ s1, Q s1 → Go (SL n) M F (cs + 0) (ss + 0) npc l st s1) : Go (SL n) M F cs ss pc l (iV x2 :: iV x1 :: .ref 42 :: st) s := g_callV (k := 42) (as := [iV x1, iV x2]) (st := st) hd hn rfl ⟨ltSL (by decide), rfl⟩ rfl rfl (show okV M 109 RX5 yX5_swapRows cX5_swapRows 6 none 2 from ⟨⟨by rw [hM]; exact tw_598, tw_600, tw_18, tw_38, tw_601⟩, rfl, by decide, by decide, by decide +kernel⟩) rfl hcat hC hR h (fun r s1 h => by obtain ⟨rfl, h2⟩ := h; exact k' s1 h2)
theorem iv_Ma_112 {n cs ss : Nat} {M : Mth} {F : Option Value → Sto → Prop} {pc npc : Nat} {l : List (Nat × Value)} {st : List Value} {s : Sto} {x1 : Int} {x2 : Int} {Q : Sto → Prop} (hd : decode M.1 pc = .ok (.invokevirtual 112, 3)) (hM : M.2.1 = RX5) (hn : pc + 3 = npc) (hcat : (st.map (fun v => v.category)).sum ≤ 8) (hR : 0 + 1 ≤ M.2.2.2.2.frames ∧ 8 + (6 + 11) + 0 ≤ M.2.2.2.2.locals) (hC : cs + 0 ≤ M.2.2.2.2.cells ∧ ss + 0 ≤ M.2.2.2.2.slots) (h : K_Ma_swapColumns n x1 x2 s Q) (k' : ∀ s1, Q s1 → Go (SL n) M F (cs + 0) (ss + 0) npc l st s1) : Go (SL n) M F cs ss pc l (iV x2 :: iV x1 :: .ref 42 :: st) s := g_callV (k := 42) (as := [iV x1, iV x2]) (st := st) hd hn rfl ⟨ltSL (by decide), rfl⟩ rfl rfl (show okV M 112 RX5 yX5_swapColumns cX5_swapColumns 6 none 2 from ⟨⟨by rw [hM]; exact tw_602, tw_604, tw_19, tw_38, tw_605⟩, rfl, by decide, by decide, by decide +kernel⟩) rfl hcat hC hR h (fun r s1 h => by obtain ⟨rfl, h2⟩ := h; exact k' s1 h2)
theorem iv_Ma_86 {n cs ss : Nat} {M : Mth} {F : Option Value → Sto → Prop} {pc npc : Nat} {l : List (Nat × Value)} {st : List Value} {s : Sto} {x0 : Int} {x2 : Int} {Q : Int → Sto → Prop} (hd : decode M.1 pc = .ok (.invokestatic 86, 3)) (hM : M.2.1 = RX5) (hn : pc + 3 = npc) (hcat : (st.map (fun v => v.category)).sum ≤ 8) (hR : 0 + 1 ≤ M.2.2.2.2.frames ∧ 8 + (6 + 11) + 0 ≤ M.2.2.2.2.locals) (hC : cs + 0 ≤ M.2.2.2.2.cells ∧ ss + 0 ≤ M.2.2.2.2.slots) (h : K_JM_floorMod n x0 x2 s Q) (k' : ∀ r s1, Q r s1 → Go (SL n) M F (cs + 0) (ss + 0) npc l (jV r :: st) s1) : Go (SL n) M F cs ss pc l (jV x2 :: jV x0 :: st) s := g_callS (as := [jV x0, jV x2]) (st := st) hd hn rfl (show okS M 86 yJ9_floorMod_f86c9 cJ9_floorMod_f86c9 6 (some .long) 2 from ⟨⟨by rw [hM]; exact tw_587, tw_588, tw_41, tw_589⟩, by decide, by decide, by decide +kernel⟩) rfl hcat hC hR h (fun r s1 h => by obtain ⟨x, rfl, h2⟩ := h; exact k' x s1 h2)
theorem iv_Ma_115 {n cs ss : Nat} {M : Mth} {F : Option Value → Sto → Prop} {pc npc : Nat} {l : List (Nat × Value)} {st : List Value} {s : Sto} {x1 : Int} {x2 : Int} {x3 : Int} {x5 : Int} {Q : Sto → Prop} (hd : decode M.1 pc = .ok (.invokevirtual 115, 3)) (hM : M.2.1 = RX5) (hn : pc + 3 = npc) (hcat : (st.map (fun v => v.category)).sum ≤ 8) (hR : 1 + 1 ≤ M.2.2.2.2.frames ∧ 8 + (8 + 11) + 25 ≤ M.2.2.2.2.locals) (hC : cs + 0 ≤ M.2.2.2.2.cells ∧ ss + 0 ≤ M.2.2.2.2.slots) (h : K_Ma_addRow n x1 x2 x3 x5 s Q) (k' : ∀ s1, Q s1 → Go (SL n) M F (cs + 0) (ss + 0) npc l st s1) : Go (SL n) M F cs ss pc l (jV x5 :: jV x3 :: iV x2 :: iV x1 :: .ref 42 :: st) s := g_callV (k := 42) (as := [iV x1, iV x2, jV x3, jV x5]) (st := st) hd hn rfl ⟨ltSL (by decide), rfl⟩ rfl rfl (show okV M 115 RX5 yX5_addRow cX5_addRow 8 none 4 from ⟨⟨by rw [hM]; exact tw_610, tw_612, tw_21, tw_38, tw_613⟩, rfl, by decide, by decide, by decide +kernel⟩) rfl hcat hC hR h (fun r s1 h => by obtain ⟨rfl, h2⟩ := h; exact k' s1 h2)
theorem iv_Ma_119 {n cs ss : Nat} {M : Mth} {F : Option Value → Sto → Prop} {pc npc : Nat} {l : List (Nat × Value)} {st : List Value} {s : Sto} {x1 : Int} {x2 : Int} {x3 : Int} {x5 : Int} {Q : Sto → Prop} (hd : decode M.1 pc = .ok (.invokevirtual 119, 3)) (hM : M.2.1 = RX5) (hn : pc + 3 = npc) (hcat : (st.map (fun v => v.category)).sum ≤ 8) (hR : 1 + 1 ≤ M.2.2.2.2.frames ∧ 8 + (8 + 11) + 25 ≤ M.2.2.2.2.locals) (hC : cs + 0 ≤ M.2.2.2.2.cells ∧ ss + 0 ≤ M.2.2.2.2.slots) (h : K_Ma_addColumn n x1 x2 x3 x5 s Q) (k' : ∀ s1, Q s1 → Go (SL n) M F (cs + 0) (ss + 0) npc l st s1) : Go (SL n) M F cs ss pc l (jV x5 :: jV x3 :: iV x2 :: iV x1 :: .ref 42 :: st) s := g_callV (k := 42) (as := [iV x1, iV x2, jV x3, jV x5]) (st := st) hd hn rfl ⟨ltSL (by decide), rfl⟩ rfl rfl (show okV M 119 RX5 yX5_addColumn cX5_addColumn 8 none 4 from ⟨⟨by rw [hM]; exact tw_618, tw_620, tw_23, tw_38, tw_621⟩, rfl, by decide, by decide, by decide +kernel⟩) rfl hcat hC hR h (fun r s1 h => by obtain ⟨rfl, h2⟩ := h; exact k' s1 h2)
theorem iv_Ma_96 {n cs ss : Nat} {M : Mth} {F : Option Value → Sto → Prop} {pc npc : Nat} {l : List (Nat × Value)} {st : List Value} {s : Sto} {x1 : Int} {Q : Int → Sto → Prop} (hd : decode M.1 pc = .ok (.invokevirtual 96, 3)) (hM : M.2.1 = RX5) (hn : pc + 3 = npc) (hcat : (st.map (fun v => v.category)).sum ≤ 8) (hR : 1 + 1 ≤ M.2.2.2.2.frames ∧ 8 + (7 + 11) + 25 ≤ M.2.2.2.2.locals) (hC : cs + 0 ≤ M.2.2.2.2.cells ∧ ss + 0 ≤ M.2.2.2.2.slots) (h : K_Ma_bringLeastToCorner n x1 s Q) (k' : ∀ r s1, Q r s1 → Go (SL n) M F (cs + 0) (ss + 0) npc l (iV r :: st) s1) : Go (SL n) M F cs ss pc l (iV x1 :: .ref 42 :: st) s := g_callV (k := 42) (as := [iV x1]) (st := st) hd hn rfl ⟨ltSL (by decide), rfl⟩ rfl rfl (show okV M 96 RX5 yX5_bringLeastToCorner cX5_bringLeastToCorner 7 (some .boolean) 1 from ⟨⟨by rw [hM]; exact tw_594, tw_596, tw_17, tw_38, tw_597⟩, rfl, by decide, by decide, by decide +kernel⟩) rfl hcat hC hR h (fun r s1 h => by obtain ⟨x, rfl, h2⟩ := h; exact k' x s1 h2)
theorem iv_Ma_99 {n cs ss : Nat} {M : Mth} {F : Option Value → Sto → Prop} {pc npc : Nat} {l : List (Nat × Value)} {st : List Value} {s : Sto} {x1 : Int} {x2 : Int} {Q : Int → Sto → Prop} (hd : decode M.1 pc = .ok (.invokevirtual 99, 3)) (hM : M.2.1 = RX5) (hn : pc + 3 = npc) (hcat : (st.map (fun v => v.category)).sum ≤ 8) (hR : 2 + 1 ≤ M.2.2.2.2.frames ∧ 8 + (8 + 11) + 52 ≤ M.2.2.2.2.locals) (hC : cs + 0 ≤ M.2.2.2.2.cells ∧ ss + 0 ≤ M.2.2.2.2.slots) (h : K_Ma_clearColumn n x1 x2 s Q) (k' : ∀ r s1, Q r s1 → Go (SL n) M F (cs + 0) (ss + 0) npc l (iV r :: st) s1) : Go (SL n) M F cs ss pc l (jV x2 :: iV x1 :: .ref 42 :: st) s := g_callV (k := 42) (as := [iV x1, jV x2]) (st := st) hd hn rfl ⟨ltSL (by decide), rfl⟩ rfl rfl (show okV M 99 RX5 yX5_clearColumn cX5_clearColumn 8 (some .boolean) 2 from ⟨⟨by rw [hM]; exact tw_606, tw_608, tw_20, tw_38, tw_609⟩, rfl, by decide, by decide, by decide +kernel⟩) rfl hcat hC hR h (fun r s1 h => by obtain ⟨x, rfl, h2⟩ := h; exact k' x s1 h2)
theorem iv_Ma_103 {n cs ss : Nat} {M : Mth} {F : Option Value → Sto → Prop} {pc npc : Nat} {l : List (Nat × Value)} {st : List Value} {s : Sto} {x1 : Int} {x2 : Int} {Q : Int → Sto → Prop} (hd : decode M.1 pc = .ok (.invokevirtual 103, 3)) (hM : M.2.1 = RX5) (hn : pc + 3 = npc) (hcat : (st.map (fun v => v.category)).sum ≤ 8) (hR : 2 + 1 ≤ M.2.2.2.2.frames ∧ 8 + (8 + 11) + 52 ≤ M.2.2.2.2.locals) (hC : cs + 0 ≤ M.2.2.2.2.cells ∧ ss + 0 ≤ M.2.2.2.2.slots) (h : K_Ma_clearRow n x1 x2 s Q) (k' : ∀ r s1, Q r s1 → Go (SL n) M F (cs + 0) (ss + 0) npc l (iV r :: st) s1) : Go (SL n) M F cs ss pc l (jV x2 :: iV x1 :: .ref 42 :: st) s := g_callV (k := 42) (as := [iV x1, jV x2]) (st := st) hd hn rfl ⟨ltSL (by decide), rfl⟩ rfl rfl (show okV M 103 RX5 yX5_clearRow cX5_clearRow 8 (some .boolean) 2 from ⟨⟨by rw [hM]; exact tw_614, tw_616, tw_22, tw_38, tw_617⟩, rfl, by decide, by decide, by decide +kernel⟩) rfl hcat hC hR h (fun r s1 h => by obtain ⟨x, rfl, h2⟩ := h; exact k' x s1 h2)
theorem iv_Ma_106 {n cs ss : Nat} {M : Mth} {F : Option Value → Sto → Prop} {pc npc : Nat} {l : List (Nat × Value)} {st : List Value} {s : Sto} {x1 : Int} {x2 : Int} {Q : Int → Sto → Prop} (hd : decode M.1 pc = .ok (.invokevirtual 106, 3)) (hM : M.2.1 = RX5) (hn : pc + 3 = npc) (hcat : (st.map (fun v => v.category)).sum ≤ 8) (hR : 2 + 1 ≤ M.2.2.2.2.frames ∧ 8 + (8 + 11) + 52 ≤ M.2.2.2.2.locals) (hC : cs + 0 ≤ M.2.2.2.2.cells ∧ ss + 0 ≤ M.2.2.2.2.slots) (h : K_Ma_addUndividedRow n x1 x2 s Q) (k' : ∀ r s1, Q r s1 → Go (SL n) M F (cs + 0) (ss + 0) npc l (iV r :: st) s1) : Go (SL n) M F cs ss pc l (jV x2 :: iV x1 :: .ref 42 :: st) s := g_callV (k := 42) (as := [iV x1, jV x2]) (st := st) hd hn rfl ⟨ltSL (by decide), rfl⟩ rfl rfl (show okV M 106 RX5 yX5_addUndividedRow cX5_addUndividedRow 8 (some .boolean) 2 from ⟨⟨by rw [hM]; exact tw_622, tw_624, tw_24, tw_38, tw_625⟩, rfl, by decide, by decide, by decide +kernel⟩) rfl hcat hC hR h (fun r s1 h => by obtain ⟨x, rfl, h2⟩ := h; exact k' x s1 h2)
theorem pf_Ma_15 {n cs ss : Nat} {M : Mth} {F : Option Value → Sto → Prop} {pc npc : Nat} {l : List (Nat × Value)} {st : List Value} {s : Sto} {x : Int} (hd : decode M.1 pc = .ok (.putfield 15, 3)) (hM : M.2.1 = RX5) (hn : pc + 3 = npc) (k' : Go (SL n) M F cs ss npc l st (up s 42 1 x)) : Go (SL n) M F cs ss pc l (iV x :: .ref 42 :: st) s := g_put (N := 5) (f := 1) tyX5 hd hn ⟨ltSL (by decide), rfl, rfl⟩ rfl inw_X5 tyX5_ok nmX5 (by decide) (by rw [hM]; exact tw_201) rfl rfl rfl ⟨rfl, rfl⟩ k'
theorem iv_Ma_91 {n cs ss : Nat} {M : Mth} {F : Option Value → Sto → Prop} {pc npc : Nat} {l : List (Nat × Value)} {st : List Value} {s : Sto} {x1 : Int} {x2 : Int} {Q : Sto → Prop} (hd : decode M.1 pc = .ok (.invokevirtual 91, 3)) (hM : M.2.1 = RX5) (hn : pc + 3 = npc) (hcat : (st.map (fun v => v.category)).sum ≤ 8) (hR : 3 + 1 ≤ M.2.2.2.2.frames ∧ 8 + (7 + 11) + 79 ≤ M.2.2.2.2.locals) (hC : cs + 0 ≤ M.2.2.2.2.cells ∧ ss + 0 ≤ M.2.2.2.2.slots) (h : K_Ma_clearAround n x1 x2 s Q) (k' : ∀ s1, Q s1 → Go (SL n) M F (cs + 0) (ss + 0) npc l st s1) : Go (SL n) M F cs ss pc l (jV x2 :: iV x1 :: .ref 42 :: st) s := g_callV (k := 42) (as := [iV x1, jV x2]) (st := st) hd hn rfl ⟨ltSL (by decide), rfl⟩ rfl rfl (show okV M 91 RX5 yX5_clearAround cX5_clearAround 7 none 2 from ⟨⟨by rw [hM]; exact tw_590, tw_592, tw_16, tw_38, tw_593⟩, rfl, by decide, by decide, by decide +kernel⟩) rfl hcat hC hR h (fun r s1 h => by obtain ⟨rfl, h2⟩ := h; exact k' s1 h2)
theorem gf_Ma_9 {n cs ss : Nat} {M : Mth} {F : Option Value → Sto → Prop} {pc npc : Nat} {l : List (Nat × Value)} {st : List Value} {s : Sto} (hd : decode M.1 pc = .ok (.getfield 9, 3)) (hM : M.2.1 = RX5) (hn : pc + 3 = npc) (k' : Go (SL n) M F cs ss npc l (.ref 43 :: st) s) : Go (SL n) M F cs ss pc l (.ref 42 :: st) s := g_get (N := 5) (f := 0) hd hn ⟨ltSL (by decide), rfl, rfl⟩ rfl inw_X5 (by decide) (by rw [hM]; exact tw_199) rfl (Or.inr ⟨_, rfl, rfl⟩) k'
theorem gf_Ma_15 {n cs ss : Nat} {M : Mth} {F : Option Value → Sto → Prop} {pc npc : Nat} {l : List (Nat × Value)} {st : List Value} {s : Sto} (hd : decode M.1 pc = .ok (.getfield 15, 3)) (hM : M.2.1 = RX5) (hn : pc + 3 = npc) (k' : Go (SL n) M F cs ss npc l (iV (s 42 1) :: st) s) : Go (SL n) M F cs ss pc l (.ref 42 :: st) s := g_get (N := 5) (f := 1) hd hn ⟨ltSL (by decide), rfl, rfl⟩ rfl inw_X5 (by decide) (by rw [hM]; exact tw_201) rfl (Or.inl ⟨rfl, rfl⟩) k'
theorem iv_Cg_253 {n cs ss : Nat} {M : Mth} {F : Option Value → Sto → Prop} {pc npc : Nat} {l : List (Nat × Value)} {st : List Value} {s : Sto} {Q : Sto → Prop} (hd : decode M.1 pc = .ok (.invokevirtual 253, 3)) (hM : M.2.1 = RX10) (hn : pc + 3 = npc) (hcat : (st.map (fun v => v.category)).sum ≤ 8) (hR : 5 + 1 ≤ M.2.2.2.2.frames ∧ 8 + (6 + 11) + 108 ≤ M.2.2.2.2.locals) (hC : cs + 0 ≤ M.2.2.2.2.cells ∧ ss + 0 ≤ M.2.2.2.2.slots) (h : K_Ma_findFactors n s Q) (k' : ∀ s1, Q s1 → Go (SL n) M F (cs + 0) (ss + 0) npc l st s1) : Go (SL n) M F cs ss pc l (.ref 42 :: st) s := g_callV (k := 42) (as := []) (st := st) hd hn rfl ⟨ltSL (by decide), rfl⟩ rfl rfl (show okV M 253 RX5 yX5_findFactors cX5_findFactors 6 none 0 from ⟨⟨by rw [hM]; exact tw_583, tw_584, tw_585, tw_38, tw_586⟩, rfl, by decide, by decide, by decide +kernel⟩) rfl hcat hC hR h (fun r s1 h => by obtain ⟨rfl, h2⟩ := h; exact k' s1 h2)
theorem gf_Cg_256 {n cs ss : Nat} {M : Mth} {F : Option Value → Sto → Prop} {pc npc : Nat} {l : List (Nat × Value)} {st : List Value} {s : Sto} (hd : decode M.1 pc = .ok (.getfield 256, 3)) (hM : M.2.1 = RX10) (hn : pc + 3 = npc) (k' : Go (SL n) M F cs ss npc l (iV (s 42 1) :: st) s) : Go (SL n) M F cs ss pc l (.ref 42 :: st) s := g_get (N := 5) (f := 1) hd hn ⟨ltSL (by decide), rfl, rfl⟩ rfl inw_X5 (by decide) (by rw [hM]; exact tw_202) rfl (Or.inl ⟨rfl, rfl⟩) k'
theorem gf_Cg_259 {n cs ss : Nat} {M : Mth} {F : Option Value → Sto → Prop} {pc npc : Nat} {l : List (Nat × Value)} {st : List Value} {s : Sto} (hd : decode M.1 pc = .ok (.getfield 259, 3)) (hM : M.2.1 = RX10) (hn : pc + 3 = npc) (k' : Go (SL n) M F cs ss npc l (.ref 43 :: st) s) : Go (SL n) M F cs ss pc l (.ref 42 :: st) s := g_get (N := 5) (f := 0) hd hn ⟨ltSL (by decide), rfl, rfl⟩ rfl inw_X5 (by decide) (by rw [hM]; exact tw_200) rfl (Or.inr ⟨_, rfl, rfl⟩) k'
theorem gf_Le_24 {n cs ss : Nat} {M : Mth} {F : Option Value → Sto → Prop} {pc npc : Nat} {l : List (Nat × Value)} {st : List Value} {s : Sto} (hd : decode M.1 pc = .ok (.getfield 24, 3)) (hM : M.2.1 = RX4) (hn : pc + 3 = npc) (k' : Go (SL n) M F cs ss npc l (.ref 1 :: st) s) : Go (SL n) M F cs ss pc l (.ref 55 :: st) s := g_get (N := 4) (f := 0) hd hn ⟨ltSL (by decide), rfl, rfl⟩ rfl inw_X4 (by decide) (by rw [hM]; exact tw_241) rfl (Or.inr ⟨_, rfl, rfl⟩) k'
theorem gf_Le_31 {n cs ss : Nat} {M : Mth} {F : Option Value → Sto → Prop} {pc npc : Nat} {l : List (Nat × Value)} {st : List Value} {s : Sto} (hd : decode M.1 pc = .ok (.getfield 31, 3)) (hM : M.2.1 = RX4) (hn : pc + 3 = npc) (k' : Go (SL n) M F cs ss npc l (iV (s 1 0) :: st) s) : Go (SL n) M F cs ss pc l (.ref 1 :: st) s := g_get (N := 8) (f := 0) hd hn ⟨ltSL (by decide), rfl, rfl⟩ rfl inw_X2 (by decide) (by rw [hM]; exact tw_62) rfl (Or.inl ⟨rfl, rfl⟩) k'
theorem gf_Le_11 {n cs ss : Nat} {M : Mth} {F : Option Value → Sto → Prop} {pc npc : Nat} {l : List (Nat × Value)} {st : List Value} {s : Sto} (hd : decode M.1 pc = .ok (.getfield 11, 3)) (hM : M.2.1 = RX4) (hn : pc + 3 = npc) (k' : Go (SL n) M F cs ss npc l (.ref 56 :: st) s) : Go (SL n) M F cs ss pc l (.ref 55 :: st) s := g_get (N := 4) (f := 1) hd hn ⟨ltSL (by decide), rfl, rfl⟩ rfl inw_X4 (by decide) (by rw [hM]; exact tw_242) rfl (Or.inr ⟨_, rfl, rfl⟩) k'
theorem gf_Le_44 {n cs ss : Nat} {M : Mth} {F : Option Value → Sto → Prop} {pc npc : Nat} {l : List (Nat × Value)} {st : List Value} {s : Sto} (hd : decode M.1 pc = .ok (.getfield 44, 3)) (hM : M.2.1 = RX4) (hn : pc + 3 = npc) (k' : Go (SL n) M F cs ss npc l (iV (s 1 1) :: st) s) : Go (SL n) M F cs ss pc l (.ref 1 :: st) s := g_get (N := 8) (f := 1) hd hn ⟨ltSL (by decide), rfl, rfl⟩ rfl inw_X2 (by decide) (by rw [hM]; exact tw_68) rfl (Or.inl ⟨rfl, rfl⟩) k'
theorem gf_Le_47 {n cs ss : Nat} {M : Mth} {F : Option Value → Sto → Prop} {pc npc : Nat} {l : List (Nat × Value)} {st : List Value} {s : Sto} (hd : decode M.1 pc = .ok (.getfield 47, 3)) (hM : M.2.1 = RX4) (hn : pc + 3 = npc) (k' : Go (SL n) M F cs ss npc l (.ref 2 :: st) s) : Go (SL n) M F cs ss pc l (.ref 1 :: st) s := g_get (N := 8) (f := 3) hd hn ⟨ltSL (by decide), rfl, rfl⟩ rfl inw_X2 (by decide) (by rw [hM]; exact tw_78) rfl (Or.inr ⟨_, rfl, rfl⟩) k'
theorem gf_Le_50 {n cs ss : Nat} {M : Mth} {F : Option Value → Sto → Prop} {pc npc : Nat} {l : List (Nat × Value)} {st : List Value} {s : Sto} (hd : decode M.1 pc = .ok (.getfield 50, 3)) (hM : M.2.1 = RX4) (hn : pc + 3 = npc) (k' : Go (SL n) M F cs ss npc l (.ref 3 :: st) s) : Go (SL n) M F cs ss pc l (.ref 1 :: st) s := g_get (N := 8) (f := 4) hd hn ⟨ltSL (by decide), rfl, rfl⟩ rfl inw_X2 (by decide) (by rw [hM]; exact tw_83) rfl (Or.inr ⟨_, rfl, rfl⟩) k'
theorem gf_Le_17 {n cs ss : Nat} {M : Mth} {F : Option Value → Sto → Prop} {pc npc : Nat} {l : List (Nat × Value)} {st : List Value} {s : Sto} (hd : decode M.1 pc = .ok (.getfield 17, 3)) (hM : M.2.1 = RX4) (hn : pc + 3 = npc) (k' : Go (SL n) M F cs ss npc l (.ref 57 :: st) s) : Go (SL n) M F cs ss pc l (.ref 55 :: st) s := g_get (N := 4) (f := 2) hd hn ⟨ltSL (by decide), rfl, rfl⟩ rfl inw_X4 (by decide) (by rw [hM]; exact tw_243) rfl (Or.inr ⟨_, rfl, rfl⟩) k'
theorem iv_Le_53 {n cs ss : Nat} {M : Mth} {F : Option Value → Sto → Prop} {pc npc : Nat} {l : List (Nat × Value)} {st : List Value} {s : Sto} {k0 : Nat} {k1 : Nat} {x2 : Int} {Q : Sto → Prop} (hd : decode M.1 pc = .ok (.invokestatic 53, 3)) (hM : M.2.1 = RX4) (hn : pc + 3 = npc) (hcat : (st.map (fun v => v.category)).sum ≤ 8) (hR : 0 + 1 ≤ M.2.2.2.2.frames ∧ 8 + (4 + 11) + 0 ≤ M.2.2.2.2.locals) (hC : cs + 0 ≤ M.2.2.2.2.cells ∧ ss + 0 ≤ M.2.2.2.2.slots) (h : K_Le_subtractShifted n k0 k1 x2 s Q) (k' : ∀ s1, Q s1 → Go (SL n) M F (cs + 0) (ss + 0) npc l st s1) : Go (SL n) M F cs ss pc l (iV x2 :: .ref k1 :: .ref k0 :: st) s := g_callS (as := [.ref k0, .ref k1, iV x2]) (st := st) hd hn rfl (show okS M 53 yX4_subtractShifted cX4_subtractShifted 4 none 3 from ⟨⟨by rw [hM]; exact tw_643, tw_644, tw_40, tw_645⟩, by decide, by decide, by decide +kernel⟩) rfl hcat hC hR h (fun r s1 h => by obtain ⟨rfl, h2⟩ := h; exact k' s1 h2)
theorem gf_Le_20 {n cs ss : Nat} {M : Mth} {F : Option Value → Sto → Prop} {pc npc : Nat} {l : List (Nat × Value)} {st : List Value} {s : Sto} (hd : decode M.1 pc = .ok (.getfield 20, 3)) (hM : M.2.1 = RX4) (hn : pc + 3 = npc) (k' : Go (SL n) M F cs ss npc l (.ref 186 :: st) s) : Go (SL n) M F cs ss pc l (.ref 55 :: st) s := g_get (N := 4) (f := 3) hd hn ⟨ltSL (by decide), rfl, rfl⟩ rfl inw_X4 (by decide) (by rw [hM]; exact tw_244) rfl (Or.inr ⟨_, rfl, rfl⟩) k'
theorem iv_Le_28 {n cs ss : Nat} {M : Mth} {F : Option Value → Sto → Prop} {pc npc : Nat} {l : List (Nat × Value)} {st : List Value} {s : Sto} {Q : Sto → Prop} (hd : decode M.1 pc = .ok (.invokevirtual 28, 3)) (hM : M.2.1 = RX4) (hn : pc + 3 = npc) (hcat : (st.map (fun v => v.category)).sum ≤ 8) (hR : 0 + 1 ≤ M.2.2.2.2.frames ∧ 8 + (4 + 11) + 0 ≤ M.2.2.2.2.locals) (hC : cs + 0 ≤ M.2.2.2.2.cells ∧ ss + 0 ≤ M.2.2.2.2.slots) (h : K_Le_countEdgesInside n s Q) (k' : ∀ s1, Q s1 → Go (SL n) M F (cs + 0) (ss + 0) npc l st s1) : Go (SL n) M F cs ss pc l (.ref 55 :: st) s := g_callV (k := 55) (as := []) (st := st) hd hn rfl ⟨ltSL (by decide), rfl⟩ rfl rfl (show okV M 28 RX4 yX4_countEdgesInside cX4_countEdgesInside 4 none 0 from ⟨⟨by rw [hM]; exact tw_635, tw_637, tw_25, tw_40, tw_638⟩, rfl, by decide, by decide, by decide +kernel⟩) rfl hcat hC hR h (fun r s1 h => by obtain ⟨rfl, h2⟩ := h; exact k' s1 h2)
theorem iv_Le_37 {n cs ss : Nat} {M : Mth} {F : Option Value → Sto → Prop} {pc npc : Nat} {l : List (Nat × Value)} {st : List Value} {s : Sto} {x1 : Int} {Q : Sto → Prop} (hd : decode M.1 pc = .ok (.invokevirtual 37, 3)) (hM : M.2.1 = RX4) (hn : pc + 3 = npc) (hcat : (st.map (fun v => v.category)).sum ≤ 8) (hR : 1 + 1 ≤ M.2.2.2.2.frames ∧ 8 + (4 + 11) + 23 ≤ M.2.2.2.2.locals) (hC : cs + 0 ≤ M.2.2.2.2.cells ∧ ss + 0 ≤ M.2.2.2.2.slots) (h : K_Le_sumConnected n x1 s Q) (k' : ∀ s1, Q s1 → Go (SL n) M F (cs + 0) (ss + 0) npc l st s1) : Go (SL n) M F cs ss pc l (iV x1 :: .ref 55 :: st) s := g_callV (k := 55) (as := [iV x1]) (st := st) hd hn rfl ⟨ltSL (by decide), rfl⟩ rfl rfl (show okV M 37 RX4 yX4_sumConnected cX4_sumConnected 4 none 1 from ⟨⟨by rw [hM]; exact tw_639, tw_641, tw_26, tw_40, tw_642⟩, rfl, by decide, by decide, by decide +kernel⟩) rfl hcat hC hR h (fun r s1 h => by obtain ⟨rfl, h2⟩ := h; exact k' s1 h2)
theorem iv_Le_41 {n cs ss : Nat} {M : Mth} {F : Option Value → Sto → Prop} {pc npc : Nat} {l : List (Nat × Value)} {st : List Value} {s : Sto} {Q : Sto → Prop} (hd : decode M.1 pc = .ok (.invokevirtual 41, 3)) (hM : M.2.1 = RX4) (hn : pc + 3 = npc) (hcat : (st.map (fun v => v.category)).sum ≤ 8) (hR : 0 + 1 ≤ M.2.2.2.2.frames ∧ 8 + (6 + 11) + 0 ≤ M.2.2.2.2.locals) (hC : cs + 0 ≤ M.2.2.2.2.cells ∧ ss + 0 ≤ M.2.2.2.2.slots) (h : K_Le_divideByYMinusOne n s Q) (k' : ∀ s1, Q s1 → Go (SL n) M F (cs + 0) (ss + 0) npc l st s1) : Go (SL n) M F cs ss pc l (.ref 55 :: st) s := g_callV (k := 55) (as := []) (st := st) hd hn rfl ⟨ltSL (by decide), rfl⟩ rfl rfl (show okV M 41 RX4 yX4_divideByYMinusOne cX4_divideByYMinusOne 6 none 0 from ⟨⟨by rw [hM]; exact tw_646, tw_648, tw_27, tw_40, tw_649⟩, rfl, by decide, by decide, by decide +kernel⟩) rfl hcat hC hR h (fun r s1 h => by obtain ⟨rfl, h2⟩ := h; exact k' s1 h2)
theorem gf_Cg_76 {n cs ss : Nat} {M : Mth} {F : Option Value → Sto → Prop} {pc npc : Nat} {l : List (Nat × Value)} {st : List Value} {s : Sto} (hd : decode M.1 pc = .ok (.getfield 76, 3)) (hM : M.2.1 = RX10) (hn : pc + 3 = npc) (k' : Go (SL n) M F cs ss npc l (.ref 55 :: st) s) : Go (SL n) M F cs ss pc l (.ref 0 :: st) s := g_get (N := 12) (f := 8) hd hn ⟨ltSL (by decide), rfl, rfl⟩ rfl inw_X10 (by decide) (by rw [hM]; exact tw_278) rfl (Or.inr ⟨_, rfl, rfl⟩) k'
theorem iv_Cg_263 {n cs ss : Nat} {M : Mth} {F : Option Value → Sto → Prop} {pc npc : Nat} {l : List (Nat × Value)} {st : List Value} {s : Sto} {x1 : Int} {Q : Int → Sto → Prop} (hd : decode M.1 pc = .ok (.invokevirtual 263, 3)) (hM : M.2.1 = RX10) (hn : pc + 3 = npc) (hcat : (st.map (fun v => v.category)).sum ≤ 8) (hR : 2 + 1 ≤ M.2.2.2.2.frames ∧ 8 + (5 + 11) + 46 ≤ M.2.2.2.2.locals) (hC : cs + 0 ≤ M.2.2.2.2.cells ∧ ss + 0 ≤ M.2.2.2.2.slots) (h : K_Le_countAt n x1 s Q) (k' : ∀ r s1, Q r s1 → Go (SL n) M F (cs + 0) (ss + 0) npc l (jV r :: st) s1) : Go (SL n) M F cs ss pc l (iV x1 :: .ref 55 :: st) s := g_callV (k := 55) (as := [iV x1]) (st := st) hd hn rfl ⟨ltSL (by decide), rfl⟩ rfl rfl (show okV M 263 RX4 yX4_countAt cX4_countAt 5 (some .long) 1 from ⟨⟨by rw [hM]; exact tw_631, tw_632, tw_633, tw_40, tw_634⟩, rfl, by decide, by decide, by decide +kernel⟩) rfl hcat hC hR h (fun r s1 h => by obtain ⟨x, rfl, h2⟩ := h; exact k' x s1 h2)
theorem gf_Tr_39 {n cs ss : Nat} {M : Mth} {F : Option Value → Sto → Prop} {pc npc : Nat} {l : List (Nat × Value)} {st : List Value} {s : Sto} (hd : decode M.1 pc = .ok (.getfield 39, 3)) (hM : M.2.1 = RX9) (hn : pc + 3 = npc) (k' : Go (SL n) M F cs ss npc l (iV (s 1 1) :: st) s) : Go (SL n) M F cs ss pc l (.ref 1 :: st) s := g_get (N := 8) (f := 1) hd hn ⟨ltSL (by decide), rfl, rfl⟩ rfl inw_X2 (by decide) (by rw [hM]; exact tw_67) rfl (Or.inl ⟨rfl, rfl⟩) k'
theorem gf_Tr_68 {n cs ss : Nat} {M : Mth} {F : Option Value → Sto → Prop} {pc npc : Nat} {l : List (Nat × Value)} {st : List Value} {s : Sto} (hd : decode M.1 pc = .ok (.getfield 68, 3)) (hM : M.2.1 = RX9) (hn : pc + 3 = npc) (k' : Go (SL n) M F cs ss npc l (.ref 2 :: st) s) : Go (SL n) M F cs ss pc l (.ref 1 :: st) s := g_get (N := 8) (f := 3) hd hn ⟨ltSL (by decide), rfl, rfl⟩ rfl inw_X2 (by decide) (by rw [hM]; exact tw_79) rfl (Or.inr ⟨_, rfl, rfl⟩) k'
theorem iv_Tr_71 {n cs ss : Nat} {M : Mth} {F : Option Value → Sto → Prop} {pc npc : Nat} {l : List (Nat × Value)} {st : List Value} {s : Sto} {x0 : Int} {x1 : Int} {Q : Int → Sto → Prop} (hd : decode M.1 pc = .ok (.invokestatic 71, 3)) (hM : M.2.1 = RX9) (hn : pc + 3 = npc) (hcat : (st.map (fun v => v.category)).sum ≤ 8) (hR : 0 + 1 ≤ M.2.2.2.2.frames ∧ 8 + (2 + 11) + 0 ≤ M.2.2.2.2.locals) (hC : cs + 0 ≤ M.2.2.2.2.cells ∧ ss + 0 ≤ M.2.2.2.2.slots) (h : K_Tr_isIn n x0 x1 s Q) (k' : ∀ r s1, Q r s1 → Go (SL n) M F (cs + 0) (ss + 0) npc l (iV r :: st) s1) : Go (SL n) M F cs ss pc l (iV x1 :: iV x0 :: st) s := g_callS (as := [iV x0, iV x1]) (st := st) hd hn rfl (show okS M 71 yX9_isIn cX9_isIn 2 (some .boolean) 2 from ⟨⟨by rw [hM]; exact tw_663, tw_664, tw_39, tw_665⟩, by decide, by decide, by decide +kernel⟩) rfl hcat hC hR h (fun r s1 h => by obtain ⟨x, rfl, h2⟩ := h; exact k' x s1 h2)
theorem gf_Tr_75 {n cs ss : Nat} {M : Mth} {F : Option Value → Sto → Prop} {pc npc : Nat} {l : List (Nat × Value)} {st : List Value} {s : Sto} (hd : decode M.1 pc = .ok (.getfield 75, 3)) (hM : M.2.1 = RX9) (hn : pc + 3 = npc) (k' : Go (SL n) M F cs ss npc l (.ref 3 :: st) s) : Go (SL n) M F cs ss pc l (.ref 1 :: st) s := g_get (N := 8) (f := 4) hd hn ⟨ltSL (by decide), rfl, rfl⟩ rfl inw_X2 (by decide) (by rw [hM]; exact tw_84) rfl (Or.inr ⟨_, rfl, rfl⟩) k'
theorem gf_Tr_9 {n cs ss : Nat} {M : Mth} {F : Option Value → Sto → Prop} {pc npc : Nat} {l : List (Nat × Value)} {st : List Value} {s : Sto} (hd : decode M.1 pc = .ok (.getfield 9, 3)) (hM : M.2.1 = RX9) (hn : pc + 3 = npc) (k' : Go (SL n) M F cs ss npc l (.ref 54 :: st) s) : Go (SL n) M F cs ss pc l (.ref 53 :: st) s := g_get (N := 3) (f := 2) hd hn ⟨ltSL (by decide), rfl, rfl⟩ rfl inw_X9 (by decide) (by rw [hM]; exact tw_226) rfl (Or.inr ⟨_, rfl, rfl⟩) k'
theorem iv_Tr_47 {n cs ss : Nat} {M : Mth} {F : Option Value → Sto → Prop} {pc npc : Nat} {l : List (Nat × Value)} {st : List Value} {s : Sto} {k0 : Nat} {Q : Sto → Prop} (hd : decode M.1 pc = .ok (.invokestatic 47, 3)) (hM : M.2.1 = RX9) (hn : pc + 3 = npc) (hcat : (st.map (fun v => v.category)).sum ≤ 8) (hR : 0 + 1 ≤ M.2.2.2.2.frames ∧ 8 + (2 + 11) + 0 ≤ M.2.2.2.2.locals) (hC : cs + 0 ≤ M.2.2.2.2.cells ∧ ss + 0 ≤ M.2.2.2.2.slots) (h : K_Cg_clearChips n k0 s Q) (k' : ∀ s1, Q s1 → Go (SL n) M F (cs + 0) (ss + 0) npc l st s1) : Go (SL n) M F cs ss pc l (.ref k0 :: st) s := g_callN (as := [.ref k0]) (st := st) hd hn rfl (show okN M 47 yX10_clearChips cX10_clearChips 2 none 1 from ⟨⟨by rw [hM]; decide +kernel, tw_316, tw_31, tw_317⟩, by decide, by decide, by decide +kernel⟩) rfl hcat hC hR h (fun r s1 h => by obtain ⟨rfl, h2⟩ := h; exact k' s1 h2)
theorem gf_Tr_51 {n cs ss : Nat} {M : Mth} {F : Option Value → Sto → Prop} {pc npc : Nat} {l : List (Nat × Value)} {st : List Value} {s : Sto} (hd : decode M.1 pc = .ok (.getfield 51, 3)) (hM : M.2.1 = RX9) (hn : pc + 3 = npc) (k' : Go (SL n) M F cs ss npc l (iV (s 1 2) :: st) s) : Go (SL n) M F cs ss pc l (.ref 1 :: st) s := g_get (N := 8) (f := 2) hd hn ⟨ltSL (by decide), rfl, rfl⟩ rfl inw_X2 (by decide) (by rw [hM]; exact tw_71) rfl (Or.inl ⟨rfl, rfl⟩) k'
theorem iv_Tr_54 {n cs ss : Nat} {M : Mth} {F : Option Value → Sto → Prop} {pc npc : Nat} {l : List (Nat × Value)} {st : List Value} {s : Sto} {x1 : Int} {x2 : Int} {Q : Int → Sto → Prop} (hd : decode M.1 pc = .ok (.invokevirtual 54, 3)) (hM : M.2.1 = RX9) (hn : pc + 3 = npc) (hcat : (st.map (fun v => v.category)).sum ≤ 8) (hR : 1 + 1 ≤ M.2.2.2.2.frames ∧ 8 + (5 + 11) + 21 ≤ M.2.2.2.2.locals) (hC : cs + 0 ≤ M.2.2.2.2.cells ∧ ss + 0 ≤ M.2.2.2.2.slots) (h : K_Tr_lowestBorderEdge n x1 x2 s Q) (k' : ∀ r s1, Q r s1 → Go (SL n) M F (cs + 0) (ss + 0) npc l (iV r :: st) s1) : Go (SL n) M F cs ss pc l (iV x2 :: iV x1 :: .ref 53 :: st) s := g_callV (k := 53) (as := [iV x1, iV x2]) (st := st) hd hn rfl ⟨ltSL (by decide), rfl⟩ rfl rfl (show okV M 54 RX9 yX9_lowestBorderEdge cX9_lowestBorderEdge 5 (some .int) 2 from ⟨⟨by rw [hM]; exact tw_659, tw_661, tw_28, tw_39, tw_662⟩, rfl, by decide, by decide, by decide +kernel⟩) rfl hcat hC hR h (fun r s1 h => by obtain ⟨x, rfl, h2⟩ := h; exact k' x s1 h2)
theorem iv_Tr_58 {n cs ss : Nat} {M : Mth} {F : Option Value → Sto → Prop} {pc npc : Nat} {l : List (Nat × Value)} {st : List Value} {s : Sto} {x1 : Int} {Q : Int → Sto → Prop} (hd : decode M.1 pc = .ok (.invokevirtual 58, 3)) (hM : M.2.1 = RX9) (hn : pc + 3 = npc) (hcat : (st.map (fun v => v.category)).sum ≤ 8) (hR : 0 + 1 ≤ M.2.2.2.2.frames ∧ 8 + (2 + 11) + 0 ≤ M.2.2.2.2.locals) (hC : cs + 0 ≤ M.2.2.2.2.cells ∧ ss + 0 ≤ M.2.2.2.2.slots) (h : K_Gr_hasEdge n x1 s Q) (k' : ∀ r s1, Q r s1 → Go (SL n) M F (cs + 0) (ss + 0) npc l (iV r :: st) s1) : Go (SL n) M F cs ss pc l (iV x1 :: .ref 1 :: st) s := g_callV (k := 1) (as := [iV x1]) (st := st) hd hn rfl ⟨ltSL (by decide), rfl⟩ rfl rfl (show okV M 58 RX2 yX2_hasEdge cX2_hasEdge 2 (some .boolean) 1 from ⟨⟨by rw [hM]; exact tw_666, tw_340, tw_341, tw_32, tw_342⟩, rfl, by decide, by decide, by decide +kernel⟩) rfl hcat hC hR h (fun r s1 h => by obtain ⟨x, rfl, h2⟩ := h; exact k' x s1 h2)
theorem iv_Tr_62 {n cs ss : Nat} {M : Mth} {F : Option Value → Sto → Prop} {pc npc : Nat} {l : List (Nat × Value)} {st : List Value} {s : Sto} {x1 : Int} {x2 : Int} {Q : Int → Sto → Prop} (hd : decode M.1 pc = .ok (.invokevirtual 62, 3)) (hM : M.2.1 = RX9) (hn : pc + 3 = npc) (hcat : (st.map (fun v => v.category)).sum ≤ 8) (hR : 1 + 1 ≤ M.2.2.2.2.frames ∧ 8 + (3 + 11) + 21 ≤ M.2.2.2.2.locals) (hC : cs + 0 ≤ M.2.2.2.2.cells ∧ ss + 0 ≤ M.2.2.2.2.slots) (h : K_Tr_unmarkedEnd n x1 x2 s Q) (k' : ∀ r s1, Q r s1 → Go (SL n) M F (cs + 0) (ss + 0) npc l (iV r :: st) s1) : Go (SL n) M F cs ss pc l (iV x2 :: iV x1 :: .ref 53 :: st) s := g_callV (k := 53) (as := [iV x1, iV x2]) (st := st) hd hn rfl ⟨ltSL (by decide), rfl⟩ rfl rfl (show okV M 62 RX9 yX9_unmarkedEnd cX9_unmarkedEnd 3 (some .int) 2 from ⟨⟨by rw [hM]; exact tw_667, tw_669, tw_29, tw_39, tw_670⟩, rfl, by decide, by decide, by decide +kernel⟩) rfl hcat hC hR h (fun r s1 h => by obtain ⟨x, rfl, h2⟩ := h; exact k' x s1 h2)
theorem iv_Tr_65 {n cs ss : Nat} {M : Mth} {F : Option Value → Sto → Prop} {pc npc : Nat} {l : List (Nat × Value)} {st : List Value} {s : Sto} {x1 : Int} {Q : Int → Sto → Prop} (hd : decode M.1 pc = .ok (.invokevirtual 65, 3)) (hM : M.2.1 = RX9) (hn : pc + 3 = npc) (hcat : (st.map (fun v => v.category)).sum ≤ 8) (hR : 1 + 1 ≤ M.2.2.2.2.frames ∧ 8 + (2 + 11) + 21 ≤ M.2.2.2.2.locals) (hC : cs + 0 ≤ M.2.2.2.2.cells ∧ ss + 0 ≤ M.2.2.2.2.slots) (h : K_Gr_degreeOf n x1 s Q) (k' : ∀ r s1, Q r s1 → Go (SL n) M F (cs + 0) (ss + 0) npc l (iV r :: st) s1) : Go (SL n) M F cs ss pc l (iV x1 :: .ref 1 :: st) s := g_callV (k := 1) (as := [iV x1]) (st := st) hd hn rfl ⟨ltSL (by decide), rfl⟩ rfl rfl (show okV M 65 RX2 yX2_degreeOf cX2_degreeOf 2 (some .int) 1 from ⟨⟨by rw [hM]; exact tw_671, tw_380, tw_381, tw_32, tw_382⟩, rfl, by decide, by decide, by decide +kernel⟩) rfl hcat hC hR h (fun r s1 h => by obtain ⟨x, rfl, h2⟩ := h; exact k' x s1 h2)
theorem iv_Cg_267 {n cs ss : Nat} {M : Mth} {F : Option Value → Sto → Prop} {pc npc : Nat} {l : List (Nat × Value)} {st : List Value} {s : Sto} {k1 : Nat} {Q : Int → Sto → Prop} (hd : decode M.1 pc = .ok (.invokevirtual 267, 3)) (hM : M.2.1 = RX10) (hn : pc + 3 = npc) (hcat : (st.map (fun v => v.category)).sum ≤ 8) (hR : 2 + 1 ≤ M.2.2.2.2.frames ∧ 8 + (8 + 11) + 45 ≤ M.2.2.2.2.locals) (hC : cs + 0 ≤ M.2.2.2.2.cells ∧ ss + 0 ≤ M.2.2.2.2.slots) (h : K_Tr_treeOf n k1 s Q) (k' : ∀ r s1, Q r s1 → Go (SL n) M F (cs + 0) (ss + 0) npc l (iV r :: st) s1) : Go (SL n) M F cs ss pc l (.ref k1 :: .ref 53 :: st) s := g_callV (k := 53) (as := [.ref k1]) (st := st) hd hn rfl ⟨ltSL (by decide), rfl⟩ rfl rfl (show okV M 267 RX9 yX9_treeOf cX9_treeOf 8 (some .int) 1 from ⟨⟨by rw [hM]; exact tw_654, tw_655, tw_656, tw_39, tw_657⟩, rfl, by decide, by decide, by decide +kernel⟩) rfl hcat hC hR h (fun r s1 h => by obtain ⟨x, rfl, h2⟩ := h; exact k' x s1 h2)
theorem gf_Cg_193 {n cs ss : Nat} {M : Mth} {F : Option Value → Sto → Prop} {pc npc : Nat} {l : List (Nat × Value)} {st : List Value} {s : Sto} (hd : decode M.1 pc = .ok (.getfield 193, 3)) (hM : M.2.1 = RX10) (hn : pc + 3 = npc) (k' : Go (SL n) M F cs ss npc l (.ref 41 :: st) s) : Go (SL n) M F cs ss pc l (.ref 40 :: st) s := g_get (N := 3) (f := 0) hd hn ⟨ltSL (by decide), rfl, rfl⟩ rfl inw_X1 (by decide) (by rw [hM]; exact tw_181) rfl (Or.inr ⟨_, rfl, rfl⟩) k'
theorem iv_Cg_161 {n cs ss : Nat} {M : Mth} {F : Option Value → Sto → Prop} {pc npc : Nat} {l : List (Nat × Value)} {st : List Value} {s : Sto} {x1 : Int} {Q : Int → Sto → Prop} (hd : decode M.1 pc = .ok (.invokevirtual 161, 3)) (hM : M.2.1 = RX10) (hn : pc + 3 = npc) (hcat : (st.map (fun v => v.category)).sum ≤ 8) (hR : 1 + 1 ≤ M.2.2.2.2.frames ∧ 8 + (2 + 11) + 21 ≤ M.2.2.2.2.locals) (hC : cs + 0 ≤ M.2.2.2.2.cells ∧ ss + 0 ≤ M.2.2.2.2.slots) (h : K_Gr_degreeOf n x1 s Q) (k' : ∀ r s1, Q r s1 → Go (SL n) M F (cs + 0) (ss + 0) npc l (iV r :: st) s1) : Go (SL n) M F cs ss pc l (iV x1 :: .ref 1 :: st) s := g_callV (k := 1) (as := [iV x1]) (st := st) hd hn rfl ⟨ltSL (by decide), rfl⟩ rfl rfl (show okV M 161 RX2 yX2_degreeOf cX2_degreeOf 2 (some .int) 1 from ⟨⟨by rw [hM]; exact tw_680, tw_380, tw_381, tw_32, tw_382⟩, rfl, by decide, by decide, by decide +kernel⟩) rfl hcat hC hR h (fun r s1 h => by obtain ⟨x, rfl, h2⟩ := h; exact k' x s1 h2)
theorem iv_La_15 {n cs ss : Nat} {M : Mth} {F : Option Value → Sto → Prop} {pc npc : Nat} {l : List (Nat × Value)} {st : List Value} {s : Sto} {x1 : Int} {x2 : Int} {Q : Int → Sto → Prop} (hd : decode M.1 pc = .ok (.invokevirtual 15, 3)) (hM : M.2.1 = RL) (hn : pc + 3 = npc) (hcat : (st.map (fun v => v.category)).sum ≤ 8) (hR : 1 + 1 ≤ M.2.2.2.2.frames ∧ 8 + (3 + 11) + 21 ≤ M.2.2.2.2.locals) (hC : cs + 0 ≤ M.2.2.2.2.cells ∧ ss + 0 ≤ M.2.2.2.2.slots) (h : K_Cg_edge n x1 x2 s Q) (k' : ∀ r s1, Q r s1 → Go (SL n) M F (cs + 0) (ss + 0) npc l (iV r :: st) s1) : Go (SL n) M F cs ss pc l (iV x2 :: iV x1 :: .ref 0 :: st) s := g_callV (k := 0) (as := [iV x1, iV x2]) (st := st) hd hn rfl ⟨ltSL (by decide), rfl⟩ rfl rfl (show okV M 15 RX10 yX10_edge cX10_edge 3 (some .int) 2 from ⟨⟨by rw [hM]; exact tw_383, tw_384, tw_385, tw_31, tw_386⟩, rfl, by decide, by decide, by decide +kernel⟩) rfl hcat hC hR h (fun r s1 h => by obtain ⟨x, rfl, h2⟩ := h; exact k' x s1 h2)
theorem iv_Cg_178 {n cs ss : Nat} {M : Mth} {F : Option Value → Sto → Prop} {pc npc : Nat} {l : List (Nat × Value)} {st : List Value} {s : Sto} {k1 : Nat} {x2 : Int} {Q : Int → Sto → Prop} (hd : decode M.1 pc = .ok (.invokevirtual 178, 3)) (hM : M.2.1 = RX10) (hn : pc + 3 = npc) (hcat : (st.map (fun v => v.category)).sum ≤ 8) (hR : 2 + 1 ≤ M.2.2.2.2.frames ∧ 8 + (4 + 11) + 42 ≤ M.2.2.2.2.locals) (hC : cs + 0 ≤ M.2.2.2.2.cells ∧ ss + 0 ≤ M.2.2.2.2.slots) (h : K_Fi_canFire n k1 x2 s Q) (k' : ∀ r s1, Q r s1 → Go (SL n) M F (cs + 0) (ss + 0) npc l (iV r :: st) s1) : Go (SL n) M F cs ss pc l (iV x2 :: .ref k1 :: .ref 40 :: st) s := g_callV (k := 40) (as := [.ref k1, iV x2]) (st := st) hd hn rfl ⟨ltSL (by decide), rfl⟩ rfl rfl (show okV M 178 RX1 yX1_canFire cX1_canFire 4 (some .boolean) 2 from ⟨⟨by rw [hM]; exact tw_688, tw_415, tw_416, tw_37, tw_417⟩, rfl, by decide, by decide, by decide +kernel⟩) rfl hcat hC hR h (fun r s1 h => by obtain ⟨x, rfl, h2⟩ := h; exact k' x s1 h2)
theorem iv_Cg_182 {n cs ss : Nat} {M : Mth} {F : Option Value → Sto → Prop} {pc npc : Nat} {l : List (Nat × Value)} {st : List Value} {s : Sto} {k1 : Nat} {x2 : Int} {x3 : Int} {Q : Sto → Prop} (hd : decode M.1 pc = .ok (.invokevirtual 182, 3)) (hM : M.2.1 = RX10) (hn : pc + 3 = npc) (hcat : (st.map (fun v => v.category)).sum ≤ 8) (hR : 1 + 1 ≤ M.2.2.2.2.frames ∧ 8 + (5 + 11) + 25 ≤ M.2.2.2.2.locals) (hC : cs + 0 ≤ M.2.2.2.2.cells ∧ ss + 0 ≤ M.2.2.2.2.slots) (h : K_Fi_give n k1 x2 x3 s Q) (k' : ∀ s1, Q s1 → Go (SL n) M F (cs + 0) (ss + 0) npc l st s1) : Go (SL n) M F cs ss pc l (iV x3 :: iV x2 :: .ref k1 :: .ref 40 :: st) s := g_callV (k := 40) (as := [.ref k1, iV x2, iV x3]) (st := st) hd hn rfl ⟨ltSL (by decide), rfl⟩ rfl rfl (show okV M 182 RX1 yX1_give cX1_give 5 none 3 from ⟨⟨by rw [hM]; exact tw_689, tw_512, tw_513, tw_37, tw_514⟩, rfl, by decide, by decide, by decide +kernel⟩) rfl hcat hC hR h (fun r s1 h => by obtain ⟨rfl, h2⟩ := h; exact k' s1 h2)
theorem iv_La_26 {n cs ss : Nat} {M : Mth} {F : Option Value → Sto → Prop} {pc npc : Nat} {l : List (Nat × Value)} {st : List Value} {s : Sto} {k1 : Nat} {Q : Sto → Prop} (hd : decode M.1 pc = .ok (.invokestatic 26, 3)) (hM : M.2.1 = RL) (hn : pc + 3 = npc) (hcat : (st.map (fun v => v.category)).sum ≤ 8) (hR : 4 + 1 ≤ M.2.2.2.2.frames ∧ 8 + (3 + 11) + 89 ≤ M.2.2.2.2.locals) (hC : cs + 0 ≤ M.2.2.2.2.cells ∧ ss + 0 ≤ M.2.2.2.2.slots) (h : K_La_read n k1 s Q) (k' : ∀ s1, Q s1 → Go (SL n) M F (cs + 0) (ss + 0) npc l st s1) : Go (SL n) M F cs ss pc l (.ref k1 :: .ref 0 :: st) s := g_callS (as := [.ref 0, .ref k1]) (st := st) hd hn rfl (show okS M 26 yL_read cL_read 3 none 2 from ⟨⟨by rw [hM]; exact tw_494, tw_495, tw_30, tw_496⟩, by decide, by decide, by decide +kernel⟩) rfl hcat hC hR h (fun r s1 h => by obtain ⟨rfl, h2⟩ := h; exact k' s1 h2)
theorem iv_La_32 {n cs ss : Nat} {M : Mth} {F : Option Value → Sto → Prop} {pc npc : Nat} {l : List (Nat × Value)} {st : List Value} {s : Sto} {Q : Int → Sto → Prop} (hd : decode M.1 pc = .ok (.invokevirtual 32, 3)) (hM : M.2.1 = RL) (hn : pc + 3 = npc) (hcat : (st.map (fun v => v.category)).sum ≤ 8) (hR : 5 + 1 ≤ M.2.2.2.2.frames ∧ 8 + (1 + 11) + 114 ≤ M.2.2.2.2.locals) (hC : cs + 0 ≤ M.2.2.2.2.cells ∧ ss + 0 ≤ M.2.2.2.2.slots) (h : K_Cg_stabilize n s Q) (k' : ∀ r s1, Q r s1 → Go (SL n) M F (cs + 0) (ss + 0) npc l (iV r :: st) s1) : Go (SL n) M F cs ss pc l (.ref 0 :: st) s := g_callV (k := 0) (as := []) (st := st) hd hn rfl ⟨ltSL (by decide), rfl⟩ rfl rfl (show okV M 32 RX10 yX10_stabilize cX10_stabilize 1 (some .int) 0 from ⟨⟨by rw [hM]; exact tw_497, tw_498, tw_499, tw_31, tw_500⟩, rfl, by decide, by decide, by decide +kernel⟩) rfl hcat hC hR h (fun r s1 h => by obtain ⟨x, rfl, h2⟩ := h; exact k' x s1 h2)
theorem iv_La_36 {n cs ss : Nat} {M : Mth} {F : Option Value → Sto → Prop} {pc npc : Nat} {l : List (Nat × Value)} {st : List Value} {s : Sto} {Q : Int → Sto → Prop} (hd : decode M.1 pc = .ok (.invokevirtual 36, 3)) (hM : M.2.1 = RL) (hn : pc + 3 = npc) (hcat : (st.map (fun v => v.category)).sum ≤ 8) (hR : 5 + 1 ≤ M.2.2.2.2.frames ∧ 8 + (1 + 11) + 114 ≤ M.2.2.2.2.locals) (hC : cs + 0 ≤ M.2.2.2.2.cells ∧ ss + 0 ≤ M.2.2.2.2.slots) (h : K_Cg_reduce n s Q) (k' : ∀ r s1, Q r s1 → Go (SL n) M F (cs + 0) (ss + 0) npc l (iV r :: st) s1) : Go (SL n) M F cs ss pc l (.ref 0 :: st) s := g_callV (k := 0) (as := []) (st := st) hd hn rfl ⟨ltSL (by decide), rfl⟩ rfl rfl (show okV M 36 RX10 yX10_reduce cX10_reduce 1 (some .int) 0 from ⟨⟨by rw [hM]; exact tw_520, tw_521, tw_522, tw_31, tw_523⟩, rfl, by decide, by decide, by decide +kernel⟩) rfl hcat hC hR h (fun r s1 h => by obtain ⟨x, rfl, h2⟩ := h; exact k' x s1 h2)
theorem iv_La_39 {n cs ss : Nat} {M : Mth} {F : Option Value → Sto → Prop} {pc npc : Nat} {l : List (Nat × Value)} {st : List Value} {s : Sto} {Q : Int → Sto → Prop} (hd : decode M.1 pc = .ok (.invokevirtual 39, 3)) (hM : M.2.1 = RL) (hn : pc + 3 = npc) (hcat : (st.map (fun v => v.category)).sum ≤ 8) (hR : 6 + 1 ≤ M.2.2.2.2.frames ∧ 8 + (1 + 11) + 135 ≤ M.2.2.2.2.locals) (hC : cs + 0 ≤ M.2.2.2.2.cells ∧ ss + 0 ≤ M.2.2.2.2.slots) (h : K_Cg_makeRecurrent n s Q) (k' : ∀ r s1, Q r s1 → Go (SL n) M F (cs + 0) (ss + 0) npc l (iV r :: st) s1) : Go (SL n) M F cs ss pc l (.ref 0 :: st) s := g_callV (k := 0) (as := []) (st := st) hd hn rfl ⟨ltSL (by decide), rfl⟩ rfl rfl (show okV M 39 RX10 yX10_makeRecurrent cX10_makeRecurrent 1 (some .int) 0 from ⟨⟨by rw [hM]; exact tw_538, tw_539, tw_540, tw_31, tw_541⟩, rfl, by decide, by decide, by decide +kernel⟩) rfl hcat hC hR h (fun r s1 h => by obtain ⟨x, rfl, h2⟩ := h; exact k' x s1 h2)
theorem iv_La_42 {n cs ss : Nat} {M : Mth} {F : Option Value → Sto → Prop} {pc npc : Nat} {l : List (Nat × Value)} {st : List Value} {s : Sto} {Q : Int → Sto → Prop} (hd : decode M.1 pc = .ok (.invokevirtual 42, 3)) (hM : M.2.1 = RL) (hn : pc + 3 = npc) (hcat : (st.map (fun v => v.category)).sum ≤ 8) (hR : 6 + 1 ≤ M.2.2.2.2.frames ∧ 8 + (1 + 11) + 134 ≤ M.2.2.2.2.locals) (hC : cs + 0 ≤ M.2.2.2.2.cells ∧ ss + 0 ≤ M.2.2.2.2.slots) (h : K_Cg_order n s Q) (k' : ∀ r s1, Q r s1 → Go (SL n) M F (cs + 0) (ss + 0) npc l (iV r :: st) s1) : Go (SL n) M F cs ss pc l (.ref 0 :: st) s := g_callV (k := 0) (as := []) (st := st) hd hn rfl ⟨ltSL (by decide), rfl⟩ rfl rfl (show okV M 42 RX10 yX10_order cX10_order 1 (some .int) 0 from ⟨⟨by rw [hM]; exact tw_556, tw_557, tw_558, tw_31, tw_559⟩, rfl, by decide, by decide, by decide +kernel⟩) rfl hcat hC hR h (fun r s1 h => by obtain ⟨x, rfl, h2⟩ := h; exact k' x s1 h2)
theorem iv_La_45 {n cs ss : Nat} {M : Mth} {F : Option Value → Sto → Prop} {pc npc : Nat} {l : List (Nat × Value)} {st : List Value} {s : Sto} {Q : Int → Sto → Prop} (hd : decode M.1 pc = .ok (.invokevirtual 45, 3)) (hM : M.2.1 = RL) (hn : pc + 3 = npc) (hcat : (st.map (fun v => v.category)).sum ≤ 8) (hR : 5 + 1 ≤ M.2.2.2.2.frames ∧ 8 + (1 + 11) + 110 ≤ M.2.2.2.2.locals) (hC : cs + 0 ≤ M.2.2.2.2.cells ∧ ss + 0 ≤ M.2.2.2.2.slots) (h : K_Cg_treeCount n s Q) (k' : ∀ r s1, Q r s1 → Go (SL n) M F (cs + 0) (ss + 0) npc l (jV r :: st) s1) : Go (SL n) M F cs ss pc l (.ref 0 :: st) s := g_callV (k := 0) (as := []) (st := st) hd hn rfl ⟨ltSL (by decide), rfl⟩ rfl rfl (show okV M 45 RX10 yX10_treeCount cX10_treeCount 1 (some .long) 0 from ⟨⟨by rw [hM]; exact tw_453, tw_454, tw_455, tw_31, tw_456⟩, rfl, by decide, by decide, by decide +kernel⟩) rfl hcat hC hR h (fun r s1 h => by obtain ⟨x, rfl, h2⟩ := h; exact k' x s1 h2)
theorem iv_La_49 {n cs ss : Nat} {M : Mth} {F : Option Value → Sto → Prop} {pc npc : Nat} {l : List (Nat × Value)} {st : List Value} {s : Sto} {Q : Int → Sto → Prop} (hd : decode M.1 pc = .ok (.invokevirtual 49, 3)) (hM : M.2.1 = RL) (hn : pc + 3 = npc) (hcat : (st.map (fun v => v.category)).sum ≤ 8) (hR : 5 + 1 ≤ M.2.2.2.2.frames ∧ 8 + (2 + 11) + 111 ≤ M.2.2.2.2.locals) (hC : cs + 0 ≤ M.2.2.2.2.cells ∧ ss + 0 ≤ M.2.2.2.2.slots) (h : K_Cg_kind n s Q) (k' : ∀ r s1, Q r s1 → Go (SL n) M F (cs + 0) (ss + 0) npc l (iV r :: st) s1) : Go (SL n) M F cs ss pc l (.ref 0 :: st) s := g_callV (k := 0) (as := []) (st := st) hd hn rfl ⟨ltSL (by decide), rfl⟩ rfl rfl (show okV M 49 RX10 yX10_kind cX10_kind 2 (some .int) 0 from ⟨⟨by rw [hM]; exact tw_406, tw_407, tw_408, tw_31, tw_409⟩, rfl, by decide, by decide, by decide +kernel⟩) rfl hcat hC hR h (fun r s1 h => by obtain ⟨x, rfl, h2⟩ := h; exact k' x s1 h2)
theorem iv_La_52 {n cs ss : Nat} {M : Mth} {F : Option Value → Sto → Prop} {pc npc : Nat} {l : List (Nat × Value)} {st : List Value} {s : Sto} {x1 : Int} {Q : Int → Sto → Prop} (hd : decode M.1 pc = .ok (.invokevirtual 52, 3)) (hM : M.2.1 = RL) (hn : pc + 3 = npc) (hcat : (st.map (fun v => v.category)).sum ≤ 8) (hR : 6 + 1 ≤ M.2.2.2.2.frames ∧ 8 + (2 + 11) + 133 ≤ M.2.2.2.2.locals) (hC : cs + 0 ≤ M.2.2.2.2.cells ∧ ss + 0 ≤ M.2.2.2.2.slots) (h : K_Cg_factor n x1 s Q) (k' : ∀ r s1, Q r s1 → Go (SL n) M F (cs + 0) (ss + 0) npc l (jV r :: st) s1) : Go (SL n) M F cs ss pc l (iV x1 :: .ref 0 :: st) s := g_callV (k := 0) (as := [iV x1]) (st := st) hd hn rfl ⟨ltSL (by decide), rfl⟩ rfl rfl (show okV M 52 RX10 yX10_factor cX10_factor 2 (some .long) 1 from ⟨⟨by rw [hM]; exact tw_578, tw_579, tw_580, tw_31, tw_581⟩, rfl, by decide, by decide, by decide +kernel⟩) rfl hcat hC hR h (fun r s1 h => by obtain ⟨x, rfl, h2⟩ := h; exact k' x s1 h2)
theorem iv_La_58 {n cs ss : Nat} {M : Mth} {F : Option Value → Sto → Prop} {pc npc : Nat} {l : List (Nat × Value)} {st : List Value} {s : Sto} {x1 : Int} {Q : Int → Sto → Prop} (hd : decode M.1 pc = .ok (.invokevirtual 58, 3)) (hM : M.2.1 = RL) (hn : pc + 3 = npc) (hcat : (st.map (fun v => v.category)).sum ≤ 8) (hR : 3 + 1 ≤ M.2.2.2.2.frames ∧ 8 + (2 + 11) + 70 ≤ M.2.2.2.2.locals) (hC : cs + 0 ≤ M.2.2.2.2.cells ∧ ss + 0 ≤ M.2.2.2.2.slots) (h : K_Cg_levelCount n x1 s Q) (k' : ∀ r s1, Q r s1 → Go (SL n) M F (cs + 0) (ss + 0) npc l (iV r :: st) s1) : Go (SL n) M F cs ss pc l (iV x1 :: .ref 0 :: st) s := g_callV (k := 0) (as := [iV x1]) (st := st) hd hn rfl ⟨ltSL (by decide), rfl⟩ rfl rfl (show okV M 58 RX10 yX10_levelCount cX10_levelCount 2 (some .int) 1 from ⟨⟨by rw [hM]; exact tw_627, tw_628, tw_629, tw_31, tw_630⟩, rfl, by decide, by decide, by decide +kernel⟩) rfl hcat hC hR h (fun r s1 h => by obtain ⟨x, rfl, h2⟩ := h; exact k' x s1 h2)
theorem iv_La_61 {n cs ss : Nat} {M : Mth} {F : Option Value → Sto → Prop} {pc npc : Nat} {l : List (Nat × Value)} {st : List Value} {s : Sto} {Q : Int → Sto → Prop} (hd : decode M.1 pc = .ok (.invokevirtual 61, 3)) (hM : M.2.1 = RL) (hn : pc + 3 = npc) (hcat : (st.map (fun v => v.category)).sum ≤ 8) (hR : 5 + 1 ≤ M.2.2.2.2.frames ∧ 8 + (1 + 11) + 111 ≤ M.2.2.2.2.locals) (hC : cs + 0 ≤ M.2.2.2.2.cells ∧ ss + 0 ≤ M.2.2.2.2.slots) (h : K_Cg_tree n s Q) (k' : ∀ r s1, Q r s1 → Go (SL n) M F (cs + 0) (ss + 0) npc l (iV r :: st) s1) : Go (SL n) M F cs ss pc l (.ref 0 :: st) s := g_callV (k := 0) (as := []) (st := st) hd hn rfl ⟨ltSL (by decide), rfl⟩ rfl rfl (show okV M 61 RX10 yX10_tree cX10_tree 1 (some .int) 0 from ⟨⟨by rw [hM]; exact tw_650, tw_651, tw_652, tw_31, tw_653⟩, rfl, by decide, by decide, by decide +kernel⟩) rfl hcat hC hR h (fun r s1 h => by obtain ⟨x, rfl, h2⟩ := h; exact k' x s1 h2)
theorem iv_La_64 {n cs ss : Nat} {M : Mth} {F : Option Value → Sto → Prop} {pc npc : Nat} {l : List (Nat × Value)} {st : List Value} {s : Sto} {x1 : Int} {Q : Int → Sto → Prop} (hd : decode M.1 pc = .ok (.invokevirtual 64, 3)) (hM : M.2.1 = RL) (hn : pc + 3 = npc) (hcat : (st.map (fun v => v.category)).sum ≤ 8) (hR : 5 + 1 ≤ M.2.2.2.2.frames ∧ 8 + (2 + 11) + 114 ≤ M.2.2.2.2.locals) (hC : cs + 0 ≤ M.2.2.2.2.cells ∧ ss + 0 ≤ M.2.2.2.2.slots) (h : K_Cg_firings n x1 s Q) (k' : ∀ r s1, Q r s1 → Go (SL n) M F (cs + 0) (ss + 0) npc l (iV r :: st) s1) : Go (SL n) M F cs ss pc l (iV x1 :: .ref 0 :: st) s := g_callV (k := 0) (as := [iV x1]) (st := st) hd hn rfl ⟨ltSL (by decide), rfl⟩ rfl rfl (show okV M 64 RX10 yX10_firings cX10_firings 2 (some .int) 1 from ⟨⟨by rw [hM]; exact tw_672, tw_673, tw_674, tw_31, tw_675⟩, rfl, by decide, by decide, by decide +kernel⟩) rfl hcat hC hR h (fun r s1 h => by obtain ⟨x, rfl, h2⟩ := h; exact k' x s1 h2)
theorem iv_La_67 {n cs ss : Nat} {M : Mth} {F : Option Value → Sto → Prop} {pc npc : Nat} {l : List (Nat × Value)} {st : List Value} {s : Sto} {x1 : Int} {Q : Int → Sto → Prop} (hd : decode M.1 pc = .ok (.invokevirtual 67, 3)) (hM : M.2.1 = RL) (hn : pc + 3 = npc) (hcat : (st.map (fun v => v.category)).sum ≤ 8) (hR : 2 + 1 ≤ M.2.2.2.2.frames ∧ 8 + (2 + 11) + 42 ≤ M.2.2.2.2.locals) (hC : cs + 0 ≤ M.2.2.2.2.cells ∧ ss + 0 ≤ M.2.2.2.2.slots) (h : K_Cg_degree n x1 s Q) (k' : ∀ r s1, Q r s1 → Go (SL n) M F (cs + 0) (ss + 0) npc l (iV r :: st) s1) : Go (SL n) M F cs ss pc l (iV x1 :: .ref 0 :: st) s := g_callV (k := 0) (as := [iV x1]) (st := st) hd hn rfl ⟨ltSL (by decide), rfl⟩ rfl rfl (show okV M 67 RX10 yX10_degree cX10_degree 2 (some .int) 1 from ⟨⟨by rw [hM]; exact tw_676, tw_677, tw_678, tw_31, tw_679⟩, rfl, by decide, by decide, by decide +kernel⟩) rfl hcat hC hR h (fun r s1 h => by obtain ⟨x, rfl, h2⟩ := h; exact k' x s1 h2)
theorem iv_La_70 {n cs ss : Nat} {M : Mth} {F : Option Value → Sto → Prop} {pc npc : Nat} {l : List (Nat × Value)} {st : List Value} {s : Sto} {x1 : Int} {x2 : Int} {Q : Int → Sto → Prop} (hd : decode M.1 pc = .ok (.invokestatic 70, 3)) (hM : M.2.1 = RL) (hn : pc + 3 = npc) (hcat : (st.map (fun v => v.category)).sum ≤ 8) (hR : 4 + 1 ≤ M.2.2.2.2.frames ∧ 8 + (7 + 11) + 89 ≤ M.2.2.2.2.locals) (hC : cs + 0 ≤ M.2.2.2.2.cells ∧ ss + 0 ≤ M.2.2.2.2.slots) (h : K_La_joins n x1 x2 s Q) (k' : ∀ r s1, Q r s1 → Go (SL n) M F (cs + 0) (ss + 0) npc l (iV r :: st) s1) : Go (SL n) M F cs ss pc l (iV x2 :: iV x1 :: .ref 0 :: st) s := g_callS (as := [.ref 0, iV x1, iV x2]) (st := st) hd hn rfl (show okS M 70 yL_joins cL_joins 7 (some .int) 3 from ⟨⟨by rw [hM]; exact tw_681, tw_682, tw_30, tw_683⟩, by decide, by decide, by decide +kernel⟩) rfl hcat hC hR h (fun r s1 h => by obtain ⟨x, rfl, h2⟩ := h; exact k' x s1 h2)
theorem iv_La_77 {n cs ss : Nat} {M : Mth} {F : Option Value → Sto → Prop} {pc npc : Nat} {l : List (Nat × Value)} {st : List Value} {s : Sto} {k1 : Nat} {Q : Int → Sto → Prop} (hd : decode M.1 pc = .ok (.invokestatic 77, 3)) (hM : M.2.1 = RL) (hn : pc + 3 = npc) (hcat : (st.map (fun v => v.category)).sum ≤ 8) (hR : 4 + 1 ≤ M.2.2.2.2.frames ∧ 8 + (3 + 11) + 89 ≤ M.2.2.2.2.locals) (hC : cs + 0 ≤ M.2.2.2.2.cells ∧ ss + 0 ≤ M.2.2.2.2.slots) (h : K_La_are n k1 s Q) (k' : ∀ r s1, Q r s1 → Go (SL n) M F (cs + 0) (ss + 0) npc l (iV r :: st) s1) : Go (SL n) M F cs ss pc l (.ref k1 :: .ref 0 :: st) s := g_callS (as := [.ref 0, .ref k1]) (st := st) hd hn rfl (show okS M 77 yL_are cL_are 3 (some .boolean) 2 from ⟨⟨by rw [hM]; exact tw_690, tw_691, tw_30, tw_692⟩, by decide, by decide, by decide +kernel⟩) rfl hcat hC hR h (fun r s1 h => by obtain ⟨x, rfl, h2⟩ := h; exact k' x s1 h2)
theorem iv_La_74 {n cs ss : Nat} {M : Mth} {F : Option Value → Sto → Prop} {pc npc : Nat} {l : List (Nat × Value)} {st : List Value} {s : Sto} {x1 : Int} {Q : Int → Sto → Prop} (hd : decode M.1 pc = .ok (.invokevirtual 74, 3)) (hM : M.2.1 = RL) (hn : pc + 3 = npc) (hcat : (st.map (fun v => v.category)).sum ≤ 8) (hR : 3 + 1 ≤ M.2.2.2.2.frames ∧ 8 + (2 + 11) + 65 ≤ M.2.2.2.2.locals) (hC : cs + 0 ≤ M.2.2.2.2.cells ∧ ss + 0 ≤ M.2.2.2.2.slots) (h : K_Cg_fire n x1 s Q) (k' : ∀ r s1, Q r s1 → Go (SL n) M F (cs + 0) (ss + 0) npc l (iV r :: st) s1) : Go (SL n) M F cs ss pc l (iV x1 :: .ref 0 :: st) s := g_callV (k := 0) (as := [iV x1]) (st := st) hd hn rfl ⟨ltSL (by decide), rfl⟩ rfl rfl (show okV M 74 RX10 yX10_fire cX10_fire 2 (some .int) 1 from ⟨⟨by rw [hM]; exact tw_684, tw_685, tw_686, tw_31, tw_687⟩, rfl, by decide, by decide, by decide +kernel⟩) rfl hcat hC hR h (fun r s1 h => by obtain ⟨x, rfl, h2⟩ := h; exact k' x s1 h2)
theorem iv_Sl_20 {n cs ss : Nat} {M : Mth} {F : Option Value → Sto → Prop} {pc npc : Nat} {l : List (Nat × Value)} {st : List Value} {s : Sto} {x1 : Int} {Q : Int → Sto → Prop} (hd : decode M.1 pc = .ok (.invokevirtual 20, 3)) (hM : M.2.1 = RX7) (hn : pc + 3 = npc) (hcat : (st.map (fun v => v.category)).sum ≤ 8) (hR : 0 + 1 ≤ M.2.2.2.2.frames ∧ 8 + (2 + 11) + 0 ≤ M.2.2.2.2.locals) (hC : cs + 0 ≤ M.2.2.2.2.cells ∧ ss + 0 ≤ M.2.2.2.2.slots) (h : K_Sl_has n x1 s Q) (k' : ∀ r s1, Q r s1 → Go (SL n) M F (cs + 0) (ss + 0) npc l (iV r :: st) s1) : Go (SL n) M F cs ss pc l (iV x1 :: .ref 31 :: st) s := g_callV (k := 31) (as := [iV x1]) (st := st) hd hn rfl ⟨ltSL (by decide), rfl⟩ rfl rfl (show okV M 20 RX7 yX7_has cX7_has 2 (some .boolean) 1 from ⟨⟨by rw [hM]; exact tw_708, tw_701, tw_702, tw_35, tw_703⟩, rfl, by decide, by decide, by decide +kernel⟩) rfl hcat hC hR h (fun r s1 h => by obtain ⟨x, rfl, h2⟩ := h; exact k' x s1 h2)
theorem gf_Sl_17 {n cs ss : Nat} {M : Mth} {F : Option Value → Sto → Prop} {pc npc : Nat} {l : List (Nat × Value)} {st : List Value} {s : Sto} (hd : decode M.1 pc = .ok (.getfield 17, 3)) (hM : M.2.1 = RX7) (hn : pc + 3 = npc) (k' : Go (SL n) M F cs ss npc l (.ref 33 :: st) s) : Go (SL n) M F cs ss pc l (.ref 31 :: st) s := g_get (N := 2) (f := 1) hd hn ⟨ltSL (by decide), rfl, rfl⟩ rfl inw_X7 (by decide) (by rw [hM]; exact tw_150) rfl (Or.inr ⟨_, rfl, rfl⟩) k'
theorem iv_Sl_24 {n cs ss : Nat} {M : Mth} {F : Option Value → Sto → Prop} {pc npc : Nat} {l : List (Nat × Value)} {st : List Value} {s : Sto} {k0 : Nat} {k1 : Nat} {Q : Sto → Prop} (hd : decode M.1 pc = .ok (.invokestatic 24, 3)) (hM : M.2.1 = RX7) (hn : pc + 3 = npc) (hcat : (st.map (fun v => v.category)).sum ≤ 8) (hR : 0 + 1 ≤ M.2.2.2.2.frames ∧ 8 + (3 + 11) + 0 ≤ M.2.2.2.2.locals) (hC : cs + 0 ≤ M.2.2.2.2.cells ∧ ss + 0 ≤ M.2.2.2.2.slots) (h : K_Cg_copyChips n k0 k1 s Q) (k' : ∀ s1, Q s1 → Go (SL n) M F (cs + 0) (ss + 0) npc l st s1) : Go (SL n) M F cs ss pc l (.ref k1 :: .ref k0 :: st) s := g_callN (as := [.ref k0, .ref k1]) (st := st) hd hn rfl (show okN M 24 yX10_copyChips cX10_copyChips 3 none 2 from ⟨⟨by rw [hM]; decide +kernel, tw_400, tw_31, tw_401⟩, by decide, by decide, by decide +kernel⟩) rfl hcat hC hR h (fun r s1 h => by obtain ⟨rfl, h2⟩ := h; exact k' s1 h2)
theorem iv_Cg_228 {n cs ss : Nat} {M : Mth} {F : Option Value → Sto → Prop} {pc npc : Nat} {l : List (Nat × Value)} {st : List Value} {s : Sto} {x1 : Int} {Q : Int → Sto → Prop} (hd : decode M.1 pc = .ok (.invokevirtual 228, 3)) (hM : M.2.1 = RX10) (hn : pc + 3 = npc) (hcat : (st.map (fun v => v.category)).sum ≤ 8) (hR : 0 + 1 ≤ M.2.2.2.2.frames ∧ 8 + (2 + 11) + 0 ≤ M.2.2.2.2.locals) (hC : cs + 0 ≤ M.2.2.2.2.cells ∧ ss + 0 ≤ M.2.2.2.2.slots) (h : K_Sl_has n x1 s Q) (k' : ∀ r s1, Q r s1 → Go (SL n) M F (cs + 0) (ss + 0) npc l (iV r :: st) s1) : Go (SL n) M F cs ss pc l (iV x1 :: .ref 31 :: st) s := g_callV (k := 31) (as := [iV x1]) (st := st) hd hn rfl ⟨ltSL (by decide), rfl⟩ rfl rfl (show okV M 228 RX7 yX7_has cX7_has 2 (some .boolean) 1 from ⟨⟨by rw [hM]; exact tw_700, tw_701, tw_702, tw_35, tw_703⟩, rfl, by decide, by decide, by decide +kernel⟩) rfl hcat hC hR h (fun r s1 h => by obtain ⟨x, rfl, h2⟩ := h; exact k' x s1 h2)
theorem iv_Cg_231 {n cs ss : Nat} {M : Mth} {F : Option Value → Sto → Prop} {pc npc : Nat} {l : List (Nat × Value)} {st : List Value} {s : Sto} {x1 : Int} {Q : Int → Sto → Prop} (hd : decode M.1 pc = .ok (.invokevirtual 231, 3)) (hM : M.2.1 = RX10) (hn : pc + 3 = npc) (hcat : (st.map (fun v => v.category)).sum ≤ 8) (hR : 1 + 1 ≤ M.2.2.2.2.frames ∧ 8 + (2 + 11) + 21 ≤ M.2.2.2.2.locals) (hC : cs + 0 ≤ M.2.2.2.2.cells ∧ ss + 0 ≤ M.2.2.2.2.slots) (h : K_Sl_isEmpty n x1 s Q) (k' : ∀ r s1, Q r s1 → Go (SL n) M F (cs + 0) (ss + 0) npc l (iV r :: st) s1) : Go (SL n) M F cs ss pc l (iV x1 :: .ref 31 :: st) s := g_callV (k := 31) (as := [iV x1]) (st := st) hd hn rfl ⟨ltSL (by decide), rfl⟩ rfl rfl (show okV M 231 RX7 yX7_isEmpty cX7_isEmpty 2 (some .boolean) 1 from ⟨⟨by rw [hM]; exact tw_704, tw_705, tw_706, tw_35, tw_707⟩, rfl, by decide, by decide, by decide +kernel⟩) rfl hcat hC hR h (fun r s1 h => by obtain ⟨x, rfl, h2⟩ := h; exact k' x s1 h2)
theorem iv_Cg_234 {n cs ss : Nat} {M : Mth} {F : Option Value → Sto → Prop} {pc npc : Nat} {l : List (Nat × Value)} {st : List Value} {s : Sto} {x1 : Int} {k2 : Nat} {Q : Sto → Prop} (hd : decode M.1 pc = .ok (.invokevirtual 234, 3)) (hM : M.2.1 = RX10) (hn : pc + 3 = npc) (hcat : (st.map (fun v => v.category)).sum ≤ 8) (hR : 1 + 1 ≤ M.2.2.2.2.frames ∧ 8 + (3 + 11) + 22 ≤ M.2.2.2.2.locals) (hC : cs + 0 ≤ M.2.2.2.2.cells ∧ ss + 0 ≤ M.2.2.2.2.slots) (h : K_Sl_put n x1 k2 s Q) (k' : ∀ s1, Q s1 → Go (SL n) M F (cs + 0) (ss + 0) npc l st s1) : Go (SL n) M F cs ss pc l (.ref k2 :: iV x1 :: .ref 31 :: st) s := g_callV (k := 31) (as := [iV x1, .ref k2]) (st := st) hd hn rfl ⟨ltSL (by decide), rfl⟩ rfl rfl (show okV M 234 RX7 yX7_put cX7_put 3 none 2 from ⟨⟨by rw [hM]; exact tw_709, tw_710, tw_711, tw_35, tw_712⟩, rfl, by decide, by decide, by decide +kernel⟩) rfl hcat hC hR h (fun r s1 h => by obtain ⟨rfl, h2⟩ := h; exact k' s1 h2)
theorem gf_Cg_87 {n cs ss : Nat} {M : Mth} {F : Option Value → Sto → Prop} {pc npc : Nat} {l : List (Nat × Value)} {st : List Value} {s : Sto} (hd : decode M.1 pc = .ok (.getfield 87, 3)) (hM : M.2.1 = RX10) (hn : pc + 3 = npc) (k' : Go (SL n) M F cs ss npc l (.ref 189 :: st) s) : Go (SL n) M F cs ss pc l (.ref 0 :: st) s := g_get (N := 12) (f := 11) hd hn ⟨ltSL (by decide), rfl, rfl⟩ rfl inw_X10 (by decide) (by rw [hM]; exact tw_281) rfl (Or.inr ⟨_, rfl, rfl⟩) k'
theorem iv_Cg_238 {n cs ss : Nat} {M : Mth} {F : Option Value → Sto → Prop} {pc npc : Nat} {l : List (Nat × Value)} {st : List Value} {s : Sto} {x1 : Int} {k2 : Nat} {Q : Sto → Prop} (hd : decode M.1 pc = .ok (.invokevirtual 238, 3)) (hM : M.2.1 = RX10) (hn : pc + 3 = npc) (hcat : (st.map (fun v => v.category)).sum ≤ 8) (hR : 1 + 1 ≤ M.2.2.2.2.frames ∧ 8 + (3 + 11) + 22 ≤ M.2.2.2.2.locals) (hC : cs + 0 ≤ M.2.2.2.2.cells ∧ ss + 0 ≤ M.2.2.2.2.slots) (h : K_Sl_copyTo n x1 k2 s Q) (k' : ∀ s1, Q s1 → Go (SL n) M F (cs + 0) (ss + 0) npc l st s1) : Go (SL n) M F cs ss pc l (.ref k2 :: iV x1 :: .ref 31 :: st) s := g_callV (k := 31) (as := [iV x1, .ref k2]) (st := st) hd hn rfl ⟨ltSL (by decide), rfl⟩ rfl rfl (show okV M 238 RX7 yX7_copyTo cX7_copyTo 3 none 2 from ⟨⟨by rw [hM]; exact tw_718, tw_719, tw_720, tw_35, tw_721⟩, rfl, by decide, by decide, by decide +kernel⟩) rfl hcat hC hR h (fun r s1 h => by obtain ⟨rfl, h2⟩ := h; exact k' s1 h2)
theorem iv_La_22 {n cs ss : Nat} {M : Mth} {F : Option Value → Sto → Prop} {pc npc : Nat} {l : List (Nat × Value)} {st : List Value} {s : Sto} {x1 : Int} {x2 : Int} {Q : Int → Sto → Prop} (hd : decode M.1 pc = .ok (.invokevirtual 22, 3)) (hM : M.2.1 = RL) (hn : pc + 3 = npc) (hcat : (st.map (fun v => v.category)).sum ≤ 8) (hR : 2 + 1 ≤ M.2.2.2.2.frames ∧ 8 + (4 + 11) + 43 ≤ M.2.2.2.2.locals) (hC : cs + 0 ≤ M.2.2.2.2.cells ∧ ss + 0 ≤ M.2.2.2.2.slots) (h : K_Cg_setChips n x1 x2 s Q) (k' : ∀ r s1, Q r s1 → Go (SL n) M F (cs + 0) (ss + 0) npc l (iV r :: st) s1) : Go (SL n) M F cs ss pc l (iV x2 :: iV x1 :: .ref 0 :: st) s := g_callV (k := 0) (as := [iV x1, iV x2]) (st := st) hd hn rfl ⟨ltSL (by decide), rfl⟩ rfl rfl (show okV M 22 RX10 yX10_setChips cX10_setChips 4 (some .int) 2 from ⟨⟨by rw [hM]; exact tw_387, tw_388, tw_389, tw_31, tw_390⟩, rfl, by decide, by decide, by decide +kernel⟩) rfl hcat hC hR h (fun r s1 h => by obtain ⟨x, rfl, h2⟩ := h; exact k' x s1 h2)
theorem iv_Gr_61 {n cs ss : Nat} {M : Mth} {F : Option Value → Sto → Prop} {pc npc : Nat} {l : List (Nat × Value)} {st : List Value} {s : Sto} {x0 : Int} {Q : Int → Sto → Prop} (hd : decode M.1 pc = .ok (.invokestatic 61, 3)) (hM : M.2.1 = RX2) (hn : pc + 3 = npc) (hcat : (st.map (fun v => v.category)).sum ≤ 8) (hR : 0 + 1 ≤ M.2.2.2.2.frames ∧ 8 + (1 + 11) + 0 ≤ M.2.2.2.2.locals) (hC : cs + 0 ≤ M.2.2.2.2.cells ∧ ss + 0 ≤ M.2.2.2.2.slots) (h : K_JI_bitCount n x0 s Q) (k' : ∀ r s1, Q r s1 → Go (SL n) M F (cs + 0) (ss + 0) npc l (iV r :: st) s1) : Go (SL n) M F cs ss pc l (iV x0 :: st) s := g_callS (as := [iV x0]) (st := st) hd hn rfl (show okS M 61 yJ6_bitCount_0f7a4 cJ6_bitCount_0f7a4 1 (some .int) 1 from ⟨⟨by rw [hM]; exact tw_737, tw_738, tw_42, tw_739⟩, by decide, by decide, by decide +kernel⟩) rfl hcat hC hR h (fun r s1 h => by obtain ⟨x, rfl, h2⟩ := h; exact k' x s1 h2)
theorem iv_Cg_270 {n cs ss : Nat} {M : Mth} {F : Option Value → Sto → Prop} {pc npc : Nat} {l : List (Nat × Value)} {st : List Value} {s : Sto} {x1 : Int} {Q : Int → Sto → Prop} (hd : decode M.1 pc = .ok (.invokevirtual 270, 3)) (hM : M.2.1 = RX10) (hn : pc + 3 = npc) (hcat : (st.map (fun v => v.category)).sum ≤ 8) (hR : 2 + 1 ≤ M.2.2.2.2.frames ∧ 8 + (2 + 11) + 48 ≤ M.2.2.2.2.locals) (hC : cs + 0 ≤ M.2.2.2.2.cells ∧ ss + 0 ≤ M.2.2.2.2.slots) (h : K_Gr_isSpanningTree n x1 s Q) (k' : ∀ r s1, Q r s1 → Go (SL n) M F (cs + 0) (ss + 0) npc l (iV r :: st) s1) : Go (SL n) M F cs ss pc l (iV x1 :: .ref 1 :: st) s := g_callV (k := 1) (as := [iV x1]) (st := st) hd hn rfl ⟨ltSL (by decide), rfl⟩ rfl rfl (show okV M 270 RX2 yX2_isSpanningTree cX2_isSpanningTree 2 (some .boolean) 1 from ⟨⟨by rw [hM]; exact tw_733, tw_734, tw_735, tw_32, tw_736⟩, rfl, by decide, by decide, by decide +kernel⟩) rfl hcat hC hR h (fun r s1 h => by obtain ⟨x, rfl, h2⟩ := h; exact k' x s1 h2)
theorem iv_Cg_273 {n cs ss : Nat} {M : Mth} {F : Option Value → Sto → Prop} {pc npc : Nat} {l : List (Nat × Value)} {st : List Value} {s : Sto} {x1 : Int} {k2 : Nat} {Q : Sto → Prop} (hd : decode M.1 pc = .ok (.invokevirtual 273, 3)) (hM : M.2.1 = RX10) (hn : pc + 3 = npc) (hcat : (st.map (fun v => v.category)).sum ≤ 8) (hR : 2 + 1 ≤ M.2.2.2.2.frames ∧ 8 + (8 + 11) + 45 ≤ M.2.2.2.2.locals) (hC : cs + 0 ≤ M.2.2.2.2.cells ∧ ss + 0 ≤ M.2.2.2.2.slots) (h : K_Tr_toStateOf n x1 k2 s Q) (k' : ∀ s1, Q s1 → Go (SL n) M F (cs + 0) (ss + 0) npc l st s1) : Go (SL n) M F cs ss pc l (.ref k2 :: iV x1 :: .ref 53 :: st) s := g_callV (k := 53) (as := [iV x1, .ref k2]) (st := st) hd hn rfl ⟨ltSL (by decide), rfl⟩ rfl rfl (show okV M 273 RX9 yX9_toStateOf cX9_toStateOf 8 none 2 from ⟨⟨by rw [hM]; exact tw_743, tw_744, tw_745, tw_39, tw_746⟩, rfl, by decide, by decide, by decide +kernel⟩) rfl hcat hC hR h (fun r s1 h => by obtain ⟨rfl, h2⟩ := h; exact k' s1 h2)
theorem iv_La_81 {n cs ss : Nat} {M : Mth} {F : Option Value → Sto → Prop} {pc npc : Nat} {l : List (Nat × Value)} {st : List Value} {s : Sto} {x1 : Int} {Q : Int → Sto → Prop} (hd : decode M.1 pc = .ok (.invokevirtual 81, 3)) (hM : M.2.1 = RL) (hn : pc + 3 = npc) (hcat : (st.map (fun v => v.category)).sum ≤ 8) (hR : 2 + 1 ≤ M.2.2.2.2.frames ∧ 8 + (3 + 11) + 44 ≤ M.2.2.2.2.locals) (hC : cs + 0 ≤ M.2.2.2.2.cells ∧ ss + 0 ≤ M.2.2.2.2.slots) (h : K_Cg_keep n x1 s Q) (k' : ∀ r s1, Q r s1 → Go (SL n) M F (cs + 0) (ss + 0) npc l (iV r :: st) s1) : Go (SL n) M F cs ss pc l (iV x1 :: .ref 0 :: st) s := g_callV (k := 0) (as := [iV x1]) (st := st) hd hn rfl ⟨ltSL (by decide), rfl⟩ rfl rfl (show okV M 81 RX10 yX10_keep cX10_keep 3 (some .int) 1 from ⟨⟨by rw [hM]; exact tw_696, tw_697, tw_698, tw_31, tw_699⟩, rfl, by decide, by decide, by decide +kernel⟩) rfl hcat hC hR h (fun r s1 h => by obtain ⟨x, rfl, h2⟩ := h; exact k' x s1 h2)
theorem iv_La_84 {n cs ss : Nat} {M : Mth} {F : Option Value → Sto → Prop} {pc npc : Nat} {l : List (Nat × Value)} {st : List Value} {s : Sto} {x1 : Int} {Q : Int → Sto → Prop} (hd : decode M.1 pc = .ok (.invokevirtual 84, 3)) (hM : M.2.1 = RL) (hn : pc + 3 = npc) (hcat : (st.map (fun v => v.category)).sum ≤ 8) (hR : 6 + 1 ≤ M.2.2.2.2.frames ∧ 8 + (2 + 11) + 135 ≤ M.2.2.2.2.locals) (hC : cs + 0 ≤ M.2.2.2.2.cells ∧ ss + 0 ≤ M.2.2.2.2.slots) (h : K_Cg_isSameClass n x1 s Q) (k' : ∀ r s1, Q r s1 → Go (SL n) M F (cs + 0) (ss + 0) npc l (iV r :: st) s1) : Go (SL n) M F cs ss pc l (iV x1 :: .ref 0 :: st) s := g_callV (k := 0) (as := [iV x1]) (st := st) hd hn rfl ⟨ltSL (by decide), rfl⟩ rfl rfl (show okV M 84 RX10 yX10_isSameClass cX10_isSameClass 2 (some .int) 1 from ⟨⟨by rw [hM]; exact tw_714, tw_715, tw_716, tw_31, tw_717⟩, rfl, by decide, by decide, by decide +kernel⟩) rfl hcat hC hR h (fun r s1 h => by obtain ⟨x, rfl, h2⟩ := h; exact k' x s1 h2)
theorem iv_La_87 {n cs ss : Nat} {M : Mth} {F : Option Value → Sto → Prop} {pc npc : Nat} {l : List (Nat × Value)} {st : List Value} {s : Sto} {k1 : Nat} {Q : Sto → Prop} (hd : decode M.1 pc = .ok (.invokestatic 87, 3)) (hM : M.2.1 = RL) (hn : pc + 3 = npc) (hcat : (st.map (fun v => v.category)).sum ≤ 8) (hR : 4 + 1 ≤ M.2.2.2.2.frames ∧ 8 + (3 + 11) + 89 ≤ M.2.2.2.2.locals) (hC : cs + 0 ≤ M.2.2.2.2.cells ∧ ss + 0 ≤ M.2.2.2.2.slots) (h : K_La_lay n k1 s Q) (k' : ∀ s1, Q s1 → Go (SL n) M F (cs + 0) (ss + 0) npc l st s1) : Go (SL n) M F cs ss pc l (.ref k1 :: .ref 0 :: st) s := g_callS (as := [.ref 0, .ref k1]) (st := st) hd hn rfl (show okS M 87 yL_lay cL_lay 3 none 2 from ⟨⟨by rw [hM]; exact tw_722, tw_723, tw_30, tw_724⟩, by decide, by decide, by decide +kernel⟩) rfl hcat hC hR h (fun r s1 h => by obtain ⟨rfl, h2⟩ := h; exact k' s1 h2)
theorem iv_La_90 {n cs ss : Nat} {M : Mth} {F : Option Value → Sto → Prop} {pc npc : Nat} {l : List (Nat × Value)} {st : List Value} {s : Sto} {Q : Int → Sto → Prop} (hd : decode M.1 pc = .ok (.invokevirtual 90, 3)) (hM : M.2.1 = RL) (hn : pc + 3 = npc) (hcat : (st.map (fun v => v.category)).sum ≤ 8) (hR : 5 + 1 ≤ M.2.2.2.2.frames ∧ 8 + (1 + 11) + 111 ≤ M.2.2.2.2.locals) (hC : cs + 0 ≤ M.2.2.2.2.cells ∧ ss + 0 ≤ M.2.2.2.2.slots) (h : K_Cg_level n s Q) (k' : ∀ r s1, Q r s1 → Go (SL n) M F (cs + 0) (ss + 0) npc l (iV r :: st) s1) : Go (SL n) M F cs ss pc l (.ref 0 :: st) s := g_callV (k := 0) (as := []) (st := st) hd hn rfl ⟨ltSL (by decide), rfl⟩ rfl rfl (show okV M 90 RX10 yX10_level cX10_level 1 (some .int) 0 from ⟨⟨by rw [hM]; exact tw_725, tw_726, tw_727, tw_31, tw_728⟩, rfl, by decide, by decide, by decide +kernel⟩) rfl hcat hC hR h (fun r s1 h => by obtain ⟨x, rfl, h2⟩ := h; exact k' x s1 h2)
theorem iv_La_93 {n cs ss : Nat} {M : Mth} {F : Option Value → Sto → Prop} {pc npc : Nat} {l : List (Nat × Value)} {st : List Value} {s : Sto} {x1 : Int} {Q : Int → Sto → Prop} (hd : decode M.1 pc = .ok (.invokevirtual 93, 3)) (hM : M.2.1 = RL) (hn : pc + 3 = npc) (hcat : (st.map (fun v => v.category)).sum ≤ 8) (hR : 3 + 1 ≤ M.2.2.2.2.frames ∧ 8 + (2 + 11) + 72 ≤ M.2.2.2.2.locals) (hC : cs + 0 ≤ M.2.2.2.2.cells ∧ ss + 0 ≤ M.2.2.2.2.slots) (h : K_Cg_takeTree n x1 s Q) (k' : ∀ r s1, Q r s1 → Go (SL n) M F (cs + 0) (ss + 0) npc l (iV r :: st) s1) : Go (SL n) M F cs ss pc l (iV x1 :: .ref 0 :: st) s := g_callV (k := 0) (as := [iV x1]) (st := st) hd hn rfl ⟨ltSL (by decide), rfl⟩ rfl rfl (show okV M 93 RX10 yX10_takeTree cX10_takeTree 2 (some .int) 1 from ⟨⟨by rw [hM]; exact tw_729, tw_730, tw_731, tw_31, tw_732⟩, rfl, by decide, by decide, by decide +kernel⟩) rfl hcat hC hR h (fun r s1 h => by obtain ⟨x, rfl, h2⟩ := h; exact k' x s1 h2)
theorem iv_La_99 {n cs ss : Nat} {M : Mth} {F : Option Value → Sto → Prop} {pc npc : Nat} {l : List (Nat × Value)} {st : List Value} {s : Sto} {x1 : Int} {Q : Int → Sto → Prop} (hd : decode M.1 pc = .ok (.invokevirtual 99, 3)) (hM : M.2.1 = RL) (hn : pc + 3 = npc) (hcat : (st.map (fun v => v.category)).sum ≤ 8) (hR : 2 + 1 ≤ M.2.2.2.2.frames ∧ 8 + (3 + 11) + 44 ≤ M.2.2.2.2.locals) (hC : cs + 0 ≤ M.2.2.2.2.cells ∧ ss + 0 ≤ M.2.2.2.2.slots) (h : K_Cg_add n x1 s Q) (k' : ∀ r s1, Q r s1 → Go (SL n) M F (cs + 0) (ss + 0) npc l (iV r :: st) s1) : Go (SL n) M F cs ss pc l (iV x1 :: .ref 0 :: st) s := g_callV (k := 0) (as := [iV x1]) (st := st) hd hn rfl ⟨ltSL (by decide), rfl⟩ rfl rfl (show okV M 99 RX10 yX10_add cX10_add 3 (some .int) 1 from ⟨⟨by rw [hM]; exact tw_751, tw_752, tw_753, tw_31, tw_754⟩, rfl, by decide, by decide, by decide +kernel⟩) rfl hcat hC hR h (fun r s1 h => by obtain ⟨x, rfl, h2⟩ := h; exact k' x s1 h2)
theorem iv_La_102 {n cs ss : Nat} {M : Mth} {F : Option Value → Sto → Prop} {pc npc : Nat} {l : List (Nat × Value)} {st : List Value} {s : Sto} {k0 : Nat} {Q : Int → Sto → Prop} (hd : decode M.1 pc = .ok (.invokestatic 102, 3)) (hM : M.2.1 = RL) (hn : pc + 3 = npc) (hcat : (st.map (fun v => v.category)).sum ≤ 8) (hR : 0 + 1 ≤ M.2.2.2.2.frames ∧ 8 + (3 + 11) + 0 ≤ M.2.2.2.2.locals) (hC : cs + 0 ≤ M.2.2.2.2.cells ∧ ss + 0 ≤ M.2.2.2.2.slots) (h : K_La_sumOf n k0 s Q) (k' : ∀ r s1, Q r s1 → Go (SL n) M F (cs + 0) (ss + 0) npc l (iV r :: st) s1) : Go (SL n) M F cs ss pc l (.ref k0 :: st) s := g_callS (as := [.ref k0]) (st := st) hd hn rfl (show okS M 102 yL_sumOf cL_sumOf 3 (some .int) 1 from ⟨⟨by rw [hM]; exact tw_755, tw_756, tw_30, tw_757⟩, by decide, by decide, by decide +kernel⟩) rfl hcat hC hR h (fun r s1 h => by obtain ⟨x, rfl, h2⟩ := h; exact k' x s1 h2)
theorem iv_La_96 {n cs ss : Nat} {M : Mth} {F : Option Value → Sto → Prop} {pc npc : Nat} {l : List (Nat × Value)} {st : List Value} {s : Sto} {x1 : Int} {Q : Int → Sto → Prop} (hd : decode M.1 pc = .ok (.invokevirtual 96, 3)) (hM : M.2.1 = RL) (hn : pc + 3 = npc) (hcat : (st.map (fun v => v.category)).sum ≤ 8) (hR : 6 + 1 ≤ M.2.2.2.2.frames ∧ 8 + (2 + 11) + 135 ≤ M.2.2.2.2.locals) (hC : cs + 0 ≤ M.2.2.2.2.cells ∧ ss + 0 ≤ M.2.2.2.2.slots) (h : K_Cg_identity n x1 s Q) (k' : ∀ r s1, Q r s1 → Go (SL n) M F (cs + 0) (ss + 0) npc l (iV r :: st) s1) : Go (SL n) M F cs ss pc l (iV x1 :: .ref 0 :: st) s := g_callV (k := 0) (as := [iV x1]) (st := st) hd hn rfl ⟨ltSL (by decide), rfl⟩ rfl rfl (show okV M 96 RX10 yX10_identity cX10_identity 2 (some .int) 1 from ⟨⟨by rw [hM]; exact tw_747, tw_748, tw_749, tw_31, tw_750⟩, rfl, by decide, by decide, by decide +kernel⟩) rfl hcat hC hR h (fun r s1 h => by obtain ⟨x, rfl, h2⟩ := h; exact k' x s1 h2)
theorem iv_Tr_43 {n cs ss : Nat} {M : Mth} {F : Option Value → Sto → Prop} {pc npc : Nat} {l : List (Nat × Value)} {st : List Value} {s : Sto} {x1 : Int} {x2 : Int} {Q : Int → Sto → Prop} (hd : decode M.1 pc = .ok (.invokevirtual 43, 3)) (hM : M.2.1 = RX9) (hn : pc + 3 = npc) (hcat : (st.map (fun v => v.category)).sum ≤ 8) (hR : 4 + 1 ≤ M.2.2.2.2.frames ∧ 8 + (3 + 11) + 88 ≤ M.2.2.2.2.locals) (hC : cs + 0 ≤ M.2.2.2.2.cells ∧ ss + 0 ≤ M.2.2.2.2.slots) (h : K_Tr_count n x1 x2 s Q) (k' : ∀ r s1, Q r s1 → Go (SL n) M F (cs + 0) (ss + 0) npc l (jV r :: st) s1) : Go (SL n) M F cs ss pc l (iV x2 :: iV x1 :: .ref 53 :: st) s := g_callV (k := 53) (as := [iV x1, iV x2]) (st := st) hd hn rfl ⟨ltSL (by decide), rfl⟩ rfl rfl (show okV M 43 RX9 yX9_count cX9_count 3 (some .long) 2 from ⟨⟨by rw [hM]; exact tw_770, tw_458, tw_459, tw_39, tw_460⟩, rfl, by decide, by decide, by decide +kernel⟩) rfl hcat hC hR h (fun r s1 h => by obtain ⟨x, rfl, h2⟩ := h; exact k' x s1 h2)
theorem iv_Cg_276 {n cs ss : Nat} {M : Mth} {F : Option Value → Sto → Prop} {pc npc : Nat} {l : List (Nat × Value)} {st : List Value} {s : Sto} {x1 : Int} {Q : Int → Sto → Prop} (hd : decode M.1 pc = .ok (.invokevirtual 276, 3)) (hM : M.2.1 = RX10) (hn : pc + 3 = npc) (hcat : (st.map (fun v => v.category)).sum ≤ 8) (hR : 5 + 1 ≤ M.2.2.2.2.frames ∧ 8 + (10 + 11) + 110 ≤ M.2.2.2.2.locals) (hC : cs + 0 ≤ M.2.2.2.2.cells ∧ ss + 0 ≤ M.2.2.2.2.slots) (h : K_Tr_treeNumbered n x1 s Q) (k' : ∀ r s1, Q r s1 → Go (SL n) M F (cs + 0) (ss + 0) npc l (iV r :: st) s1) : Go (SL n) M F cs ss pc l (iV x1 :: .ref 53 :: st) s := g_callV (k := 53) (as := [iV x1]) (st := st) hd hn rfl ⟨ltSL (by decide), rfl⟩ rfl rfl (show okV M 276 RX9 yX9_treeNumbered cX9_treeNumbered 10 (some .int) 1 from ⟨⟨by rw [hM]; exact tw_766, tw_767, tw_768, tw_39, tw_769⟩, rfl, by decide, by decide, by decide +kernel⟩) rfl hcat hC hR h (fun r s1 h => by obtain ⟨x, rfl, h2⟩ := h; exact k' x s1 h2)
theorem iv_La_108 {n cs ss : Nat} {M : Mth} {F : Option Value → Sto → Prop} {pc npc : Nat} {l : List (Nat × Value)} {st : List Value} {s : Sto} {x1 : Int} {Q : Int → Sto → Prop} (hd : decode M.1 pc = .ok (.invokevirtual 108, 3)) (hM : M.2.1 = RL) (hn : pc + 3 = npc) (hcat : (st.map (fun v => v.category)).sum ≤ 8) (hR : 6 + 1 ≤ M.2.2.2.2.frames ∧ 8 + (2 + 11) + 139 ≤ M.2.2.2.2.locals) (hC : cs + 0 ≤ M.2.2.2.2.cells ∧ ss + 0 ≤ M.2.2.2.2.slots) (h : K_Cg_treeAt n x1 s Q) (k' : ∀ r s1, Q r s1 → Go (SL n) M F (cs + 0) (ss + 0) npc l (iV r :: st) s1) : Go (SL n) M F cs ss pc l (iV x1 :: .ref 0 :: st) s := g_callV (k := 0) (as := [iV x1]) (st := st) hd hn rfl ⟨ltSL (by decide), rfl⟩ rfl rfl (show okV M 108 RX10 yX10_treeAt cX10_treeAt 2 (some .int) 1 from ⟨⟨by rw [hM]; exact tw_762, tw_763, tw_764, tw_31, tw_765⟩, rfl, by decide, by decide, by decide +kernel⟩) rfl hcat hC hR h (fun r s1 h => by obtain ⟨x, rfl, h2⟩ := h; exact k' x s1 h2)
theorem iv_Cg_219 {n cs ss : Nat} {M : Mth} {F : Option Value → Sto → Prop} {pc npc : Nat} {l : List (Nat × Value)} {st : List Value} {s : Sto} {x1 : Int} {Q : Int → Sto → Prop} (hd : decode M.1 pc = .ok (.invokevirtual 219, 3)) (hM : M.2.1 = RX10) (hn : pc + 3 = npc) (hcat : (st.map (fun v => v.category)).sum ≤ 8) (hR : 1 + 1 ≤ M.2.2.2.2.frames ∧ 8 + (2 + 11) + 21 ≤ M.2.2.2.2.locals) (hC : cs + 0 ≤ M.2.2.2.2.cells ∧ ss + 0 ≤ M.2.2.2.2.slots) (h : K_Bu_hasBurnt n x1 s Q) (k' : ∀ r s1, Q r s1 → Go (SL n) M F (cs + 0) (ss + 0) npc l (iV r :: st) s1) : Go (SL n) M F cs ss pc l (iV x1 :: .ref 37 :: st) s := g_callV (k := 37) (as := [iV x1]) (st := st) hd hn rfl ⟨ltSL (by decide), rfl⟩ rfl rfl (show okV M 219 RX0 yX0_hasBurnt cX0_hasBurnt 2 (some .boolean) 1 from ⟨⟨by rw [hM]; exact tw_779, tw_534, tw_535, tw_36, tw_536⟩, rfl, by decide, by decide, by decide +kernel⟩) rfl hcat hC hR h (fun r s1 h => by obtain ⟨x, rfl, h2⟩ := h; exact k' x s1 h2)
theorem gf_Cg_222 {n cs ss : Nat} {M : Mth} {F : Option Value → Sto → Prop} {pc npc : Nat} {l : List (Nat × Value)} {st : List Value} {s : Sto} (hd : decode M.1 pc = .ok (.getfield 222, 3)) (hM : M.2.1 = RX10) (hn : pc + 3 = npc) (k' : Go (SL n) M F cs ss npc l (.ref 38 :: st) s) : Go (SL n) M F cs ss pc l (.ref 37 :: st) s := g_get (N := 3) (f := 0) hd hn ⟨ltSL (by decide), rfl, rfl⟩ rfl inw_X0 (by decide) (by rw [hM]; exact tw_164) rfl (Or.inr ⟨_, rfl, rfl⟩) k'
theorem iv_La_113 {n cs ss : Nat} {M : Mth} {F : Option Value → Sto → Prop} {pc npc : Nat} {l : List (Nat × Value)} {st : List Value} {s : Sto} {x1 : Int} {Q : Int → Sto → Prop} (hd : decode M.1 pc = .ok (.invokevirtual 113, 3)) (hM : M.2.1 = RL) (hn : pc + 3 = npc) (hcat : (st.map (fun v => v.category)).sum ≤ 8) (hR : 4 + 1 ≤ M.2.2.2.2.frames ∧ 8 + (2 + 11) + 91 ≤ M.2.2.2.2.locals) (hC : cs + 0 ≤ M.2.2.2.2.cells ∧ ss + 0 ≤ M.2.2.2.2.slots) (h : K_Cg_burnt n x1 s Q) (k' : ∀ r s1, Q r s1 → Go (SL n) M F (cs + 0) (ss + 0) npc l (iV r :: st) s1) : Go (SL n) M F cs ss pc l (iV x1 :: .ref 0 :: st) s := g_callV (k := 0) (as := [iV x1]) (st := st) hd hn rfl ⟨ltSL (by decide), rfl⟩ rfl rfl (show okV M 113 RX10 yX10_burnt cX10_burnt 2 (some .int) 1 from ⟨⟨by rw [hM]; exact tw_775, tw_776, tw_777, tw_31, tw_778⟩, rfl, by decide, by decide, by decide +kernel⟩) rfl hcat hC hR h (fun r s1 h => by obtain ⟨x, rfl, h2⟩ := h; exact k' x s1 h2)
theorem iv_La_116 {n cs ss : Nat} {M : Mth} {F : Option Value → Sto → Prop} {pc npc : Nat} {l : List (Nat × Value)} {st : List Value} {s : Sto} {x1 : Int} {Q : Int → Sto → Prop} (hd : decode M.1 pc = .ok (.invokevirtual 116, 3)) (hM : M.2.1 = RL) (hn : pc + 3 = npc) (hcat : (st.map (fun v => v.category)).sum ≤ 8) (hR : 3 + 1 ≤ M.2.2.2.2.frames ∧ 8 + (3 + 11) + 62 ≤ M.2.2.2.2.locals) (hC : cs + 0 ≤ M.2.2.2.2.cells ∧ ss + 0 ≤ M.2.2.2.2.slots) (h : K_Cg_reset n x1 s Q) (k' : ∀ r s1, Q r s1 → Go (SL n) M F (cs + 0) (ss + 0) npc l (iV r :: st) s1) : Go (SL n) M F cs ss pc l (iV x1 :: .ref 0 :: st) s := g_callV (k := 0) (as := [iV x1]) (st := st) hd hn rfl ⟨ltSL (by decide), rfl⟩ rfl rfl (show okV M 116 RX10 yX10_reset cX10_reset 3 (some .int) 1 from ⟨⟨by rw [hM]; exact tw_307, tw_308, tw_309, tw_31, tw_310⟩, rfl, by decide, by decide, by decide +kernel⟩) rfl hcat hC hR h (fun r s1 h => by obtain ⟨x, rfl, h2⟩ := h; exact k' x s1 h2)
theorem iv_La_128 {n cs ss : Nat} {M : Mth} {F : Option Value → Sto → Prop} {pc npc : Nat} {l : List (Nat × Value)} {st : List Value} {s : Sto} {x1 : Int} {Q : Int → Sto → Prop} (hd : decode M.1 pc = .ok (.invokevirtual 128, 3)) (hM : M.2.1 = RL) (hn : pc + 3 = npc) (hcat : (st.map (fun v => v.category)).sum ≤ 8) (hR : 2 + 1 ≤ M.2.2.2.2.frames ∧ 8 + (2 + 11) + 44 ≤ M.2.2.2.2.locals) (hC : cs + 0 ≤ M.2.2.2.2.cells ∧ ss + 0 ≤ M.2.2.2.2.slots) (h : K_Cg_load n x1 s Q) (k' : ∀ r s1, Q r s1 → Go (SL n) M F (cs + 0) (ss + 0) npc l (iV r :: st) s1) : Go (SL n) M F cs ss pc l (iV x1 :: .ref 0 :: st) s := g_callV (k := 0) (as := [iV x1]) (st := st) hd hn rfl ⟨ltSL (by decide), rfl⟩ rfl rfl (show okV M 128 RX10 yX10_load cX10_load 2 (some .int) 1 from ⟨⟨by rw [hM]; exact tw_783, tw_784, tw_785, tw_31, tw_786⟩, rfl, by decide, by decide, by decide +kernel⟩) rfl hcat hC hR h (fun r s1 h => by obtain ⟨x, rfl, h2⟩ := h; exact k' x s1 h2)
theorem iv_La_119 {n cs ss : Nat} {M : Mth} {F : Option Value → Sto → Prop} {pc npc : Nat} {l : List (Nat × Value)} {st : List Value} {s : Sto} {x1 : Int} {x2 : Int} {Q : Int → Sto → Prop} (hd : decode M.1 pc = .ok (.invokevirtual 119, 3)) (hM : M.2.1 = RL) (hn : pc + 3 = npc) (hcat : (st.map (fun v => v.category)).sum ≤ 8) (hR : 3 + 1 ≤ M.2.2.2.2.frames ∧ 8 + (3 + 11) + 66 ≤ M.2.2.2.2.locals) (hC : cs + 0 ≤ M.2.2.2.2.cells ∧ ss + 0 ≤ M.2.2.2.2.slots) (h : K_Cg_addEdge n x1 x2 s Q) (k' : ∀ r s1, Q r s1 → Go (SL n) M F (cs + 0) (ss + 0) npc l (iV r :: st) s1) : Go (SL n) M F cs ss pc l (iV x2 :: iV x1 :: .ref 0 :: st) s := g_callV (k := 0) (as := [iV x1, iV x2]) (st := st) hd hn rfl ⟨ltSL (by decide), rfl⟩ rfl rfl (show okV M 119 RX10 yX10_addEdge cX10_addEdge 3 (some .int) 2 from ⟨⟨by rw [hM]; exact tw_330, tw_331, tw_332, tw_31, tw_333⟩, rfl, by decide, by decide, by decide +kernel⟩) rfl hcat hC hR h (fun r s1 h => by obtain ⟨x, rfl, h2⟩ := h; exact k' x s1 h2)
theorem iv_La_122 {n cs ss : Nat} {M : Mth} {F : Option Value → Sto → Prop} {pc npc : Nat} {l : List (Nat × Value)} {st : List Value} {s : Sto} {x1 : Int} {Q : Int → Sto → Prop} (hd : decode M.1 pc = .ok (.invokevirtual 122, 3)) (hM : M.2.1 = RL) (hn : pc + 3 = npc) (hcat : (st.map (fun v => v.category)).sum ≤ 8) (hR : 3 + 1 ≤ M.2.2.2.2.frames ∧ 8 + (2 + 11) + 66 ≤ M.2.2.2.2.locals) (hC : cs + 0 ≤ M.2.2.2.2.cells ∧ ss + 0 ≤ M.2.2.2.2.slots) (h : K_Cg_removeEdge n x1 s Q) (k' : ∀ r s1, Q r s1 → Go (SL n) M F (cs + 0) (ss + 0) npc l (iV r :: st) s1) : Go (SL n) M F cs ss pc l (iV x1 :: .ref 0 :: st) s := g_callV (k := 0) (as := [iV x1]) (st := st) hd hn rfl ⟨ltSL (by decide), rfl⟩ rfl rfl (show okV M 122 RX10 yX10_removeEdge cX10_removeEdge 2 (some .int) 1 from ⟨⟨by rw [hM]; exact tw_335, tw_336, tw_337, tw_31, tw_338⟩, rfl, by decide, by decide, by decide +kernel⟩) rfl hcat hC hR h (fun r s1 h => by obtain ⟨x, rfl, h2⟩ := h; exact k' x s1 h2)
theorem iv_La_125 {n cs ss : Nat} {M : Mth} {F : Option Value → Sto → Prop} {pc npc : Nat} {l : List (Nat × Value)} {st : List Value} {s : Sto} {x1 : Int} {Q : Int → Sto → Prop} (hd : decode M.1 pc = .ok (.invokevirtual 125, 3)) (hM : M.2.1 = RL) (hn : pc + 3 = npc) (hcat : (st.map (fun v => v.category)).sum ≤ 8) (hR : 2 + 1 ≤ M.2.2.2.2.frames ∧ 8 + (3 + 11) + 41 ≤ M.2.2.2.2.locals) (hC : cs + 0 ≤ M.2.2.2.2.cells ∧ ss + 0 ≤ M.2.2.2.2.slots) (h : K_Cg_setSink n x1 s Q) (k' : ∀ r s1, Q r s1 → Go (SL n) M F (cs + 0) (ss + 0) npc l (iV r :: st) s1) : Go (SL n) M F cs ss pc l (iV x1 :: .ref 0 :: st) s := g_callV (k := 0) (as := [iV x1]) (st := st) hd hn rfl ⟨ltSL (by decide), rfl⟩ rfl rfl (show okV M 125 RX10 yX10_setSink cX10_setSink 3 (some .int) 1 from ⟨⟨by rw [hM]; exact tw_348, tw_349, tw_350, tw_31, tw_351⟩, rfl, by decide, by decide, by decide +kernel⟩) rfl hcat hC hR h (fun r s1 h => by obtain ⟨x, rfl, h2⟩ := h; exact k' x s1 h2)
theorem iv_La_132 {n cs ss : Nat} {M : Mth} {F : Option Value → Sto → Prop} {pc npc : Nat} {l : List (Nat × Value)} {st : List Value} {s : Sto} {Q : Int → Sto → Prop} (hd : decode M.1 pc = .ok (.invokevirtual 132, 3)) (hM : M.2.1 = RL) (hn : pc + 3 = npc) (hcat : (st.map (fun v => v.category)).sum ≤ 8) (hR : 2 + 1 ≤ M.2.2.2.2.frames ∧ 8 + (1 + 11) + 43 ≤ M.2.2.2.2.locals) (hC : cs + 0 ≤ M.2.2.2.2.cells ∧ ss + 0 ≤ M.2.2.2.2.slots) (h : K_Cg_undo n s Q) (k' : ∀ r s1, Q r s1 → Go (SL n) M F (cs + 0) (ss + 0) npc l (iV r :: st) s1) : Go (SL n) M F cs ss pc l (.ref 0 :: st) s := g_callV (k := 0) (as := []) (st := st) hd hn rfl ⟨ltSL (by decide), rfl⟩ rfl rfl (show okV M 132 RX10 yX10_undo cX10_undo 1 (some .int) 0 from ⟨⟨by rw [hM]; exact tw_445, tw_446, tw_447, tw_31, tw_448⟩, rfl, by decide, by decide, by decide +kernel⟩) rfl hcat hC hR h (fun r s1 h => by obtain ⟨x, rfl, h2⟩ := h; exact k' x s1 h2)
theorem iv_La_135 {n cs ss : Nat} {M : Mth} {F : Option Value → Sto → Prop} {pc npc : Nat} {l : List (Nat × Value)} {st : List Value} {s : Sto} {k0 : Nat} {x1 : Int} {Q : Int → Sto → Prop} (hd : decode M.1 pc = .ok (.invokestatic 135, 3)) (hM : M.2.1 = RL) (hn : pc + 3 = npc) (hcat : (st.map (fun v => v.category)).sum ≤ 8) (hR : 0 + 1 ≤ M.2.2.2.2.frames ∧ 8 + (2 + 11) + 0 ≤ M.2.2.2.2.locals) (hC : cs + 0 ≤ M.2.2.2.2.cells ∧ ss + 0 ≤ M.2.2.2.2.slots) (h : K_La_cell n k0 x1 s Q) (k' : ∀ r s1, Q r s1 → Go (SL n) M F (cs + 0) (ss + 0) npc l (iV r :: st) s1) : Go (SL n) M F cs ss pc l (iV x1 :: .ref k0 :: st) s := g_callS (as := [.ref k0, iV x1]) (st := st) hd hn rfl (show okS M 135 yL_cell cL_cell 2 (some .int) 2 from ⟨⟨by rw [hM]; exact tw_483, tw_484, tw_30, tw_485⟩, by decide, by decide, by decide +kernel⟩) rfl hcat hC hR h (fun r s1 h => by obtain ⟨x, rfl, h2⟩ := h; exact k' x s1 h2)
theorem iv_La_139 {n cs ss : Nat} {M : Mth} {F : Option Value → Sto → Prop} {pc npc : Nat} {l : List (Nat × Value)} {st : List Value} {s : Sto} {x0 : Int} {x1 : Int} {Q : Int → Sto → Prop} (hd : decode M.1 pc = .ok (.invokestatic 139, 3)) (hM : M.2.1 = RL) (hn : pc + 3 = npc) (hcat : (st.map (fun v => v.category)).sum ≤ 8) (hR : 0 + 1 ≤ M.2.2.2.2.frames ∧ 8 + (2 + 11) + 0 ≤ M.2.2.2.2.locals) (hC : cs + 0 ≤ M.2.2.2.2.cells ∧ ss + 0 ≤ M.2.2.2.2.slots) (h : K_La_low n x0 x1 s Q) (k' : ∀ r s1, Q r s1 → Go (SL n) M F (cs + 0) (ss + 0) npc l (iV r :: st) s1) : Go (SL n) M F cs ss pc l (iV x1 :: iV x0 :: st) s := g_callS (as := [iV x0, iV x1]) (st := st) hd hn rfl (show okS M 139 yL_low cL_low 2 (some .int) 2 from ⟨⟨by rw [hM]; exact tw_487, tw_488, tw_30, tw_489⟩, by decide, by decide, by decide +kernel⟩) rfl hcat hC hR h (fun r s1 h => by obtain ⟨x, rfl, h2⟩ := h; exact k' x s1 h2)
theorem iv_La_156 {n cs ss : Nat} {M : Mth} {F : Option Value → Sto → Prop} {pc npc : Nat} {l : List (Nat × Value)} {st : List Value} {s : Sto} {Q : Int → Sto → Prop} (hd : decode M.1 pc = .ok (.invokestatic 156, 3)) (hM : M.2.1 = RL) (hn : pc + 3 = npc) (hcat : (st.map (fun v => v.category)).sum ≤ 8) (hR : 7 + 1 ≤ M.2.2.2.2.frames ∧ 8 + (6 + 11) + 156 ≤ M.2.2.2.2.locals) (hC : cs + 0 ≤ M.2.2.2.2.cells ∧ ss + 0 ≤ M.2.2.2.2.slots) (h : K_La_errors n s Q) (k' : ∀ r s1, Q r s1 → Go (SL n) M F (cs + 0) (ss + 0) npc l (iV r :: st) s1) : Go (SL n) M F cs ss pc l (.ref 0 :: st) s := g_callS (as := [.ref 0]) (st := st) hd hn rfl (show okS M 156 yL_errors cL_errors 6 (some .boolean) 1 from ⟨⟨by rw [hM]; exact tw_780, tw_781, tw_30, tw_782⟩, by decide, by decide, by decide +kernel⟩) rfl hcat hC hR h (fun r s1 h => by obtain ⟨x, rfl, h2⟩ := h; exact k' x s1 h2)
theorem iv_La_142 {n cs ss : Nat} {M : Mth} {F : Option Value → Sto → Prop} {pc npc : Nat} {l : List (Nat × Value)} {st : List Value} {s : Sto} {Q : Int → Sto → Prop} (hd : decode M.1 pc = .ok (.invokestatic 142, 3)) (hM : M.2.1 = RL) (hn : pc + 3 = npc) (hcat : (st.map (fun v => v.category)).sum ≤ 8) (hR : 6 + 1 ≤ M.2.2.2.2.frames ∧ 8 + (10 + 11) + 132 ≤ M.2.2.2.2.locals) (hC : cs + 0 ≤ M.2.2.2.2.cells ∧ ss + 0 ≤ M.2.2.2.2.slots) (h : K_La_burning n s Q) (k' : ∀ r s1, Q r s1 → Go (SL n) M F (cs + 0) (ss + 0) npc l (iV r :: st) s1) : Go (SL n) M F cs ss pc l (.ref 0 :: st) s := g_callS (as := [.ref 0]) (st := st) hd hn rfl (show okS M 142 yL_burning cL_burning 10 (some .boolean) 1 from ⟨⟨by rw [hM]; exact tw_772, tw_773, tw_30, tw_774⟩, by decide, by decide, by decide +kernel⟩) rfl hcat hC hR h (fun r s1 h => by obtain ⟨x, rfl, h2⟩ := h; exact k' x s1 h2)
theorem iv_La_146 {n cs ss : Nat} {M : Mth} {F : Option Value → Sto → Prop} {pc npc : Nat} {l : List (Nat × Value)} {st : List Value} {s : Sto} {x1 : Int} {Q : Int → Sto → Prop} (hd : decode M.1 pc = .ok (.invokestatic 146, 3)) (hM : M.2.1 = RL) (hn : pc + 3 = npc) (hcat : (st.map (fun v => v.category)).sum ≤ 8) (hR : 7 + 1 ≤ M.2.2.2.2.frames ∧ 8 + (14 + 11) + 155 ≤ M.2.2.2.2.locals) (hC : cs + 4 ≤ M.2.2.2.2.cells ∧ ss + 32 ≤ M.2.2.2.2.slots) (h : K_La_settles n x1 s Q) (k' : ∀ r s1, Q r s1 → Go (SL n) M F (cs + 4) (ss + 32) npc l (iV r :: st) s1) : Go (SL n) M F cs ss pc l (iV x1 :: .ref 0 :: st) s := g_callS (as := [.ref 0, iV x1]) (st := st) hd hn rfl (show okS M 146 yL_settles cL_settles 14 (some .boolean) 2 from ⟨⟨by rw [hM]; exact tw_491, tw_492, tw_30, tw_493⟩, by decide, by decide, by decide +kernel⟩) rfl hcat hC hR h (fun r s1 h => by obtain ⟨x, rfl, h2⟩ := h; exact k' x s1 h2)
theorem iv_La_150 {n cs ss : Nat} {M : Mth} {F : Option Value → Sto → Prop} {pc npc : Nat} {l : List (Nat × Value)} {st : List Value} {s : Sto} {Q : Int → Sto → Prop} (hd : decode M.1 pc = .ok (.invokestatic 150, 3)) (hM : M.2.1 = RL) (hn : pc + 3 = npc) (hcat : (st.map (fun v => v.category)).sum ≤ 8) (hR : 7 + 1 ≤ M.2.2.2.2.frames ∧ 8 + (14 + 11) + 156 ≤ M.2.2.2.2.locals) (hC : cs + 3 ≤ M.2.2.2.2.cells ∧ ss + 24 ≤ M.2.2.2.2.slots) (h : K_La_classes n s Q) (k' : ∀ r s1, Q r s1 → Go (SL n) M F (cs + 3) (ss + 24) npc l (iV r :: st) s1) : Go (SL n) M F cs ss pc l (.ref 0 :: st) s := g_callS (as := [.ref 0]) (st := st) hd hn rfl (show okS M 150 yL_classes cL_classes 14 (some .boolean) 1 from ⟨⟨by rw [hM]; exact tw_693, tw_694, tw_30, tw_695⟩, by decide, by decide, by decide +kernel⟩) rfl hcat hC hR h (fun r s1 h => by obtain ⟨x, rfl, h2⟩ := h; exact k' x s1 h2)
theorem iv_La_153 {n cs ss : Nat} {M : Mth} {F : Option Value → Sto → Prop} {pc npc : Nat} {l : List (Nat × Value)} {st : List Value} {s : Sto} {Q : Int → Sto → Prop} (hd : decode M.1 pc = .ok (.invokestatic 153, 3)) (hM : M.2.1 = RL) (hn : pc + 3 = npc) (hcat : (st.map (fun v => v.category)).sum ≤ 8) (hR : 7 + 1 ≤ M.2.2.2.2.frames ∧ 8 + (13 + 11) + 160 ≤ M.2.2.2.2.locals) (hC : cs + 0 ≤ M.2.2.2.2.cells ∧ ss + 0 ≤ M.2.2.2.2.slots) (h : K_La_group n s Q) (k' : ∀ r s1, Q r s1 → Go (SL n) M F (cs + 0) (ss + 0) npc l (iV r :: st) s1) : Go (SL n) M F cs ss pc l (.ref 0 :: st) s := g_callS (as := [.ref 0]) (st := st) hd hn rfl (show okS M 153 yL_group cL_group 13 (some .boolean) 1 from ⟨⟨by rw [hM]; exact tw_758, tw_759, tw_30, tw_760⟩, by decide, by decide, by decide +kernel⟩) rfl hcat hC hR h (fun r s1 h => by obtain ⟨x, rfl, h2⟩ := h; exact k' x s1 h2)
end
section
theorem end_of_parts : True := trivial
end
