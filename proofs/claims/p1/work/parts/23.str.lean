theorem tws_3 : Cond.selects RX8 yX8_isNameAndSign yX8_isNameAndSign ∈ TW := tw_in (List.mem_of_getElem? (i := 3) (by decide +kernel)) (by decide +kernel)
theorem tws_67 : Cond.initialized RX8 ∈ TW := tw_in (List.mem_of_getElem? (i := 67) (by decide +kernel)) (by decide +kernel)
theorem tws_76 : Cond.initialized RX6 ∈ TW := tw_in (List.mem_of_getElem? (i := 76) (by decide +kernel)) (by decide +kernel)
theorem tws_77 : Cond.initialized RJ0 ∈ TW := tw_in (List.mem_of_getElem? (i := 77) (by decide +kernel)) (by decide +kernel)
theorem tws_78 : Cond.initialized RJ1 ∈ TW := tw_in (List.mem_of_getElem? (i := 78) (by decide +kernel)) (by decide +kernel)
theorem tws_79 : Cond.initialized RJ3 ∈ TW := tw_in (List.mem_of_getElem? (i := 79) (by decide +kernel)) (by decide +kernel)
theorem tws_413 : Cond.methodLink RX8 21 yX6_nameOf ∈ TW := tw_in (List.mem_of_getElem? (i := 413) (by decide +kernel)) (by decide +kernel)
theorem tws_414 : Cond.static yX6_nameOf ∈ TW := tw_in (List.mem_of_getElem? (i := 414) (by decide +kernel)) (by decide +kernel)
theorem tws_415 : Cond.code yX6_nameOf cX6_nameOf 1 (some (.object "java/lang/String")) ∈ TW := tw_in (List.mem_of_getElem? (i := 415) (by decide +kernel)) (by decide +kernel)
theorem tws_422 : Cond.methodLink RX8 25 yX8_isNameAndSign ∈ TW := tw_in (List.mem_of_getElem? (i := 422) (by decide +kernel)) (by decide +kernel)
theorem tws_424 : Cond.instanceMethod yX8_isNameAndSign ∈ TW := tw_in (List.mem_of_getElem? (i := 424) (by decide +kernel)) (by decide +kernel)
theorem tws_425 : Cond.code yX8_isNameAndSign cX8_isNameAndSign 3 (some .boolean) ∈ TW := tw_in (List.mem_of_getElem? (i := 425) (by decide +kernel)) (by decide +kernel)
theorem tws_426 : Cond.methodLink RX8 29 yJ0_length_8abf5 ∈ TW := tw_in (List.mem_of_getElem? (i := 426) (by decide +kernel)) (by decide +kernel)
theorem tws_427 : Cond.instanceMethod yJ0_length_8abf5 ∈ TW := tw_in (List.mem_of_getElem? (i := 427) (by decide +kernel)) (by decide +kernel)
theorem tws_428 : Cond.selects RJ0 yJ0_length_8abf5 yJ0_length_8abf5 ∈ TW := tw_in (List.mem_of_getElem? (i := 428) (by decide +kernel)) (by decide +kernel)
theorem tws_429 : Cond.code yJ0_length_8abf5 cJ0_length_8abf5 1 (some .int) ∈ TW := tw_in (List.mem_of_getElem? (i := 429) (by decide +kernel)) (by decide +kernel)
theorem tws_430 : Cond.methodLink RJ0 335 yJ0_coder_7d493 ∈ TW := tw_in (List.mem_of_getElem? (i := 430) (by decide +kernel)) (by decide +kernel)
theorem tws_431 : Cond.instanceMethod yJ0_coder_7d493 ∈ TW := tw_in (List.mem_of_getElem? (i := 431) (by decide +kernel)) (by decide +kernel)
theorem tws_432 : Cond.selects RJ0 yJ0_coder_7d493 yJ0_coder_7d493 ∈ TW := tw_in (List.mem_of_getElem? (i := 432) (by decide +kernel)) (by decide +kernel)
theorem tws_433 : Cond.code yJ0_coder_7d493 cJ0_coder_7d493 1 (some .byte) ∈ TW := tw_in (List.mem_of_getElem? (i := 433) (by decide +kernel)) (by decide +kernel)
theorem tws_434 : Cond.fieldLink RJ0 38 RJ0 "COMPACT_STRINGS" "Z" ∈ TW := tw_in (List.mem_of_getElem? (i := 434) (by decide +kernel)) (by decide +kernel)
theorem tws_436 : Cond.methodLink RX8 34 yJ0_charAt_5068e ∈ TW := tw_in (List.mem_of_getElem? (i := 436) (by decide +kernel)) (by decide +kernel)
theorem tws_437 : Cond.instanceMethod yJ0_charAt_5068e ∈ TW := tw_in (List.mem_of_getElem? (i := 437) (by decide +kernel)) (by decide +kernel)
theorem tws_438 : Cond.selects RJ0 yJ0_charAt_5068e yJ0_charAt_5068e ∈ TW := tw_in (List.mem_of_getElem? (i := 438) (by decide +kernel)) (by decide +kernel)
theorem tws_439 : Cond.code yJ0_charAt_5068e cJ0_charAt_5068e 2 (some .char) ∈ TW := tw_in (List.mem_of_getElem? (i := 439) (by decide +kernel)) (by decide +kernel)
theorem tws_440 : Cond.methodLink RJ0 492 yJ0_isLatin1_aae02 ∈ TW := tw_in (List.mem_of_getElem? (i := 440) (by decide +kernel)) (by decide +kernel)
theorem tws_441 : Cond.instanceMethod yJ0_isLatin1_aae02 ∈ TW := tw_in (List.mem_of_getElem? (i := 441) (by decide +kernel)) (by decide +kernel)
theorem tws_442 : Cond.selects RJ0 yJ0_isLatin1_aae02 yJ0_isLatin1_aae02 ∈ TW := tw_in (List.mem_of_getElem? (i := 442) (by decide +kernel)) (by decide +kernel)
theorem tws_443 : Cond.code yJ0_isLatin1_aae02 cJ0_isLatin1_aae02 1 (some .boolean) ∈ TW := tw_in (List.mem_of_getElem? (i := 443) (by decide +kernel)) (by decide +kernel)
theorem tws_444 : Cond.methodLink RJ0 495 yJ1_charAt_3b067 ∈ TW := tw_in (List.mem_of_getElem? (i := 444) (by decide +kernel)) (by decide +kernel)
theorem tws_445 : Cond.static yJ1_charAt_3b067 ∈ TW := tw_in (List.mem_of_getElem? (i := 445) (by decide +kernel)) (by decide +kernel)
theorem tws_446 : Cond.code yJ1_charAt_3b067 cJ1_charAt_3b067 2 (some .char) ∈ TW := tw_in (List.mem_of_getElem? (i := 446) (by decide +kernel)) (by decide +kernel)
theorem tws_447 : Cond.methodLink RJ1 9 yJ0_checkIndex_df160 ∈ TW := tw_in (List.mem_of_getElem? (i := 447) (by decide +kernel)) (by decide +kernel)
theorem tws_448 : Cond.static yJ0_checkIndex_df160 ∈ TW := tw_in (List.mem_of_getElem? (i := 448) (by decide +kernel)) (by decide +kernel)
theorem tws_449 : Cond.code yJ0_checkIndex_df160 cJ0_checkIndex_df160 2 none ∈ TW := tw_in (List.mem_of_getElem? (i := 449) (by decide +kernel)) (by decide +kernel)
theorem tws_450 : Cond.fieldLink RJ0 1053 RJ3 "SIOOBE_FORMATTER" "Ljava/util/function/BiFunction;" ∈ TW := tw_in (List.mem_of_getElem? (i := 450) (by decide +kernel)) (by decide +kernel)
theorem tws_452 : Cond.methodLink RJ0 1059 yJ3_checkIndex_8e157 ∈ TW := tw_in (List.mem_of_getElem? (i := 452) (by decide +kernel)) (by decide +kernel)
theorem tws_453 : Cond.static yJ3_checkIndex_8e157 ∈ TW := tw_in (List.mem_of_getElem? (i := 453) (by decide +kernel)) (by decide +kernel)
theorem tws_454 : Cond.code yJ3_checkIndex_8e157 cJ3_checkIndex_8e157 3 (some .int) ∈ TW := tw_in (List.mem_of_getElem? (i := 454) (by decide +kernel)) (by decide +kernel)
theorem tws_481 : Cond.fieldLink RX6 19 RX6 "LEAST" "[I" ∈ TW := tw_in (List.mem_of_getElem? (i := 481) (by decide +kernel)) (by decide +kernel)
theorem tws_483 : Cond.fieldLink RX6 25 RX6 "MOST" "[I" ∈ TW := tw_in (List.mem_of_getElem? (i := 483) (by decide +kernel)) (by decide +kernel)
theorem tws_1256 : Cond.fieldLink RJ0 9 RJ0 "value" "[B" ∈ TW := tw_in (List.mem_of_getElem? (i := 1256) (by decide +kernel)) (by decide +kernel)
theorem tws_1257 : Cond.fieldLink RJ0 15 RJ0 "coder" "B" ∈ TW := tw_in (List.mem_of_getElem? (i := 1257) (by decide +kernel)) (by decide +kernel)
/-! strings and tables that are constants: rows for them -/
def strC : List (List Int) := [[112, 97, 116, 104], [99, 121, 99, 108, 101], [99, 111, 109, 112, 108, 101, 116, 101], [115, 116, 97, 114], [119, 104, 101, 101, 108], []]
def sB (i j : Nat) : Int := ((strB.getD i []).getD j 0).toInt
section STR
variable {S : Shp} {M : Mth} {F : Option Value → Sto → Prop} {pc npc : Nat} {l : List (Nat × Value)} {st : List Value} {s : Sto}
theorem g_ldcS {i idx : Nat} {tx : String} (hd : decode M.1 pc = .ok (.ldc idx, 2)) (hn : pc + 2 = npc) (hM : M.2.1 = "ChipGame$Shapes") (h : strT[i]? = some (idx, tx)) (k : Go S M F npc l (.ref (1000 + i) :: st) s) : Go S M F pc l st s := by
  subst hn
  intro p lc e u m args below meth c D cA ad H locs ls X hP hS hl
  exact va_ldcS X.1 X.2.1 (by rw [← hM]; exact X.2.2.2.2.1) (X.2.2.2.2.2.2.2.2.2.2.2 i _ h) hd (k p lc e u m args below meth c D cA ad H locs ls X hP hS hl)
theorem g_sval {i idx : Nat} (hd : decode M.1 pc = .ok (.getfield idx, 3)) (hn : pc + 3 = npc) (hi : i < 6) (hlink : Cond.fieldLink M.2.1 idx "java/lang/String" "value" "[B" ∈ TW) (k : Go S M F npc l (.ref (1010 + i) :: st) s) : Go S M F pc l (.ref (1000 + i) :: st) s := by
  subst hn
  intro p lc e u m args below meth c D cA ad H locs ls X hP hS hl
  exact vk_getf X.1 X.2.1 (X.2.2.2.2.2.2.2.2.2.2.1.1.1 i hi).2.2.1 hS X.2.2.2.2.1 (X.2.2.2.2.2.1 _ hlink) (fun _ h => h) hd (k p lc e u m args below meth c D cA ad H locs ls X hP hS hl)
theorem g_scod {i idx : Nat} (hd : decode M.1 pc = .ok (.getfield idx, 3)) (hn : pc + 3 = npc) (hi : i < 6) (hlink : Cond.fieldLink M.2.1 idx "java/lang/String" "coder" "B" ∈ TW) (k : Go S M F npc l (iV 0 :: st) s) : Go S M F pc l (.ref (1000 + i) :: st) s := by
  subst hn
  intro p lc e u m args below meth c D cA ad H locs ls X hP hS hl
  exact vk_getf X.1 X.2.1 (X.2.2.2.2.2.2.2.2.2.2.1.1.1 i hi).2.1 hS X.2.2.2.2.1 (X.2.2.2.2.2.1 _ hlink) (fun _ h => h) hd (k p lc e u m args below meth c D cA ad H locs ls X hP hS hl)
theorem g_slen {i : Nat} (hd : decode M.1 pc = .ok (.arraylength, 1)) (hn : pc + 1 = npc) (hi : i < 6) (k : Go S M F npc l (iV (strL.getD i 0 : Nat) :: st) s) : Go S M F pc l (.ref (1010 + i) :: st) s := by
  subst hn
  intro p lc e u m args below meth c D cA ad H locs ls X hP hS hl
  exact va_tlen X.1 X.2.1 (X.2.2.2.2.2.2.2.2.2.2.1.1.1 i hi).2.2.2 hS (Int32.ofInt_eq_ofNat (n := strL.getD i 0)).symm hd (k p lc e u m args below meth c D cA ad H locs ls X hP hS hl)
theorem strL_small : ∀ i, i < 6 → strL.getD i 0 < 2147483648 := by decide
theorem g_sbald {i : Nat} {j : Int} (hd : decode M.1 pc = .ok (.baload, 1)) (hn : pc + 1 = npc) (hi : i < 6) (hj : 0 ≤ j ∧ j < (strL.getD i 0 : Nat)) (k : Go S M F npc l (iV (sB i j.toNat) :: st) s) : Go S M F pc l (iV j :: .ref (1010 + i) :: st) s := by
  subst hn
  intro p lc e u m args below meth c D cA ad H locs ls X hP hS hl
  obtain ⟨a1, a2⟩ := i32_ix hj (strL_small i hi)
  refine va_tb X.1 X.2.1 (X.2.2.2.2.2.2.2.2.2.2.1.1.1 i hi).2.2.2 hS a1 ?_ hd (k p lc e u m args below meth c D cA ad H locs ls X hP hS hl)
  rw [a2]
  show Value.int ((strB.getD i []).getD j.toNat 0) = Value.int (Int32.ofInt ((strB.getD i []).getD j.toNat 0).toInt)
  rw [i32_inv]
theorem g_gstC {idx : Nat} (hd : decode M.1 pc = .ok (.getstatic idx, 3)) (hn : pc + 3 = npc) (hlink : Cond.fieldLink M.2.1 idx "java/lang/String" "COMPACT_STRINGS" "Z" ∈ TW) (k : Go S M F npc l (iV 1 :: st) s) : Go S M F pc l st s := by
  subst hn
  intro p lc e u m args below meth c D cA ad H locs ls X hP hS hl
  exact va_gets X.1 X.2.1 X.2.2.2.2.2.2.2.2.2.2.1.2.2.2.2.2.1 hS X.2.2.2.2.1 (X.2.2.2.2.2.1 _ hlink) (fun _ h => h) hd (k p lc e u m args below meth c D cA ad H locs ls X hP hS hl)
theorem g_gstF {idx : Nat} (hd : decode M.1 pc = .ok (.getstatic idx, 3)) (hn : pc + 3 = npc) (hlink : Cond.fieldLink M.2.1 idx "jdk/internal/util/Preconditions" "SIOOBE_FORMATTER" "Ljava/util/function/BiFunction;" ∈ TW) (k : ∀ v : Value, (v = .null ∨ v = .ref 1030) → Go S M F npc l (v :: st) s) : Go S M F pc l st s := by
  subst hn
  intro p lc e u m args below meth c D cA ad H locs ls X hP hS hl
  rcases X.2.2.2.2.2.2.2.2.2.2.1.2.2.2.2.2.2 with hz | hz
  · exact va_gets X.1 X.2.1 hz hS X.2.2.2.2.1 (X.2.2.2.2.2.1 _ hlink) (fun _ h => h) hd (k .null (Or.inl rfl) p lc e u m args below meth c D cA ad H locs ls X hP hS hl)
  · exact va_gets X.1 X.2.1 hz hS X.2.2.2.2.1 (X.2.2.2.2.2.1 _ hlink) (fun _ h => h) hd (k (.ref 1030) (Or.inr rfl) p lc e u m args below meth c D cA ad H locs ls X hP hS hl)
theorem g_gstL {idx : Nat} (hd : decode M.1 pc = .ok (.getstatic idx, 3)) (hn : pc + 3 = npc) (hlink : Cond.fieldLink M.2.1 idx "ChipGame$Shapes" "LEAST" "[I" ∈ TW) (k : Go S M F npc l (.ref 1020 :: st) s) : Go S M F pc l st s := by
  subst hn
  intro p lc e u m args below meth c D cA ad H locs ls X hP hS hl
  exact va_gets X.1 X.2.1 X.2.2.2.2.2.2.2.2.2.2.1.2.1 hS X.2.2.2.2.1 (X.2.2.2.2.2.1 _ hlink) (fun _ h => h) hd (k p lc e u m args below meth c D cA ad H locs ls X hP hS hl)
theorem g_gstM {idx : Nat} (hd : decode M.1 pc = .ok (.getstatic idx, 3)) (hn : pc + 3 = npc) (hlink : Cond.fieldLink M.2.1 idx "ChipGame$Shapes" "MOST" "[I" ∈ TW) (k : Go S M F npc l (.ref 1021 :: st) s) : Go S M F pc l st s := by
  subst hn
  intro p lc e u m args below meth c D cA ad H locs ls X hP hS hl
  exact va_gets X.1 X.2.1 X.2.2.2.2.2.2.2.2.2.2.1.2.2.2.1 hS X.2.2.2.2.1 (X.2.2.2.2.2.1 _ hlink) (fun _ h => h) hd (k p lc e u m args below meth c D cA ad H locs ls X hP hS hl)
theorem g_tlenL (hd : decode M.1 pc = .ok (.arraylength, 1)) (hn : pc + 1 = npc) (k : Go S M F npc l (iV 5 :: st) s) : Go S M F pc l (.ref 1020 :: st) s := by
  subst hn
  intro p lc e u m args below meth c D cA ad H locs ls X hP hS hl
  exact va_tlen X.1 X.2.1 X.2.2.2.2.2.2.2.2.2.2.1.2.2.1 hS rfl hd (k p lc e u m args below meth c D cA ad H locs ls X hP hS hl)
theorem g_tldL {i : Int} (hd : decode M.1 pc = .ok (.iaload, 1)) (hn : pc + 1 = npc) (hi : 0 ≤ i ∧ i < 5) (k : Go S M F npc l (iV (leastL.getD i.toNat 0).toInt :: st) s) : Go S M F pc l (iV i :: .ref 1020 :: st) s := by
  subst hn
  intro p lc e u m args below meth c D cA ad H locs ls X hP hS hl
  obtain ⟨a1, a2⟩ := i32_ix (n := 5) hi (by decide)
  refine va_ti X.1 X.2.1 X.2.2.2.2.2.2.2.2.2.2.1.2.2.1 hS a1 ?_ hd (k p lc e u m args below meth c D cA ad H locs ls X hP hS hl)
  rw [a2]
  show Value.int (leastL.getD i.toNat 0) = Value.int (Int32.ofInt (leastL.getD i.toNat 0).toInt)
  rw [i32_inv]
theorem g_tlenM (hd : decode M.1 pc = .ok (.arraylength, 1)) (hn : pc + 1 = npc) (k : Go S M F npc l (iV 5 :: st) s) : Go S M F pc l (.ref 1021 :: st) s := by
  subst hn
  intro p lc e u m args below meth c D cA ad H locs ls X hP hS hl
  exact va_tlen X.1 X.2.1 X.2.2.2.2.2.2.2.2.2.2.1.2.2.2.2.1 hS rfl hd (k p lc e u m args below meth c D cA ad H locs ls X hP hS hl)
theorem g_tldM {i : Int} (hd : decode M.1 pc = .ok (.iaload, 1)) (hn : pc + 1 = npc) (hi : 0 ≤ i ∧ i < 5) (k : Go S M F npc l (iV (mostL.getD i.toNat 0).toInt :: st) s) : Go S M F pc l (iV i :: .ref 1021 :: st) s := by
  subst hn
  intro p lc e u m args below meth c D cA ad H locs ls X hP hS hl
  obtain ⟨a1, a2⟩ := i32_ix (n := 5) hi (by decide)
  refine va_ti X.1 X.2.1 X.2.2.2.2.2.2.2.2.2.2.1.2.2.2.2.1 hS a1 ?_ hd (k p lc e u m args below meth c D cA ad H locs ls X hP hS hl)
  rw [a2]
  show Value.int (mostL.getD i.toNat 0) = Value.int (Int32.ofInt (mostL.getD i.toNat 0).toInt)
  rw [i32_inv]
theorem g_i2c {x : Int} (hd : decode M.1 pc = .ok (.i2c, 1)) (hn : pc + 1 = npc) (hx : 0 ≤ x ∧ x < 65536) (k : Go S M F npc l (iV x :: st) s) : Go S M F pc l (iV x :: st) s := by
  subst hn
  intro p lc e u m args below meth c D cA ad H locs ls X hP hS hl
  refine lv_i2c X.1 X.2.1 hd ?_ (k p lc e u m args below meth c D cA ad H locs ls X hP hS hl)
  obtain ⟨n, rfl⟩ : ∃ n : Nat, x = n := ⟨x.toNat, by omega⟩
  have e9 : Int32.ofInt (n : Int) = nI n := by rw [Int32.ofInt_eq_ofNat]; rfl
  rw [e9, pk_char, pk_tn (by omega), Nat.mod_eq_of_lt (by omega)]
theorem nar_cv {x : Int} (h : 0 ≤ x ∧ x < 65536) : narrow .char (iV x) = iV x := by
  obtain ⟨n, rfl⟩ : ∃ n : Nat, x = n := ⟨x.toNat, by omega⟩
  have e : Int32.ofInt (n : Int) = nI n := by rw [Int32.ofInt_eq_ofNat]; rfl
  unfold iV
  rw [e]
  exact (pk_charN (q := n) (by omega)).1
theorem g_callVS {G : Option Value → Sto → Prop} {st0 : List Value} {y : MethodName} {cy : ByteArray} {maxL idx i n : Nat} {ret : Option FieldType} {R2 : Room} {as : List Value}
    (hd : decode M.1 pc = .ok (.invokevirtual idx, 3)) (hn : pc + 3 = npc) (hst : st0 = as.reverse ++ .ref (1000 + i) :: st) (hi : i < 6) (hw : okV M idx "java/lang/String" y cy maxL ret n) (hlen : as.length = n) (hcat : (st.map (fun v => v.category)).sum ≤ 8) (hR0 : R2.cells = 0 ∧ R2.slots = 0) (hR : R2.frames + 1 ≤ M.2.2.2.2.frames ∧ 8 + (maxL + 11) + R2.locals ≤ M.2.2.2.2.locals)
    (hS9 : Sp S y (Cond.code y cy maxL ret) R2 (.ref (1000 + i) :: as) s G) (k' : ∀ r s', G r s' → Go S M F npc l (r.toList ++ st) s') : Go S M F pc l st0 s := by
  subst hn hst
  intro p lc e u m args below meth c D cA ad H locs ls X hP hS hl
  obtain ⟨⟨w1, w2, w3, w4, w5⟩, w6, w7, w8, w9⟩ := hw
  have X' := X
  obtain ⟨hx, hb, hret, hml, hown, hts, hlk, hK, hDJ, hN, hXS⟩ := X
  have hG : GoodIn TW (wsV M.2.1 idx "java/lang/String" y (Cond.code y cy maxL ret :: TW)) := fun w hw => by
    have : w ∈ TW := by
      rcases List.mem_append.mp hw with h | h
      · simp only [List.mem_cons, List.not_mem_nil, or_false] at h
        rcases h with rfl | rfl | rfl | rfl <;> assumption
      · rcases List.mem_cons.mp h with rfl | h
        · exact w5
        · exact h
    exact ⟨this, good_of_word (List.mem_filter.mp this).2⟩
  have hrev : ts ad (as.reverse ++ .ref (1000 + i) :: st) = (ts ad as).reverse ++ .ref (ad (1000 + i)) :: ts ad st := by simp [ts, tv]
  rw [hrev]
  refine g_run st (va_runV (As := ts ad as) (rest := ts ad st) ⟨hx, hb, hml, hown, hts⟩ (hS9 lc D cA ad) (cwV n hts hG rfl hR0.1 hR0.2 ⟨w6, w7, w8, w9⟩ hR) ⟨fb_pc, vk_recv hXS.1.1 hi hS, ?_⟩ rfl (by simp [ts, hlen]) hl.1 rfl (lv_room (by rw [ts_cat]; exact hcat)) hd ⟨Nat.zero_le _, Nat.zero_le _⟩) X' hS hl k'
  exact pc_of X' hP hS
end STR
abbrev K_JP_checkIndex (S : Shp) (x y : Int) (v : Value) (s : Sto) (Q : Int → Sto → Prop) : Prop := SpI S yJ3_checkIndex_8e157 (Cond.code yJ3_checkIndex_8e157 cJ3_checkIndex_8e157 3 (some .int)) { frames := 0, cells := 0, slots := 0, locals := 0 } [iV x, iV y, v] s Q
abbrev M_JP_checkIndex : Mth := (cJ3_checkIndex_8e157, RJ3, 3, (some .int), { frames := 0, cells := 0, slots := 0, locals := 0 })
abbrev K_JS_checkIndex (S : Shp) (x y : Int) (s : Sto) (Q : Sto → Prop) : Prop := SpV S yJ0_checkIndex_df160 (Cond.code yJ0_checkIndex_df160 cJ0_checkIndex_df160 2 none) { frames := 1, cells := 0, slots := 0, locals := 22 } [iV x, iV y] s Q
abbrev M_JS_checkIndex : Mth := (cJ0_checkIndex_df160, RJ0, 2, none, { frames := 1, cells := 0, slots := 0, locals := 22 })
abbrev K_JL_charAt (S : Shp) (i : Nat) (x : Int) (s : Sto) (Q : Int → Sto → Prop) : Prop := SpI S yJ1_charAt_3b067 (Cond.code yJ1_charAt_3b067 cJ1_charAt_3b067 2 (some .char)) { frames := 2, cells := 0, slots := 0, locals := 43 } [.ref (1010 + i), iV x] s Q
abbrev M_JL_charAt : Mth := (cJ1_charAt_3b067, RJ1, 2, (some .char), { frames := 2, cells := 0, slots := 0, locals := 43 })
abbrev K_JS_isLatin1 (S : Shp) (i : Nat) (s : Sto) (Q : Int → Sto → Prop) : Prop := SpI S yJ0_isLatin1_aae02 (Cond.code yJ0_isLatin1_aae02 cJ0_isLatin1_aae02 1 (some .boolean)) { frames := 0, cells := 0, slots := 0, locals := 0 } [.ref (1000 + i)] s Q
abbrev M_JS_isLatin1 : Mth := (cJ0_isLatin1_aae02, RJ0, 1, (some .boolean), { frames := 0, cells := 0, slots := 0, locals := 0 })
abbrev K_JS_coder (S : Shp) (i : Nat) (s : Sto) (Q : Int → Sto → Prop) : Prop := SpI S yJ0_coder_7d493 (Cond.code yJ0_coder_7d493 cJ0_coder_7d493 1 (some .byte)) { frames := 0, cells := 0, slots := 0, locals := 0 } [.ref (1000 + i)] s Q
abbrev M_JS_coder : Mth := (cJ0_coder_7d493, RJ0, 1, (some .byte), { frames := 0, cells := 0, slots := 0, locals := 0 })
abbrev K_JS_length (S : Shp) (i : Nat) (s : Sto) (Q : Int → Sto → Prop) : Prop := SpI S yJ0_length_8abf5 (Cond.code yJ0_length_8abf5 cJ0_length_8abf5 1 (some .int)) { frames := 1, cells := 0, slots := 0, locals := 20 } [.ref (1000 + i)] s Q
abbrev M_JS_length : Mth := (cJ0_length_8abf5, RJ0, 1, (some .int), { frames := 1, cells := 0, slots := 0, locals := 20 })
abbrev K_JS_charAt (S : Shp) (i : Nat) (x : Int) (s : Sto) (Q : Int → Sto → Prop) : Prop := SpI S yJ0_charAt_5068e (Cond.code yJ0_charAt_5068e cJ0_charAt_5068e 2 (some .char)) { frames := 4, cells := 0, slots := 0, locals := 85 } [.ref (1000 + i), iV x] s Q
abbrev M_JS_charAt : Mth := (cJ0_charAt_5068e, RJ0, 2, (some .char), { frames := 4, cells := 0, slots := 0, locals := 85 })
theorem iv_Tx_21 {M : Mth} {F : Option Value → Sto → Prop} {pc npc : Nat} {l : List (Nat × Value)} {st : List Value} {s : Sto} {x0 : Int} {Q : Nat → Sto → Prop} (hd : decode M.1 pc = .ok (.invokestatic 21, 3)) (hM : M.2.1 = RX8) (hn : pc + 3 = npc) (hcat : (st.map (fun v => v.category)).sum ≤ 8) (hR : 0 + 1 ≤ M.2.2.2.2.frames ∧ 8 + (1 + 11) + 0 ≤ M.2.2.2.2.locals) (h : K_Sh_nameOf x0 s Q) (k' : ∀ r s1, Q r s1 → Go SC M F npc l (.ref r :: st) s1) : Go SC M F pc l (iV x0 :: st) s := g_callS (as := [iV x0]) (st := st) hd hn rfl (show okS M 21 yX6_nameOf cX6_nameOf 1 (some (.object "java/lang/String")) 1 from ⟨⟨by rw [hM]; exact tws_413, tws_414, tws_76, tws_415⟩, by decide, by decide, by decide +kernel⟩) rfl hcat ⟨rfl, rfl⟩ hR h (fun r s1 h => by obtain ⟨x, rfl, h2⟩ := h; exact k' x s1 h2)
theorem iv_Tx_25 {M : Mth} {F : Option Value → Sto → Prop} {pc npc : Nat} {l : List (Nat × Value)} {st : List Value} {s : Sto} {k1 : Nat} {Q : Int → Sto → Prop} (hd : decode M.1 pc = .ok (.invokevirtual 25, 3)) (hM : M.2.1 = RX8) (hn : pc + 3 = npc) (hcat : (st.map (fun v => v.category)).sum ≤ 8) (hR : 5 + 1 ≤ M.2.2.2.2.frames ∧ 8 + (3 + 11) + 106 ≤ M.2.2.2.2.locals) (h : K_Tx_isNameAndSign k1 s Q) (k' : ∀ r s1, Q r s1 → Go SC M F npc l (iV r :: st) s1) : Go SC M F pc l (.ref k1 :: .ref 15 :: st) s := g_callV (k := 15) (as := [.ref k1]) (st := st) hd hn rfl ⟨by decide, rfl⟩ rfl rfl (show okV M 25 RX8 yX8_isNameAndSign cX8_isNameAndSign 3 (some .boolean) 1 from ⟨⟨by rw [hM]; exact tws_422, tws_424, tws_3, tws_67, tws_425⟩, rfl, by decide, by decide, by decide +kernel⟩) rfl hcat ⟨rfl, rfl⟩ hR h (fun r s1 h => by obtain ⟨x, rfl, h2⟩ := h; exact k' x s1 h2)
theorem dX6_nameOf_0 : decode cX6_nameOf 0 = .ok (.iload_n 0, 1) := by decide +kernel
theorem dX6_nameOf_1 : decode cX6_nameOf 1 = .ok (.tableswitch 50 0 4 #[35, 38, 41, 44, 47], 35) := by decide +kernel
theorem dX6_nameOf_36 : decode cX6_nameOf 36 = .ok (.ldc 7, 2) := by decide +kernel
theorem dX6_nameOf_38 : decode cX6_nameOf 38 = .ok (.areturn, 1) := by decide +kernel
theorem dX6_nameOf_39 : decode cX6_nameOf 39 = .ok (.ldc 9, 2) := by decide +kernel
theorem dX6_nameOf_41 : decode cX6_nameOf 41 = .ok (.areturn, 1) := by decide +kernel
theorem dX6_nameOf_42 : decode cX6_nameOf 42 = .ok (.ldc 11, 2) := by decide +kernel
theorem dX6_nameOf_44 : decode cX6_nameOf 44 = .ok (.areturn, 1) := by decide +kernel
theorem dX6_nameOf_45 : decode cX6_nameOf 45 = .ok (.ldc 13, 2) := by decide +kernel
theorem dX6_nameOf_47 : decode cX6_nameOf 47 = .ok (.areturn, 1) := by decide +kernel
theorem dX6_nameOf_48 : decode cX6_nameOf 48 = .ok (.ldc 15, 2) := by decide +kernel
theorem dX6_nameOf_50 : decode cX6_nameOf 50 = .ok (.areturn, 1) := by decide +kernel
theorem dX6_allows_0 : decode cX6_allows 0 = .ok (.iload_n 0, 1) := by decide +kernel
theorem dX6_allows_1 : decode cX6_allows 1 = .ok (.ifCond .lt 41, 3) := by decide +kernel
theorem dX6_allows_4 : decode cX6_allows 4 = .ok (.iload_n 0, 1) := by decide +kernel
theorem dX6_allows_5 : decode cX6_allows 5 = .ok (.getstatic 19, 3) := by decide +kernel
theorem dX6_allows_8 : decode cX6_allows 8 = .ok (.arraylength, 1) := by decide +kernel
theorem dX6_allows_9 : decode cX6_allows 9 = .ok (.if_icmp .ge 33, 3) := by decide +kernel
theorem dX6_allows_12 : decode cX6_allows 12 = .ok (.iload_n 0, 1) := by decide +kernel
theorem dX6_allows_13 : decode cX6_allows 13 = .ok (.getstatic 25, 3) := by decide +kernel
theorem dX6_allows_16 : decode cX6_allows 16 = .ok (.arraylength, 1) := by decide +kernel
theorem dX6_allows_17 : decode cX6_allows 17 = .ok (.if_icmp .ge 25, 3) := by decide +kernel
theorem dX6_allows_20 : decode cX6_allows 20 = .ok (.iload_n 1, 1) := by decide +kernel
theorem dX6_allows_21 : decode cX6_allows 21 = .ok (.getstatic 19, 3) := by decide +kernel
theorem dX6_allows_24 : decode cX6_allows 24 = .ok (.iload_n 0, 1) := by decide +kernel
theorem dX6_allows_25 : decode cX6_allows 25 = .ok (.iaload, 1) := by decide +kernel
theorem dX6_allows_26 : decode cX6_allows 26 = .ok (.if_icmp .lt 16, 3) := by decide +kernel
theorem dX6_allows_29 : decode cX6_allows 29 = .ok (.iload_n 1, 1) := by decide +kernel
theorem dX6_allows_30 : decode cX6_allows 30 = .ok (.getstatic 25, 3) := by decide +kernel
theorem dX6_allows_33 : decode cX6_allows 33 = .ok (.iload_n 0, 1) := by decide +kernel
theorem dX6_allows_34 : decode cX6_allows 34 = .ok (.iaload, 1) := by decide +kernel
theorem dX6_allows_35 : decode cX6_allows 35 = .ok (.if_icmp .gt 7, 3) := by decide +kernel
theorem dX6_allows_38 : decode cX6_allows 38 = .ok (.iconst 1, 1) := by decide +kernel
theorem dX6_allows_39 : decode cX6_allows 39 = .ok (.goto 4, 3) := by decide +kernel
theorem dX6_allows_42 : decode cX6_allows 42 = .ok (.iconst 0, 1) := by decide +kernel
theorem dX6_allows_43 : decode cX6_allows 43 = .ok (.ireturn, 1) := by decide +kernel
theorem dX8_findShape_0 : decode cX8_findShape 0 = .ok (.iconst 0, 1) := by decide +kernel
theorem dX8_findShape_1 : decode cX8_findShape 1 = .ok (.istore_n 1, 1) := by decide +kernel
theorem dX8_findShape_2 : decode cX8_findShape 2 = .ok (.iload_n 1, 1) := by decide +kernel
theorem dX8_findShape_3 : decode cX8_findShape 3 = .ok (.iconst 5, 1) := by decide +kernel
theorem dX8_findShape_4 : decode cX8_findShape 4 = .ok (.if_icmp .ge 22, 3) := by decide +kernel
theorem dX8_findShape_7 : decode cX8_findShape 7 = .ok (.aload_n 0, 1) := by decide +kernel
theorem dX8_findShape_8 : decode cX8_findShape 8 = .ok (.iload_n 1, 1) := by decide +kernel
theorem dX8_findShape_9 : decode cX8_findShape 9 = .ok (.invokestatic 21, 3) := by decide +kernel
theorem dX8_findShape_12 : decode cX8_findShape 12 = .ok (.invokevirtual 25, 3) := by decide +kernel
theorem dX8_findShape_15 : decode cX8_findShape 15 = .ok (.ifCond .eq 5, 3) := by decide +kernel
theorem dX8_findShape_18 : decode cX8_findShape 18 = .ok (.iload_n 1, 1) := by decide +kernel
theorem dX8_findShape_19 : decode cX8_findShape 19 = .ok (.ireturn, 1) := by decide +kernel
theorem dX8_findShape_20 : decode cX8_findShape 20 = .ok (.iinc 1 1, 3) := by decide +kernel
theorem dX8_findShape_23 : decode cX8_findShape 23 = .ok (.goto (-21), 3) := by decide +kernel
theorem dX8_findShape_26 : decode cX8_findShape 26 = .ok (.iconst (-1), 1) := by decide +kernel
theorem dX8_findShape_27 : decode cX8_findShape 27 = .ok (.ireturn, 1) := by decide +kernel
theorem dX8_isNameAndSign_0 : decode cX8_isNameAndSign 0 = .ok (.aload_n 0, 1) := by decide +kernel
theorem dX8_isNameAndSign_1 : decode cX8_isNameAndSign 1 = .ok (.getfield 9, 3) := by decide +kernel
theorem dX8_isNameAndSign_4 : decode cX8_isNameAndSign 4 = .ok (.aload_n 1, 1) := by decide +kernel
theorem dX8_isNameAndSign_5 : decode cX8_isNameAndSign 5 = .ok (.invokevirtual 29, 3) := by decide +kernel
theorem dX8_isNameAndSign_8 : decode cX8_isNameAndSign 8 = .ok (.iconst 1, 1) := by decide +kernel
theorem dX8_isNameAndSign_9 : decode cX8_isNameAndSign 9 = .ok (.iadd, 1) := by decide +kernel
theorem dX8_isNameAndSign_10 : decode cX8_isNameAndSign 10 = .ok (.if_icmp .eq 5, 3) := by decide +kernel
theorem dX8_isNameAndSign_13 : decode cX8_isNameAndSign 13 = .ok (.iconst 0, 1) := by decide +kernel
theorem dX8_isNameAndSign_14 : decode cX8_isNameAndSign 14 = .ok (.ireturn, 1) := by decide +kernel
theorem dX8_isNameAndSign_15 : decode cX8_isNameAndSign 15 = .ok (.iconst 0, 1) := by decide +kernel
theorem dX8_isNameAndSign_16 : decode cX8_isNameAndSign 16 = .ok (.istore_n 2, 1) := by decide +kernel
theorem dX8_isNameAndSign_17 : decode cX8_isNameAndSign 17 = .ok (.iload_n 2, 1) := by decide +kernel
theorem dX8_isNameAndSign_18 : decode cX8_isNameAndSign 18 = .ok (.aload_n 1, 1) := by decide +kernel
theorem dX8_isNameAndSign_19 : decode cX8_isNameAndSign 19 = .ok (.invokevirtual 29, 3) := by decide +kernel
theorem dX8_isNameAndSign_22 : decode cX8_isNameAndSign 22 = .ok (.if_icmp .ge 34, 3) := by decide +kernel
theorem dX8_isNameAndSign_25 : decode cX8_isNameAndSign 25 = .ok (.iload_n 2, 1) := by decide +kernel
theorem dX8_isNameAndSign_26 : decode cX8_isNameAndSign 26 = .ok (.aload_n 0, 1) := by decide +kernel
theorem dX8_isNameAndSign_27 : decode cX8_isNameAndSign 27 = .ok (.getfield 15, 3) := by decide +kernel
theorem dX8_isNameAndSign_30 : decode cX8_isNameAndSign 30 = .ok (.arraylength, 1) := by decide +kernel
theorem dX8_isNameAndSign_31 : decode cX8_isNameAndSign 31 = .ok (.if_icmp .ge 25, 3) := by decide +kernel
theorem dX8_isNameAndSign_34 : decode cX8_isNameAndSign 34 = .ok (.aload_n 0, 1) := by decide +kernel
theorem dX8_isNameAndSign_35 : decode cX8_isNameAndSign 35 = .ok (.getfield 15, 3) := by decide +kernel
theorem dX8_isNameAndSign_38 : decode cX8_isNameAndSign 38 = .ok (.iload_n 2, 1) := by decide +kernel
theorem dX8_isNameAndSign_39 : decode cX8_isNameAndSign 39 = .ok (.caload, 1) := by decide +kernel
theorem dX8_isNameAndSign_40 : decode cX8_isNameAndSign 40 = .ok (.aload_n 1, 1) := by decide +kernel
theorem dX8_isNameAndSign_41 : decode cX8_isNameAndSign 41 = .ok (.iload_n 2, 1) := by decide +kernel
theorem dX8_isNameAndSign_42 : decode cX8_isNameAndSign 42 = .ok (.invokevirtual 34, 3) := by decide +kernel
theorem dX8_isNameAndSign_45 : decode cX8_isNameAndSign 45 = .ok (.if_icmp .eq 5, 3) := by decide +kernel
theorem dX8_isNameAndSign_48 : decode cX8_isNameAndSign 48 = .ok (.iconst 0, 1) := by decide +kernel
theorem dX8_isNameAndSign_49 : decode cX8_isNameAndSign 49 = .ok (.ireturn, 1) := by decide +kernel
theorem dX8_isNameAndSign_50 : decode cX8_isNameAndSign 50 = .ok (.iinc 2 1, 3) := by decide +kernel
theorem dX8_isNameAndSign_53 : decode cX8_isNameAndSign 53 = .ok (.goto (-36), 3) := by decide +kernel
theorem dX8_isNameAndSign_56 : decode cX8_isNameAndSign 56 = .ok (.iconst 1, 1) := by decide +kernel
theorem dX8_isNameAndSign_57 : decode cX8_isNameAndSign 57 = .ok (.ireturn, 1) := by decide +kernel
theorem dJ0_length_8abf5_0 : decode cJ0_length_8abf5 0 = .ok (.aload_n 0, 1) := by decide +kernel
theorem dJ0_length_8abf5_1 : decode cJ0_length_8abf5 1 = .ok (.getfield 9, 3) := by decide +kernel
theorem dJ0_length_8abf5_4 : decode cJ0_length_8abf5 4 = .ok (.arraylength, 1) := by decide +kernel
theorem dJ0_length_8abf5_5 : decode cJ0_length_8abf5 5 = .ok (.aload_n 0, 1) := by decide +kernel
theorem dJ0_length_8abf5_6 : decode cJ0_length_8abf5 6 = .ok (.invokevirtual 335, 3) := by decide +kernel
theorem dJ0_length_8abf5_9 : decode cJ0_length_8abf5 9 = .ok (.ishr, 1) := by decide +kernel
theorem dJ0_length_8abf5_10 : decode cJ0_length_8abf5 10 = .ok (.ireturn, 1) := by decide +kernel
theorem dJ0_charAt_5068e_0 : decode cJ0_charAt_5068e 0 = .ok (.aload_n 0, 1) := by decide +kernel
theorem dJ0_charAt_5068e_1 : decode cJ0_charAt_5068e 1 = .ok (.invokevirtual 492, 3) := by decide +kernel
theorem dJ0_charAt_5068e_4 : decode cJ0_charAt_5068e 4 = .ok (.ifCond .eq 12, 3) := by decide +kernel
theorem dJ0_charAt_5068e_7 : decode cJ0_charAt_5068e 7 = .ok (.aload_n 0, 1) := by decide +kernel
theorem dJ0_charAt_5068e_8 : decode cJ0_charAt_5068e 8 = .ok (.getfield 9, 3) := by decide +kernel
theorem dJ0_charAt_5068e_11 : decode cJ0_charAt_5068e 11 = .ok (.iload_n 1, 1) := by decide +kernel
theorem dJ0_charAt_5068e_12 : decode cJ0_charAt_5068e 12 = .ok (.invokestatic 495, 3) := by decide +kernel
theorem dJ0_charAt_5068e_15 : decode cJ0_charAt_5068e 15 = .ok (.ireturn, 1) := by decide +kernel
theorem dJ0_coder_7d493_0 : decode cJ0_coder_7d493 0 = .ok (.getstatic 38, 3) := by decide +kernel
theorem dJ0_coder_7d493_3 : decode cJ0_coder_7d493 3 = .ok (.ifCond .eq 10, 3) := by decide +kernel
theorem dJ0_coder_7d493_6 : decode cJ0_coder_7d493 6 = .ok (.aload_n 0, 1) := by decide +kernel
theorem dJ0_coder_7d493_7 : decode cJ0_coder_7d493 7 = .ok (.getfield 15, 3) := by decide +kernel
theorem dJ0_coder_7d493_10 : decode cJ0_coder_7d493 10 = .ok (.goto 4, 3) := by decide +kernel
theorem dJ0_coder_7d493_14 : decode cJ0_coder_7d493 14 = .ok (.ireturn, 1) := by decide +kernel
theorem dJ0_isLatin1_aae02_0 : decode cJ0_isLatin1_aae02 0 = .ok (.getstatic 38, 3) := by decide +kernel
theorem dJ0_isLatin1_aae02_3 : decode cJ0_isLatin1_aae02 3 = .ok (.ifCond .eq 14, 3) := by decide +kernel
theorem dJ0_isLatin1_aae02_6 : decode cJ0_isLatin1_aae02 6 = .ok (.aload_n 0, 1) := by decide +kernel
theorem dJ0_isLatin1_aae02_7 : decode cJ0_isLatin1_aae02 7 = .ok (.getfield 15, 3) := by decide +kernel
theorem dJ0_isLatin1_aae02_10 : decode cJ0_isLatin1_aae02 10 = .ok (.ifCond .ne 7, 3) := by decide +kernel
theorem dJ0_isLatin1_aae02_13 : decode cJ0_isLatin1_aae02 13 = .ok (.iconst 1, 1) := by decide +kernel
theorem dJ0_isLatin1_aae02_14 : decode cJ0_isLatin1_aae02 14 = .ok (.goto 4, 3) := by decide +kernel
theorem dJ0_isLatin1_aae02_18 : decode cJ0_isLatin1_aae02 18 = .ok (.ireturn, 1) := by decide +kernel
theorem dJ0_checkIndex_df160_0 : decode cJ0_checkIndex_df160 0 = .ok (.iload_n 0, 1) := by decide +kernel
theorem dJ0_checkIndex_df160_1 : decode cJ0_checkIndex_df160 1 = .ok (.iload_n 1, 1) := by decide +kernel
theorem dJ0_checkIndex_df160_2 : decode cJ0_checkIndex_df160 2 = .ok (.getstatic 1053, 3) := by decide +kernel
theorem dJ0_checkIndex_df160_5 : decode cJ0_checkIndex_df160 5 = .ok (.invokestatic 1059, 3) := by decide +kernel
theorem dJ0_checkIndex_df160_8 : decode cJ0_checkIndex_df160 8 = .ok (.pop, 1) := by decide +kernel
theorem dJ0_checkIndex_df160_9 : decode cJ0_checkIndex_df160 9 = .ok (.return_, 1) := by decide +kernel
theorem dJ1_charAt_3b067_0 : decode cJ1_charAt_3b067 0 = .ok (.iload_n 1, 1) := by decide +kernel
theorem dJ1_charAt_3b067_1 : decode cJ1_charAt_3b067 1 = .ok (.aload_n 0, 1) := by decide +kernel
theorem dJ1_charAt_3b067_2 : decode cJ1_charAt_3b067 2 = .ok (.arraylength, 1) := by decide +kernel
theorem dJ1_charAt_3b067_3 : decode cJ1_charAt_3b067 3 = .ok (.invokestatic 9, 3) := by decide +kernel
theorem dJ1_charAt_3b067_6 : decode cJ1_charAt_3b067 6 = .ok (.aload_n 0, 1) := by decide +kernel
theorem dJ1_charAt_3b067_7 : decode cJ1_charAt_3b067 7 = .ok (.iload_n 1, 1) := by decide +kernel
theorem dJ1_charAt_3b067_8 : decode cJ1_charAt_3b067 8 = .ok (.baload, 1) := by decide +kernel
theorem dJ1_charAt_3b067_9 : decode cJ1_charAt_3b067 9 = .ok (.sipush 255, 3) := by decide +kernel
theorem dJ1_charAt_3b067_12 : decode cJ1_charAt_3b067 12 = .ok (.iand, 1) := by decide +kernel
theorem dJ1_charAt_3b067_13 : decode cJ1_charAt_3b067 13 = .ok (.i2c, 1) := by decide +kernel
theorem dJ1_charAt_3b067_14 : decode cJ1_charAt_3b067 14 = .ok (.ireturn, 1) := by decide +kernel
theorem dJ3_checkIndex_8e157_0 : decode cJ3_checkIndex_8e157 0 = .ok (.iload_n 0, 1) := by decide +kernel
theorem dJ3_checkIndex_8e157_1 : decode cJ3_checkIndex_8e157 1 = .ok (.ifCond .lt 8, 3) := by decide +kernel
theorem dJ3_checkIndex_8e157_4 : decode cJ3_checkIndex_8e157 4 = .ok (.iload_n 0, 1) := by decide +kernel
theorem dJ3_checkIndex_8e157_5 : decode cJ3_checkIndex_8e157 5 = .ok (.iload_n 1, 1) := by decide +kernel
theorem dJ3_checkIndex_8e157_6 : decode cJ3_checkIndex_8e157 6 = .ok (.if_icmp .lt 10, 3) := by decide +kernel
theorem dJ3_checkIndex_8e157_16 : decode cJ3_checkIndex_8e157 16 = .ok (.iload_n 0, 1) := by decide +kernel
theorem dJ3_checkIndex_8e157_17 : decode cJ3_checkIndex_8e157 17 = .ok (.ireturn, 1) := by decide +kernel
theorem k_JP_checkIndex {S : Shp} {x y : Int} {v : Value} {s : Sto} {Q : Int → Sto → Prop} (h : 0 ≤ x ∧ x < y) (hy : y < 2147483648) (hv : v = .null ∨ v = .ref 1030) (hQ : Q x s) : K_JP_checkIndex S x y v s Q := by
  rcases hv with rfl | rfl
  · refine Sp.body (by decide) (Nat.le_of_ble_eq_true rfl) ?_
    show Go S M_JP_checkIndex (fI Q) 0 [(0, iV x), (1, iV y), (2, .null)] [] s
    refine g_iload_n (npc := 1) dJ3_checkIndex_8e157_0 rfl rfl rfl ?_
    refine g_if_lt (npc := 4) (tgt := 9) dJ3_checkIndex_8e157_1 rfl (by decide) (by omega) (fun c => absurd c (by omega)) (fun _ => ?_)
    refine g_iload_n (npc := 5) dJ3_checkIndex_8e157_4 rfl rfl rfl ?_
    refine g_iload_n (npc := 6) dJ3_checkIndex_8e157_5 rfl rfl rfl ?_
    refine g_icmp_lt (npc := 9) (tgt := 16) dJ3_checkIndex_8e157_6 rfl (by decide) (by omega) (fun _ => ?_) (fun c => absurd h.2 c)
    refine g_iload_n (npc := 17) dJ3_checkIndex_8e157_16 rfl rfl rfl ?_
    exact g_iret dJ3_checkIndex_8e157_17 rfl rfl ⟨_, rfl, hQ⟩
  · refine Sp.body (by decide) (Nat.le_of_ble_eq_true rfl) ?_
    show Go S M_JP_checkIndex (fI Q) 0 [(0, iV x), (1, iV y), (2, .ref 1030)] [] s
    refine g_iload_n (npc := 1) dJ3_checkIndex_8e157_0 rfl rfl rfl ?_
    refine g_if_lt (npc := 4) (tgt := 9) dJ3_checkIndex_8e157_1 rfl (by decide) (by omega) (fun c => absurd c (by omega)) (fun _ => ?_)
    refine g_iload_n (npc := 5) dJ3_checkIndex_8e157_4 rfl rfl rfl ?_
    refine g_iload_n (npc := 6) dJ3_checkIndex_8e157_5 rfl rfl rfl ?_
    refine g_icmp_lt (npc := 9) (tgt := 16) dJ3_checkIndex_8e157_6 rfl (by decide) (by omega) (fun _ => ?_) (fun c => absurd h.2 c)
    refine g_iload_n (npc := 17) dJ3_checkIndex_8e157_16 rfl rfl rfl ?_
    exact g_iret dJ3_checkIndex_8e157_17 rfl rfl ⟨_, rfl, hQ⟩
theorem k_JS_checkIndex {S : Shp} {x y : Int} {s : Sto} {Q : Sto → Prop} (h : 0 ≤ x ∧ x < y) (hy : y < 2147483648) (hQ : Q s) : K_JS_checkIndex S x y s Q := by
  refine Sp.body (by decide) (Nat.le_of_ble_eq_true rfl) ?_
  show Go S M_JS_checkIndex (fV0 Q) 0 [(0, iV x), (1, iV y)] [] s
  refine g_iload_n (npc := 1) dJ0_checkIndex_df160_0 rfl rfl rfl ?_
  refine g_iload_n (npc := 2) dJ0_checkIndex_df160_1 rfl rfl rfl ?_
  refine g_gstF (npc := 5) dJ0_checkIndex_df160_2 rfl tws_450 (fun v hv => ?_)
  rcases hv with rfl | rfl
  · refine g_callS (npc := 8) (as := [iV x, iV y, .null]) (st := []) dJ0_checkIndex_df160_5 rfl rfl (show okS M_JS_checkIndex 1059 yJ3_checkIndex_8e157 cJ3_checkIndex_8e157 3 (some .int) 3 from ⟨⟨tws_452, tws_453, tws_79, tws_454⟩, by decide, by decide, by decide +kernel⟩) rfl (by decide) ⟨rfl, rfl⟩ ⟨by decide, by decide⟩ (k_JP_checkIndex (Q := fun r s' => s' = s) h hy (.inl rfl) rfl) (fun r s' hr => ?_)
    obtain ⟨z, rfl, rfl⟩ := hr
    refine g_pop (npc := 9) dJ0_checkIndex_df160_8 rfl rfl ?_
    exact g_ret dJ0_checkIndex_df160_9 rfl ⟨rfl, hQ⟩
  · refine g_callS (npc := 8) (as := [iV x, iV y, .ref 1030]) (st := []) dJ0_checkIndex_df160_5 rfl rfl (show okS M_JS_checkIndex 1059 yJ3_checkIndex_8e157 cJ3_checkIndex_8e157 3 (some .int) 3 from ⟨⟨tws_452, tws_453, tws_79, tws_454⟩, by decide, by decide, by decide +kernel⟩) rfl (by decide) ⟨rfl, rfl⟩ ⟨by decide, by decide⟩ (k_JP_checkIndex (Q := fun r s' => s' = s) h hy (.inr rfl) rfl) (fun r s' hr => ?_)
    obtain ⟨z, rfl, rfl⟩ := hr
    refine g_pop (npc := 9) dJ0_checkIndex_df160_8 rfl rfl ?_
    exact g_ret dJ0_checkIndex_df160_9 rfl ⟨rfl, hQ⟩
theorem strC_ok : ∀ i, i < 6 → ∀ j, j < strL.getD i 0 → iand (sB i j) 255 = (strC.getD i []).getD j 0 ∧ 0 ≤ iand (sB i j) 255 ∧ iand (sB i j) 255 < 65536 := by decide +kernel
theorem k_JL_charAt {S : Shp} {i : Nat} {x : Int} {s : Sto} {Q : Int → Sto → Prop} (hi : i < 6) (h : 0 ≤ x ∧ x < (strL.getD i 0 : Nat)) (hQ : Q ((strC.getD i []).getD x.toNat 0) s) : K_JL_charAt S i x s Q := by
  have hL := strL_small i hi
  obtain ⟨c1, c2⟩ := strC_ok i hi x.toNat (by omega)
  refine Sp.body (by decide) (Nat.le_of_ble_eq_true rfl) ?_
  show Go S M_JL_charAt (fI Q) 0 [(0, .ref (1010 + i)), (1, iV x)] [] s
  refine g_iload_n (npc := 1) dJ1_charAt_3b067_0 rfl rfl rfl ?_
  refine g_aload_n (npc := 2) dJ1_charAt_3b067_1 rfl rfl rfl ?_
  refine g_slen (npc := 3) dJ1_charAt_3b067_2 rfl hi ?_
  refine g_callS (npc := 6) (as := [iV x, iV (strL.getD i 0 : Nat)]) (st := []) dJ1_charAt_3b067_3 rfl rfl (show okS M_JL_charAt 9 yJ0_checkIndex_df160 cJ0_checkIndex_df160 2 none 2 from ⟨⟨tws_447, tws_448, tws_77, tws_449⟩, by decide, by decide, by decide +kernel⟩) rfl (by decide) ⟨rfl, rfl⟩ ⟨by decide, by decide⟩ (k_JS_checkIndex (Q := fun s' => s' = s) h (by omega) rfl) (fun r s' hr => ?_)
  obtain ⟨rfl, rfl⟩ := hr
  refine g_aload_n (npc := 7) dJ1_charAt_3b067_6 rfl rfl rfl ?_
  refine g_iload_n (npc := 8) dJ1_charAt_3b067_7 rfl rfl rfl ?_
  refine g_sbald (npc := 9) dJ1_charAt_3b067_8 rfl hi h ?_
  refine g_sipush (npc := 12) (x := 255) dJ1_charAt_3b067_9 rfl (by decide) ?_
  refine g_iand (npc := 13) dJ1_charAt_3b067_12 rfl ?_
  refine g_i2c (npc := 14) dJ1_charAt_3b067_13 rfl c2 ?_
  exact g_iret dJ1_charAt_3b067_14 rfl (nar_cv c2) ⟨_, rfl, by rw [c1]; exact hQ⟩
theorem k_JS_coder {S : Shp} {i : Nat} {s : Sto} {Q : Int → Sto → Prop} (hi : i < 6) (hQ : Q 0 s) : K_JS_coder S i s Q := by
  refine Sp.body (by decide) (Nat.le_of_ble_eq_true rfl) ?_
  show Go S M_JS_coder (fI Q) 0 [(0, .ref (1000 + i))] [] s
  refine g_gstC (npc := 3) dJ0_coder_7d493_0 rfl tws_434 ?_
  refine g_if_eq (npc := 6) (tgt := 13) dJ0_coder_7d493_3 rfl (by decide) ⟨by decide, by decide⟩ (fun c => absurd c (by decide)) (fun _ => ?_)
  refine g_aload_n (npc := 7) dJ0_coder_7d493_6 rfl rfl rfl ?_
  refine g_scod (npc := 10) dJ0_coder_7d493_7 rfl hi tws_1257 ?_
  refine g_goto (npc := 14) dJ0_coder_7d493_10 (by decide) ?_
  exact g_iret dJ0_coder_7d493_14 rfl rfl ⟨_, rfl, hQ⟩
theorem k_JS_isLatin1 {S : Shp} {i : Nat} {s : Sto} {Q : Int → Sto → Prop} (hi : i < 6) (hQ : Q 1 s) : K_JS_isLatin1 S i s Q := by
  refine Sp.body (by decide) (Nat.le_of_ble_eq_true rfl) ?_
  show Go S M_JS_isLatin1 (fI Q) 0 [(0, .ref (1000 + i))] [] s
  refine g_gstC (npc := 3) dJ0_isLatin1_aae02_0 rfl tws_434 ?_
  refine g_if_eq (npc := 6) (tgt := 17) dJ0_isLatin1_aae02_3 rfl (by decide) ⟨by decide, by decide⟩ (fun c => absurd c (by decide)) (fun _ => ?_)
  refine g_aload_n (npc := 7) dJ0_isLatin1_aae02_6 rfl rfl rfl ?_
  refine g_scod (npc := 10) dJ0_isLatin1_aae02_7 rfl hi tws_1257 ?_
  refine g_if_ne (npc := 13) (tgt := 17) dJ0_isLatin1_aae02_10 rfl (by decide) ⟨by decide, by decide⟩ (fun c => absurd rfl c) (fun _ => ?_)
  refine g_iconst (npc := 14) dJ0_isLatin1_aae02_13 rfl ?_
  refine g_goto (npc := 18) dJ0_isLatin1_aae02_14 (by decide) ?_
  exact g_iret dJ0_isLatin1_aae02_18 rfl rfl ⟨_, rfl, hQ⟩
theorem strL_shr : ∀ i, i < 6 → ishr (strL.getD i 0 : Nat) 0 = (strL.getD i 0 : Nat) := by decide +kernel
theorem k_JS_length {S : Shp} {i : Nat} {s : Sto} {Q : Int → Sto → Prop} (hi : i < 6) (hQ : Q (strL.getD i 0 : Nat) s) : K_JS_length S i s Q := by
  refine Sp.body (by decide) (Nat.le_of_ble_eq_true rfl) ?_
  show Go S M_JS_length (fI Q) 0 [(0, .ref (1000 + i))] [] s
  refine g_aload_n (npc := 1) dJ0_length_8abf5_0 rfl rfl rfl ?_
  refine g_sval (npc := 4) dJ0_length_8abf5_1 rfl hi tws_1256 ?_
  refine g_slen (npc := 5) dJ0_length_8abf5_4 rfl hi ?_
  refine g_aload_n (npc := 6) dJ0_length_8abf5_5 rfl rfl rfl ?_
  refine g_callVS (npc := 9) (as := []) (st := [iV (strL.getD i 0 : Nat)]) dJ0_length_8abf5_6 rfl rfl hi (show okV M_JS_length 335 RJ0 yJ0_coder_7d493 cJ0_coder_7d493 1 (some .byte) 0 from ⟨⟨tws_430, tws_431, tws_432, tws_77, tws_433⟩, rfl, by decide, by decide, by decide +kernel⟩) rfl (Nat.le_of_ble_eq_true rfl) ⟨rfl, rfl⟩ ⟨by decide, by decide⟩ (k_JS_coder (Q := fun r s' => r = 0 ∧ s' = s) hi ⟨rfl, rfl⟩) (fun r s' hr => ?_)
  obtain ⟨z, rfl, rfl, rfl⟩ := hr
  refine g_ishr (npc := 10) dJ0_length_8abf5_9 rfl ?_
  rw [strL_shr i hi]
  exact g_iret dJ0_length_8abf5_10 rfl rfl ⟨_, rfl, hQ⟩
theorem k_JS_charAt {S : Shp} {i : Nat} {x : Int} {s : Sto} {Q : Int → Sto → Prop} (hi : i < 6) (h : 0 ≤ x ∧ x < (strL.getD i 0 : Nat)) (hQ : Q ((strC.getD i []).getD x.toNat 0) s) : K_JS_charAt S i x s Q := by
  obtain ⟨c1, c2⟩ := strC_ok i hi x.toNat (by omega)
  rw [c1] at c2
  refine Sp.body (by decide) (Nat.le_of_ble_eq_true rfl) ?_
  show Go S M_JS_charAt (fI Q) 0 [(0, .ref (1000 + i)), (1, iV x)] [] s
  refine g_aload_n (npc := 1) dJ0_charAt_5068e_0 rfl rfl rfl ?_
  refine g_callVS (npc := 4) (as := []) (st := []) dJ0_charAt_5068e_1 rfl rfl hi (show okV M_JS_charAt 492 RJ0 yJ0_isLatin1_aae02 cJ0_isLatin1_aae02 1 (some .boolean) 0 from ⟨⟨tws_440, tws_441, tws_442, tws_77, tws_443⟩, rfl, by decide, by decide, by decide +kernel⟩) rfl (by decide) ⟨rfl, rfl⟩ ⟨by decide, by decide⟩ (k_JS_isLatin1 (Q := fun r s' => r = 1 ∧ s' = s) hi ⟨rfl, rfl⟩) (fun r s' hr => ?_)
  obtain ⟨z, rfl, rfl, rfl⟩ := hr
  refine g_if_eq (npc := 7) (tgt := 16) dJ0_charAt_5068e_4 rfl (by decide) ⟨by decide, by decide⟩ (fun c => absurd c (by decide)) (fun _ => ?_)
  refine g_aload_n (npc := 8) dJ0_charAt_5068e_7 rfl rfl rfl ?_
  refine g_sval (npc := 11) dJ0_charAt_5068e_8 rfl hi tws_1256 ?_
  refine g_iload_n (npc := 12) dJ0_charAt_5068e_11 rfl rfl rfl ?_
  refine g_callS (npc := 15) (as := [.ref (1010 + i), iV x]) (st := []) dJ0_charAt_5068e_12 rfl rfl (show okS M_JS_charAt 495 yJ1_charAt_3b067 cJ1_charAt_3b067 2 (some .char) 2 from ⟨⟨tws_444, tws_445, tws_78, tws_446⟩, by decide, by decide, by decide +kernel⟩) rfl (by decide) ⟨rfl, rfl⟩ ⟨by decide, by decide⟩ (k_JL_charAt (Q := fun r s2 => r = (strC.getD i []).getD x.toNat 0 ∧ s2 = s') hi h ⟨rfl, rfl⟩) (fun r s2 hr => ?_)
  obtain ⟨z, rfl, rfl, rfl⟩ := hr
  exact g_iret dJ0_charAt_5068e_15 rfl (nar_cv c2) ⟨_, rfl, hQ⟩
theorem k_Sh_nameOf {x : Int} {s : Sto} {Q : Nat → Sto → Prop} (hr : 0 ≤ x ∧ x < 5) (hQ : Q (1000 + x.toNat) s) : K_Sh_nameOf x s Q := by
  refine Sp.body (by decide) (Nat.le_of_ble_eq_true rfl) ?_
  show Go SC M_Sh_nameOf (fR Q) 0 [(0, iV x)] [] s
  refine g_iload_n (npc := 1) dX6_nameOf_0 rfl rfl rfl ?_
  rcases (show x = 0 ∨ x = 1 ∨ x = 2 ∨ x = 3 ∨ x = 4 from by omega) with rfl | rfl | rfl | rfl | rfl
  · refine g_tabIn (j := 0) (tgt := 36) dX6_nameOf_1 (by decide) (by decide) (by decide) rfl (by decide) ?_
    refine g_ldcS (i := 0) (npc := 38) dX6_nameOf_36 rfl rfl rfl ?_
    exact g_aret dX6_nameOf_38 rfl (Or.inl ⟨_, rfl⟩) ⟨_, rfl, hQ⟩
  · refine g_tabIn (j := 1) (tgt := 39) dX6_nameOf_1 (by decide) (by decide) (by decide) rfl (by decide) ?_
    refine g_ldcS (i := 1) (npc := 41) dX6_nameOf_39 rfl rfl rfl ?_
    exact g_aret dX6_nameOf_41 rfl (Or.inl ⟨_, rfl⟩) ⟨_, rfl, hQ⟩
  · refine g_tabIn (j := 2) (tgt := 42) dX6_nameOf_1 (by decide) (by decide) (by decide) rfl (by decide) ?_
    refine g_ldcS (i := 2) (npc := 44) dX6_nameOf_42 rfl rfl rfl ?_
    exact g_aret dX6_nameOf_44 rfl (Or.inl ⟨_, rfl⟩) ⟨_, rfl, hQ⟩
  · refine g_tabIn (j := 3) (tgt := 45) dX6_nameOf_1 (by decide) (by decide) (by decide) rfl (by decide) ?_
    refine g_ldcS (i := 3) (npc := 47) dX6_nameOf_45 rfl rfl rfl ?_
    exact g_aret dX6_nameOf_47 rfl (Or.inl ⟨_, rfl⟩) ⟨_, rfl, hQ⟩
  · refine g_tabIn (j := 4) (tgt := 48) dX6_nameOf_1 (by decide) (by decide) (by decide) rfl (by decide) ?_
    refine g_ldcS (i := 4) (npc := 50) dX6_nameOf_48 rfl rfl rfl ?_
    exact g_aret dX6_nameOf_50 rfl (Or.inl ⟨_, rfl⟩) ⟨_, rfl, hQ⟩
theorem k_Sh_allows {x y : Int} {s : Sto} {Q : Int → Sto → Prop} (hx : -2147483648 ≤ x ∧ x < 2147483648) (hy : -2147483648 ≤ y ∧ y < 2147483648) (h1 : 0 ≤ x ∧ x < 5 ∧ (leastL.getD x.toNat 0).toInt ≤ y ∧ y ≤ (mostL.getD x.toNat 0).toInt → Q 1 s) (h0 : ¬ (0 ≤ x ∧ x < 5 ∧ (leastL.getD x.toNat 0).toInt ≤ y ∧ y ≤ (mostL.getD x.toNat 0).toInt) → Q 0 s) : K_Sh_allows x y s Q := by
  have out : ¬ (0 ≤ x ∧ x < 5 ∧ (leastL.getD x.toNat 0).toInt ≤ y ∧ y ≤ (mostL.getD x.toNat 0).toInt) → Go SC M_Sh_allows (fI Q) 42 [(0, iV x), (1, iV y)] [] s := fun c => by
    refine g_iconst (npc := 43) dX6_allows_42 rfl ?_
    exact g_iret dX6_allows_43 rfl (by decide) ⟨_, rfl, h0 c⟩
  have rl := Int32.toInt_lt (leastL.getD x.toNat 0)
  have rl2 := Int32.le_toInt (leastL.getD x.toNat 0)
  have rm := Int32.toInt_lt (mostL.getD x.toNat 0)
  have rm2 := Int32.le_toInt (mostL.getD x.toNat 0)
  refine Sp.body (by decide) (Nat.le_of_ble_eq_true rfl) ?_
  show Go SC M_Sh_allows (fI Q) 0 [(0, iV x), (1, iV y)] [] s
  refine g_iload_n (npc := 1) dX6_allows_0 rfl rfl rfl ?_
  refine g_if_lt (npc := 4) (tgt := 42) dX6_allows_1 rfl (by decide) hx (fun c => out (by omega)) (fun c1 => ?_)
  refine g_iload_n (npc := 5) dX6_allows_4 rfl rfl rfl ?_
  refine g_gstL (npc := 8) dX6_allows_5 rfl tws_481 ?_
  refine g_tlenL (npc := 9) dX6_allows_8 rfl ?_
  refine g_icmp_ge (npc := 12) (tgt := 42) dX6_allows_9 rfl (by decide) ⟨hx, by decide, by decide⟩ (fun c => out (by omega)) (fun c2 => ?_)
  refine g_iload_n (npc := 13) dX6_allows_12 rfl rfl rfl ?_
  refine g_gstM (npc := 16) dX6_allows_13 rfl tws_483 ?_
  refine g_tlenM (npc := 17) dX6_allows_16 rfl ?_
  refine g_icmp_ge (npc := 20) (tgt := 42) dX6_allows_17 rfl (by decide) ⟨hx, by decide, by decide⟩ (fun c => out (by omega)) (fun _ => ?_)
  refine g_iload_n (npc := 21) dX6_allows_20 rfl rfl rfl ?_
  refine g_gstL (npc := 24) dX6_allows_21 rfl tws_481 ?_
  refine g_iload_n (npc := 25) dX6_allows_24 rfl rfl rfl ?_
  refine g_tldL (npc := 26) dX6_allows_25 rfl (by omega) ?_
  refine g_icmp_lt (npc := 29) (tgt := 42) dX6_allows_26 rfl (by decide) ⟨hy, by omega⟩ (fun c => out (by omega)) (fun c3 => ?_)
  refine g_iload_n (npc := 30) dX6_allows_29 rfl rfl rfl ?_
  refine g_gstM (npc := 33) dX6_allows_30 rfl tws_483 ?_
  refine g_iload_n (npc := 34) dX6_allows_33 rfl rfl rfl ?_
  refine g_tldM (npc := 35) dX6_allows_34 rfl (by omega) ?_
  refine g_icmp_gt (npc := 38) (tgt := 42) dX6_allows_35 rfl (by decide) ⟨hy, by omega⟩ (fun c => out (by omega)) (fun c4 => ?_)
  refine g_iconst (npc := 39) dX6_allows_38 rfl ?_
  refine g_goto (npc := 43) dX6_allows_39 (by decide) ?_
  exact g_iret dX6_allows_43 rfl (by decide) ⟨_, rfl, h1 (by omega)⟩
abbrev H_Tx_isNameAndSign_17 (Q : Int → Sto → Prop) (i : Nat) (x2 : Int) (s : Sto) : Prop := Go SC M_Tx_isNameAndSign (fI Q) 17 [(0, .ref 15), (1, .ref (1000 + i)), (2, iV x2)] [] s
theorem b_Tx_isNameAndSign_17 {Q : Int → Sto → Prop} {i : Nat} {x2 : Int} {s : Sto} (hi : i < 6) (h0 : 0 ≤ x2 ∧ x2 < 1000) (h1 : (strL.getD i 0 : Nat) ≤ x2 → Q 1 s) (h2 : x2 < (strL.getD i 0 : Nat) → x2 < 12 ∧ (-2147483648 ≤ s 16 x2.toNat ∧ s 16 x2.toNat < 2147483648) ∧ (s 16 x2.toNat = (strC.getD i []).getD x2.toNat 0 → H_Tx_isNameAndSign_17 Q i (x2 + 1) s) ∧ (¬ s 16 x2.toNat = (strC.getD i []).getD x2.toNat 0 → Q 0 s)) : H_Tx_isNameAndSign_17 Q i x2 s := by
  have hL := strL_small i hi
  have done : Q 1 s → Go SC M_Tx_isNameAndSign (fI Q) 56 [(0, .ref 15), (1, .ref (1000 + i)), (2, iV x2)] [] s := fun q => by
    refine g_iconst (npc := 57) dX8_isNameAndSign_56 rfl ?_
    exact g_iret dX8_isNameAndSign_57 rfl (by decide) ⟨_, rfl, q⟩
  refine g_iload_n (npc := 18) dX8_isNameAndSign_17 rfl rfl rfl ?_
  refine g_aload_n (npc := 19) dX8_isNameAndSign_18 rfl rfl rfl ?_
  refine g_callVS (npc := 22) (as := []) (st := [iV x2]) dX8_isNameAndSign_19 rfl rfl hi (show okV M_Tx_isNameAndSign 29 RJ0 yJ0_length_8abf5 cJ0_length_8abf5 1 (some .int) 0 from ⟨⟨tws_426, tws_427, tws_428, tws_77, tws_429⟩, rfl, by decide, by decide, by decide +kernel⟩) rfl (Nat.le_of_ble_eq_true rfl) ⟨rfl, rfl⟩ ⟨by decide, by decide⟩ (k_JS_length (Q := fun r s' => r = (strL.getD i 0 : Nat) ∧ s' = s) hi ⟨rfl, rfl⟩) (fun r s' hr => ?_)
  obtain ⟨z, rfl, rfl, rfl⟩ := hr
  refine g_icmp_ge (npc := 25) (tgt := 56) dX8_isNameAndSign_22 rfl (by decide) (by omega) (fun c => done (h1 c)) (fun c => ?_)
  obtain ⟨h3, hr3, h4, h5⟩ := h2 (by omega)
  refine g_iload_n (npc := 26) dX8_isNameAndSign_25 rfl rfl rfl ?_
  refine g_aload_n (npc := 27) dX8_isNameAndSign_26 rfl rfl rfl ?_
  refine gf_Tx_15 (npc := 30) dX8_isNameAndSign_27 rfl rfl ?_
  refine g_alen (npc := 31) dX8_isNameAndSign_30 rfl arSC_16 (by decide) ?_
  refine g_icmp_ge (npc := 34) (tgt := 56) dX8_isNameAndSign_31 rfl (by decide) (by omega) (fun c => absurd h3 (by omega)) (fun _ => ?_)
  refine g_aload_n (npc := 35) dX8_isNameAndSign_34 rfl rfl rfl ?_
  refine gf_Tx_15 (npc := 38) dX8_isNameAndSign_35 rfl rfl ?_
  refine g_iload_n (npc := 39) dX8_isNameAndSign_38 rfl rfl rfl ?_
  refine g_cald (npc := 40) dX8_isNameAndSign_39 rfl arSC_16 ⟨h0.1, h3⟩ ?_
  refine g_aload_n (npc := 41) dX8_isNameAndSign_40 rfl rfl rfl ?_
  refine g_iload_n (npc := 42) dX8_isNameAndSign_41 rfl rfl rfl ?_
  have hch := (strC_ok i hi x2.toNat (by omega))
  refine g_callVS (npc := 45) (as := [iV x2]) (st := [iV (s' 16 x2.toNat)]) dX8_isNameAndSign_42 rfl rfl hi (show okV M_Tx_isNameAndSign 34 RJ0 yJ0_charAt_5068e cJ0_charAt_5068e 2 (some .char) 1 from ⟨⟨tws_436, tws_437, tws_438, tws_77, tws_439⟩, rfl, by decide, by decide, by decide +kernel⟩) rfl (Nat.le_of_ble_eq_true rfl) ⟨rfl, rfl⟩ ⟨by decide, by decide⟩ (k_JS_charAt (Q := fun r s2 => r = (strC.getD i []).getD x2.toNat 0 ∧ s2 = s') hi ⟨h0.1, by omega⟩ ⟨rfl, rfl⟩) (fun r s2 hr => ?_)
  obtain ⟨z, rfl, rfl, rfl⟩ := hr
  refine g_icmp_eq (npc := 48) (tgt := 50) dX8_isNameAndSign_45 rfl (by decide) ⟨hr3, by omega⟩ (fun c => ?_) (fun c => ?_)
  · refine g_iinc (npc := 53) (y := (x2 + 1)) (l' := [(0, .ref 15), (1, .ref (1000 + i)), (2, iV (x2 + 1))]) dX8_isNameAndSign_50 rfl (by decide) rfl (by omega) rfl ?_
    refine g_goto (npc := 17) dX8_isNameAndSign_53 (by decide) ?_
    exact h4 c
  · refine g_iconst (npc := 49) dX8_isNameAndSign_48 rfl ?_
    exact g_iret dX8_isNameAndSign_49 rfl (by decide) ⟨_, rfl, h5 c⟩
theorem e_Tx_isNameAndSign {i : Nat} {s : Sto} {Q : Int → Sto → Prop} (hi : i < 6) (hl : -2147483648 ≤ s 15 0 ∧ s 15 0 < 2147483648) (h0 : ¬ s 15 0 = (strL.getD i 0 : Nat) + 1 → Q 0 s) (h1 : s 15 0 = (strL.getD i 0 : Nat) + 1 → H_Tx_isNameAndSign_17 Q i 0 s) : K_Tx_isNameAndSign (1000 + i) s Q := by
  have hL := (show ∀ i, i < 6 → strL.getD i 0 < 100 from by decide) i hi
  refine Sp.body (by decide) (Nat.le_of_ble_eq_true rfl) ?_
  show Go SC M_Tx_isNameAndSign (fI Q) 0 [(0, .ref 15), (1, .ref (1000 + i))] [] s
  refine g_aload_n (npc := 1) dX8_isNameAndSign_0 rfl rfl rfl ?_
  refine gf_Tx_9 (npc := 4) dX8_isNameAndSign_1 rfl rfl ?_
  refine g_aload_n (npc := 5) dX8_isNameAndSign_4 rfl rfl rfl ?_
  refine g_callVS (npc := 8) (as := []) (st := [iV (s 15 0)]) dX8_isNameAndSign_5 rfl rfl hi (show okV M_Tx_isNameAndSign 29 RJ0 yJ0_length_8abf5 cJ0_length_8abf5 1 (some .int) 0 from ⟨⟨tws_426, tws_427, tws_428, tws_77, tws_429⟩, rfl, by decide, by decide, by decide +kernel⟩) rfl (Nat.le_of_ble_eq_true rfl) ⟨rfl, rfl⟩ ⟨by decide, by decide⟩ (k_JS_length (Q := fun r s' => r = (strL.getD i 0 : Nat) ∧ s' = s) hi ⟨rfl, rfl⟩) (fun r s' hr => ?_)
  obtain ⟨z, rfl, rfl, rfl⟩ := hr
  refine g_iconst (npc := 9) dX8_isNameAndSign_8 rfl ?_
  refine g_iadd (npc := 10) dX8_isNameAndSign_9 rfl ?_
  refine g_icmp_eq (npc := 13) (tgt := 15) dX8_isNameAndSign_10 rfl (by decide) (by omega) (fun c => ?_) (fun c => ?_)
  · refine g_iconst (npc := 16) dX8_isNameAndSign_15 rfl ?_
    refine g_istore_n (npc := 17) (l' := [(0, .ref 15), (1, .ref (1000 + i)), (2, iV 0)]) dX8_isNameAndSign_16 rfl rfl (by decide) rfl ?_
    exact h1 c
  · refine g_iconst (npc := 14) dX8_isNameAndSign_13 rfl ?_
    exact g_iret dX8_isNameAndSign_14 rfl (by decide) ⟨_, rfl, h0 c⟩
abbrev H_Tx_findShape_2 (Q : Int → Sto → Prop) (x1 : Int) (s : Sto) : Prop := Go SC M_Tx_findShape (fI Q) 2 [(0, .ref 15), (1, iV x1)] [] s
theorem b_Tx_findShape_2 {Q : Int → Sto → Prop} {x1 : Int} {s : Sto} (h0 : 0 ≤ x1 ∧ x1 ≤ 5) (h5 : x1 = 5 → Q (-1) s) (h1 : x1 < 5 → ∃ J : Int → Sto → Prop, K_Tx_isNameAndSign (1000 + x1.toNat) s J ∧ ∀ r s2, J r s2 → (-2147483648 ≤ r ∧ r < 2147483648) ∧ (r = 0 → H_Tx_findShape_2 Q (x1 + 1) s2) ∧ (¬ r = 0 → Q x1 s2)) : H_Tx_findShape_2 Q x1 s := by
  refine g_iload_n (npc := 3) dX8_findShape_2 rfl rfl rfl ?_
  refine g_iconst (npc := 4) dX8_findShape_3 rfl ?_
  refine g_icmp_ge (npc := 7) (tgt := 26) dX8_findShape_4 rfl (by decide) ⟨by omega, by decide, by decide⟩ (fun c => ?_) (fun c => ?_)
  · refine g_iconst (npc := 27) dX8_findShape_26 rfl ?_
    exact g_iret dX8_findShape_27 rfl rfl ⟨_, rfl, h5 (by omega)⟩
  · obtain ⟨J, hJ, h2⟩ := h1 (by omega)
    refine g_aload_n (npc := 8) dX8_findShape_7 rfl rfl rfl ?_
    refine g_iload_n (npc := 9) dX8_findShape_8 rfl rfl rfl ?_
    refine iv_Tx_21 (npc := 12) (st := [.ref 15]) dX8_findShape_9 rfl rfl (by decide) (by decide) (k_Sh_nameOf (Q := fun k s' => k = 1000 + x1.toNat ∧ s' = s) (by omega) ⟨rfl, rfl⟩) (fun k s' e => ?_)
    obtain ⟨rfl, rfl⟩ := e
    refine iv_Tx_25 (npc := 15) (st := []) dX8_findShape_12 rfl rfl (by decide) (by decide) hJ (fun r s2 e2 => ?_)
    obtain ⟨hr, h3, h4⟩ := h2 r s2 e2
    refine g_if_eq (npc := 18) (tgt := 20) dX8_findShape_15 rfl (by decide) hr (fun c => ?_) (fun c => ?_)
    · refine g_iinc (npc := 23) (y := (x1 + 1)) (l' := [(0, .ref 15), (1, iV (x1 + 1))]) dX8_findShape_20 rfl (by decide) rfl (by omega) rfl ?_
      refine g_goto (npc := 2) dX8_findShape_23 (by decide) ?_
      exact h3 c
    · refine g_iload_n (npc := 19) dX8_findShape_18 rfl rfl rfl ?_
      exact g_iret dX8_findShape_19 rfl rfl ⟨_, rfl, h4 c⟩
theorem e_Tx_findShape {s : Sto} {Q : Int → Sto → Prop} (h : H_Tx_findShape_2 Q 0 s) : K_Tx_findShape s Q := by
  refine Sp.body (by decide) (Nat.le_of_ble_eq_true rfl) ?_
  show Go SC M_Tx_findShape (fI Q) 0 [(0, .ref 15)] [] s
  refine g_iconst (npc := 1) dX8_findShape_0 rfl ?_
  refine g_istore_n (npc := 2) (l' := [(0, .ref 15), (1, iV 0)]) dX8_findShape_1 rfl rfl (by decide) rfl ?_
  exact h
