/-! CORE 3: a row an instruction -/
theorem g_iconst {S : Shp} {cs ss : Nat} {M : Mth} {F : Option Value → Sto → Prop} {pc npc : Nat} {l : List (Nat × Value)} {st : List Value} {s : Sto} {n : Int} (hd : decode M.1 pc = .ok (.iconst n, 1)) (hn : pc + 1 = npc) (k : Go S M F cs ss npc l (iV n :: st) s) : Go S M F cs ss pc l (st) s := by
  subst hn
  intro p lc e u m args below meth c D cA ad H locs ls A Z X hP hS hl
  exact lv_iconst X.1 X.2.1 hd rfl (k p lc e u m args below meth c D cA ad H locs ls A Z X hP hS hl)
theorem g_bipush {S : Shp} {cs ss : Nat} {M : Mth} {F : Option Value → Sto → Prop} {pc npc : Nat} {l : List (Nat × Value)} {st : List Value} {s : Sto} {n : Int} {x : Int} (hd : decode M.1 pc = .ok (.bipush n, 2)) (hn : pc + 2 = npc) (hv : (Int8.ofInt n).toInt32 = Int32.ofInt x) (k : Go S M F cs ss npc l (iV x :: st) s) : Go S M F cs ss pc l (st) s := by
  subst hn
  intro p lc e u m args below meth c D cA ad H locs ls A Z X hP hS hl
  exact lv_bipush X.1 X.2.1 hd hv (k p lc e u m args below meth c D cA ad H locs ls A Z X hP hS hl)
theorem g_sipush {S : Shp} {cs ss : Nat} {M : Mth} {F : Option Value → Sto → Prop} {pc npc : Nat} {l : List (Nat × Value)} {st : List Value} {s : Sto} {n : Int} {x : Int} (hd : decode M.1 pc = .ok (.sipush n, 3)) (hn : pc + 3 = npc) (hv : (Int16.ofInt n).toInt32 = Int32.ofInt x) (k : Go S M F cs ss npc l (iV x :: st) s) : Go S M F cs ss pc l (st) s := by
  subst hn
  intro p lc e u m args below meth c D cA ad H locs ls A Z X hP hS hl
  exact lv_sipush X.1 X.2.1 hd hv (k p lc e u m args below meth c D cA ad H locs ls A Z X hP hS hl)
theorem g_lconst {S : Shp} {cs ss : Nat} {M : Mth} {F : Option Value → Sto → Prop} {pc npc : Nat} {l : List (Nat × Value)} {st : List Value} {s : Sto} {n : Fin 2} {x : Int} (hd : decode M.1 pc = .ok (.lconst n, 1)) (hn : pc + 1 = npc) (hv : Int64.ofNat (n : Nat) = Int64.ofInt x) (k : Go S M F cs ss npc l (jV x :: st) s) : Go S M F cs ss pc l (st) s := by
  subst hn
  intro p lc e u m args below meth c D cA ad H locs ls A Z X hP hS hl
  exact lv_lconst X.1 X.2.1 hd hv (k p lc e u m args below meth c D cA ad H locs ls A Z X hP hS hl)
theorem g_ldc {S : Shp} {cs ss : Nat} {M : Mth} {F : Option Value → Sto → Prop} {pc npc : Nat} {l : List (Nat × Value)} {st : List Value} {s : Sto} {index : Nat} {x : Int} (hd : decode M.1 pc = .ok (.ldc index, 2)) (hn : pc + 2 = npc) (hc : Cond.constant M.2.1 index (Int32.ofInt x) ∈ TW) (k : Go S M F cs ss npc l (iV x :: st) s) : Go S M F cs ss pc l (st) s := by
  subst hn
  intro p lc e u m args below meth c D cA ad H locs ls A Z X hP hS hl
  exact lv_ldc X.1 X.2.1 X.2.2.2.2.1 (X.2.2.2.2.2.1 _ hc) hd (k p lc e u m args below meth c D cA ad H locs ls A Z X hP hS hl)
theorem g_ldc2 {S : Shp} {cs ss : Nat} {M : Mth} {F : Option Value → Sto → Prop} {pc npc : Nat} {l : List (Nat × Value)} {st : List Value} {s : Sto} {index : Nat} {x : Int} (hd : decode M.1 pc = .ok (.ldc2_w index, 3)) (hn : pc + 3 = npc) (hc : Cond.constantLong M.2.1 index (Int64.ofInt x) ∈ TW) (k : Go S M F cs ss npc l (jV x :: st) s) : Go S M F cs ss pc l (st) s := by
  subst hn
  intro p lc e u m args below meth c D cA ad H locs ls A Z X hP hS hl
  exact lv_ldc2 X.1 X.2.1 X.2.2.2.2.1 (X.2.2.2.2.2.1 _ hc) hd (k p lc e u m args below meth c D cA ad H locs ls A Z X hP hS hl)
theorem g_iload_n {S : Shp} {cs ss : Nat} {M : Mth} {F : Option Value → Sto → Prop} {pc npc : Nat} {l : List (Nat × Value)} {st : List Value} {s : Sto} {j : Fin 4} {i : Nat} {x : Int} (hd : decode M.1 pc = .ok (.iload_n j, 1)) (hn : pc + 1 = npc) (hi : (j : Nat) = i) (hg : lget l i = some (iV x)) (k : Go S M F cs ss npc l (iV x :: st) s) : Go S M F cs ss pc l (st) s := by
  subst hn
  intro p lc e u m args below meth c D cA ad H locs ls A Z X hP hS hl
  exact lv_iload_n X.1 X.2.1 hd hi (lget_at hl hg) (k p lc e u m args below meth c D cA ad H locs ls A Z X hP hS hl)
theorem g_iload {S : Shp} {cs ss : Nat} {M : Mth} {F : Option Value → Sto → Prop} {pc npc : Nat} {l : List (Nat × Value)} {st : List Value} {s : Sto} {i : Nat} {x : Int} (hd : decode M.1 pc = .ok (.iload i, 2)) (hn : pc + 2 = npc) (hg : lget l i = some (iV x)) (k : Go S M F cs ss npc l (iV x :: st) s) : Go S M F cs ss pc l (st) s := by
  subst hn
  intro p lc e u m args below meth c D cA ad H locs ls A Z X hP hS hl
  exact lv_iload X.1 X.2.1 hd (lget_at hl hg) (k p lc e u m args below meth c D cA ad H locs ls A Z X hP hS hl)
theorem g_lload_n {S : Shp} {cs ss : Nat} {M : Mth} {F : Option Value → Sto → Prop} {pc npc : Nat} {l : List (Nat × Value)} {st : List Value} {s : Sto} {j : Fin 4} {i : Nat} {x : Int} (hd : decode M.1 pc = .ok (.lload_n j, 1)) (hn : pc + 1 = npc) (hi : (j : Nat) = i) (hg : lget l i = some (jV x)) (k : Go S M F cs ss npc l (jV x :: st) s) : Go S M F cs ss pc l (st) s := by
  subst hn
  intro p lc e u m args below meth c D cA ad H locs ls A Z X hP hS hl
  exact lv_lload_n X.1 X.2.1 hd hi (lget_at hl hg) (k p lc e u m args below meth c D cA ad H locs ls A Z X hP hS hl)
theorem g_lload {S : Shp} {cs ss : Nat} {M : Mth} {F : Option Value → Sto → Prop} {pc npc : Nat} {l : List (Nat × Value)} {st : List Value} {s : Sto} {i : Nat} {x : Int} (hd : decode M.1 pc = .ok (.lload i, 2)) (hn : pc + 2 = npc) (hg : lget l i = some (jV x)) (k : Go S M F cs ss npc l (jV x :: st) s) : Go S M F cs ss pc l (st) s := by
  subst hn
  intro p lc e u m args below meth c D cA ad H locs ls A Z X hP hS hl
  exact lv_lload X.1 X.2.1 hd (lget_at hl hg) (k p lc e u m args below meth c D cA ad H locs ls A Z X hP hS hl)
theorem g_aload_n {S : Shp} {cs ss : Nat} {M : Mth} {F : Option Value → Sto → Prop} {pc npc : Nat} {l : List (Nat × Value)} {st : List Value} {s : Sto} {j : Fin 4} {i : Nat} {x : Nat} (hd : decode M.1 pc = .ok (.aload_n j, 1)) (hn : pc + 1 = npc) (hi : (j : Nat) = i) (hg : lget l i = some (.ref x)) (k : Go S M F cs ss npc l (.ref x :: st) s) : Go S M F cs ss pc l (st) s := by
  subst hn
  intro p lc e u m args below meth c D cA ad H locs ls A Z X hP hS hl
  exact lv_aload_n X.1 X.2.1 hd hi (lget_at hl hg) (k p lc e u m args below meth c D cA ad H locs ls A Z X hP hS hl)
theorem g_aload {S : Shp} {cs ss : Nat} {M : Mth} {F : Option Value → Sto → Prop} {pc npc : Nat} {l : List (Nat × Value)} {st : List Value} {s : Sto} {i : Nat} {x : Nat} (hd : decode M.1 pc = .ok (.aload i, 2)) (hn : pc + 2 = npc) (hg : lget l i = some (.ref x)) (k : Go S M F cs ss npc l (.ref x :: st) s) : Go S M F cs ss pc l (st) s := by
  subst hn
  intro p lc e u m args below meth c D cA ad H locs ls A Z X hP hS hl
  exact lv_aload X.1 X.2.1 hd (lget_at hl hg) (k p lc e u m args below meth c D cA ad H locs ls A Z X hP hS hl)
theorem g_istore_n {S : Shp} {cs ss : Nat} {M : Mth} {F : Option Value → Sto → Prop} {pc npc : Nat} {l : List (Nat × Value)} {st : List Value} {s : Sto} {j : Fin 4} {i : Nat} {x : Int} {l' : List (Nat × Value)} (hd : decode M.1 pc = .ok (.istore_n j, 1)) (hn : pc + 1 = npc) (hi : (j : Nat) = i) (hb : i < M.2.2.1) (hl' : lset l i (iV x) = l') (k : Go S M F cs ss npc l' st s) : Go S M F cs ss pc l (iV x :: st) s := by
  subst hn hl'
  intro p lc e u m args below meth c D cA ad H locs ls A Z X hP hS hl
  refine lv_istore_n X.1 X.2.1 hd hi hl hb rfl (fun ls' h' => ?_)
  exact k p lc e u m args below meth c D cA ad H locs ls' A Z X hP hS (lset_has h')
theorem g_istore {S : Shp} {cs ss : Nat} {M : Mth} {F : Option Value → Sto → Prop} {pc npc : Nat} {l : List (Nat × Value)} {st : List Value} {s : Sto} {i : Nat} {x : Int} {l' : List (Nat × Value)} (hd : decode M.1 pc = .ok (.istore i, 2)) (hn : pc + 2 = npc) (hb : i < M.2.2.1) (hl' : lset l i (iV x) = l') (k : Go S M F cs ss npc l' st s) : Go S M F cs ss pc l (iV x :: st) s := by
  subst hn hl'
  intro p lc e u m args below meth c D cA ad H locs ls A Z X hP hS hl
  refine lv_istore X.1 X.2.1 hd hl hb rfl (fun ls' h' => ?_)
  exact k p lc e u m args below meth c D cA ad H locs ls' A Z X hP hS (lset_has h')
theorem g_astore_n {S : Shp} {cs ss : Nat} {M : Mth} {F : Option Value → Sto → Prop} {pc npc : Nat} {l : List (Nat × Value)} {st : List Value} {s : Sto} {j : Fin 4} {i : Nat} {x : Nat} {l' : List (Nat × Value)} (hd : decode M.1 pc = .ok (.astore_n j, 1)) (hn : pc + 1 = npc) (hi : (j : Nat) = i) (hb : i < M.2.2.1) (hl' : lset l i (.ref x) = l') (k : Go S M F cs ss npc l' st s) : Go S M F cs ss pc l (.ref x :: st) s := by
  subst hn hl'
  intro p lc e u m args below meth c D cA ad H locs ls A Z X hP hS hl
  refine lv_astore_n X.1 X.2.1 hd hi hl hb rfl (fun ls' h' => ?_)
  exact k p lc e u m args below meth c D cA ad H locs ls' A Z X hP hS (lset_has h')
theorem g_astore {S : Shp} {cs ss : Nat} {M : Mth} {F : Option Value → Sto → Prop} {pc npc : Nat} {l : List (Nat × Value)} {st : List Value} {s : Sto} {i : Nat} {x : Nat} {l' : List (Nat × Value)} (hd : decode M.1 pc = .ok (.astore i, 2)) (hn : pc + 2 = npc) (hb : i < M.2.2.1) (hl' : lset l i (.ref x) = l') (k : Go S M F cs ss npc l' st s) : Go S M F cs ss pc l (.ref x :: st) s := by
  subst hn hl'
  intro p lc e u m args below meth c D cA ad H locs ls A Z X hP hS hl
  refine lv_astore X.1 X.2.1 hd hl hb rfl (fun ls' h' => ?_)
  exact k p lc e u m args below meth c D cA ad H locs ls' A Z X hP hS (lset_has h')
theorem g_lstore_n {S : Shp} {cs ss : Nat} {M : Mth} {F : Option Value → Sto → Prop} {pc npc : Nat} {l : List (Nat × Value)} {st : List Value} {s : Sto} {j : Fin 4} {i : Nat} {x : Int} {l' : List (Nat × Value)} (hd : decode M.1 pc = .ok (.lstore_n j, 1)) (hn : pc + 1 = npc) (hi : (j : Nat) = i) (hb : i + 1 < M.2.2.1) (hl' : lset2 l i (jV x) = l') (k : Go S M F cs ss npc l' st s) : Go S M F cs ss pc l (jV x :: st) s := by
  subst hn hl'
  intro p lc e u m args below meth c D cA ad H locs ls A Z X hP hS hl
  refine lv_lstore_n X.1 X.2.1 hd hi hl hb rfl (fun ls' h' => ?_)
  exact k p lc e u m args below meth c D cA ad H locs ls' A Z X hP hS (lset2_has h')
theorem g_lstore {S : Shp} {cs ss : Nat} {M : Mth} {F : Option Value → Sto → Prop} {pc npc : Nat} {l : List (Nat × Value)} {st : List Value} {s : Sto} {i : Nat} {x : Int} {l' : List (Nat × Value)} (hd : decode M.1 pc = .ok (.lstore i, 2)) (hn : pc + 2 = npc) (hb : i + 1 < M.2.2.1) (hl' : lset2 l i (jV x) = l') (k : Go S M F cs ss npc l' st s) : Go S M F cs ss pc l (jV x :: st) s := by
  subst hn hl'
  intro p lc e u m args below meth c D cA ad H locs ls A Z X hP hS hl
  refine lv_lstore X.1 X.2.1 hd hl hb rfl (fun ls' h' => ?_)
  exact k p lc e u m args below meth c D cA ad H locs ls' A Z X hP hS (lset2_has h')
theorem g_iinc {S : Shp} {cs ss : Nat} {M : Mth} {F : Option Value → Sto → Prop} {pc npc : Nat} {l : List (Nat × Value)} {st : List Value} {s : Sto} {i : Nat} {n x y : Int} {l' : List (Nat × Value)} (hd : decode M.1 pc = .ok (.iinc i n, 3)) (hn : pc + 3 = npc) (hb : i < M.2.2.1) (hg : lget l i = some (iV x)) (hy : x + n = y) (hl' : lset l i (iV y) = l') (k : Go S M F cs ss npc l' st s) : Go S M F cs ss pc l st s := by
  subst hn hl' hy
  intro p lc e u m args below meth c D cA ad H locs ls A Z X hP hS hl
  have hq := lget_at hl hg
  have hl2 : lv_has ls M.2.2.1 ((i, Value.int (Int32.ofInt x)) :: tl ad l) := ⟨hl.1, hl.2.1, fun q hq2 => by
    rcases List.mem_cons.mp hq2 with rfl | h
    · exact hq
    · exact hl.2.2 q h⟩
  refine lv_iinc (k := 0) X.1 X.2.1 hd hl2 rfl (i32_add x n) hb rfl (fun ls' h' => ?_)
  refine k p lc e u m args below meth c D cA ad H locs ls' A Z X hP hS (lset_has ⟨h'.1, h'.2.1, fun q hq2 => h'.2.2 q ?_⟩)
  rcases List.mem_cons.mp hq2 with h | h
  · exact h ▸ List.mem_cons_self
  · obtain ⟨h1, h2⟩ := List.mem_filter.mp h
    exact List.mem_cons_of_mem _ (List.mem_filter.mpr ⟨List.mem_cons_of_mem _ h1, h2⟩)
theorem g_iadd {S : Shp} {cs ss : Nat} {M : Mth} {F : Option Value → Sto → Prop} {pc npc : Nat} {l : List (Nat × Value)} {st : List Value} {s : Sto} {x y : Int} (hd : decode M.1 pc = .ok (.iadd, 1)) (hn : pc + 1 = npc) (k : Go S M F cs ss npc l (iV (x + y) :: st) s) : Go S M F cs ss pc l (iV y :: iV x :: st) s := by
  subst hn
  intro p lc e u m args below meth c D cA ad H locs ls A Z X hP hS hl
  refine lv_iadd X.1 X.2.1 hd ?_
  rw [i32_add x y]
  exact k p lc e u m args below meth c D cA ad H locs ls A Z X hP hS hl
theorem g_isub {S : Shp} {cs ss : Nat} {M : Mth} {F : Option Value → Sto → Prop} {pc npc : Nat} {l : List (Nat × Value)} {st : List Value} {s : Sto} {x y : Int} (hd : decode M.1 pc = .ok (.isub, 1)) (hn : pc + 1 = npc) (k : Go S M F cs ss npc l (iV (x - y) :: st) s) : Go S M F cs ss pc l (iV y :: iV x :: st) s := by
  subst hn
  intro p lc e u m args below meth c D cA ad H locs ls A Z X hP hS hl
  refine lv_isub X.1 X.2.1 hd ?_
  rw [i32_sub x y]
  exact k p lc e u m args below meth c D cA ad H locs ls A Z X hP hS hl
theorem g_imul {S : Shp} {cs ss : Nat} {M : Mth} {F : Option Value → Sto → Prop} {pc npc : Nat} {l : List (Nat × Value)} {st : List Value} {s : Sto} {x y : Int} (hd : decode M.1 pc = .ok (.imul, 1)) (hn : pc + 1 = npc) (k : Go S M F cs ss npc l (iV (x * y) :: st) s) : Go S M F cs ss pc l (iV y :: iV x :: st) s := by
  subst hn
  intro p lc e u m args below meth c D cA ad H locs ls A Z X hP hS hl
  refine lv_imul X.1 X.2.1 hd ?_
  rw [i32_mul x y]
  exact k p lc e u m args below meth c D cA ad H locs ls A Z X hP hS hl
theorem g_iand {S : Shp} {cs ss : Nat} {M : Mth} {F : Option Value → Sto → Prop} {pc npc : Nat} {l : List (Nat × Value)} {st : List Value} {s : Sto} {x y : Int} (hd : decode M.1 pc = .ok (.iand, 1)) (hn : pc + 1 = npc) (k : Go S M F cs ss npc l (iV (iand x y) :: st) s) : Go S M F cs ss pc l (iV y :: iV x :: st) s := by
  subst hn
  intro p lc e u m args below meth c D cA ad H locs ls A Z X hP hS hl
  refine lv_iand X.1 X.2.1 hd ?_
  rw [← i32_inv (Int32.ofInt x &&& Int32.ofInt y)]
  exact k p lc e u m args below meth c D cA ad H locs ls A Z X hP hS hl
theorem g_ior {S : Shp} {cs ss : Nat} {M : Mth} {F : Option Value → Sto → Prop} {pc npc : Nat} {l : List (Nat × Value)} {st : List Value} {s : Sto} {x y : Int} (hd : decode M.1 pc = .ok (.ior, 1)) (hn : pc + 1 = npc) (k : Go S M F cs ss npc l (iV (ior x y) :: st) s) : Go S M F cs ss pc l (iV y :: iV x :: st) s := by
  subst hn
  intro p lc e u m args below meth c D cA ad H locs ls A Z X hP hS hl
  refine lv_ior X.1 X.2.1 hd ?_
  rw [← i32_inv (Int32.ofInt x ||| Int32.ofInt y)]
  exact k p lc e u m args below meth c D cA ad H locs ls A Z X hP hS hl
theorem g_ixor {S : Shp} {cs ss : Nat} {M : Mth} {F : Option Value → Sto → Prop} {pc npc : Nat} {l : List (Nat × Value)} {st : List Value} {s : Sto} {x y : Int} (hd : decode M.1 pc = .ok (.ixor, 1)) (hn : pc + 1 = npc) (k : Go S M F cs ss npc l (iV (ixor x y) :: st) s) : Go S M F cs ss pc l (iV y :: iV x :: st) s := by
  subst hn
  intro p lc e u m args below meth c D cA ad H locs ls A Z X hP hS hl
  refine lv_ixor X.1 X.2.1 hd ?_
  rw [← i32_inv (Int32.ofInt x ^^^ Int32.ofInt y)]
  exact k p lc e u m args below meth c D cA ad H locs ls A Z X hP hS hl
theorem g_ishl {S : Shp} {cs ss : Nat} {M : Mth} {F : Option Value → Sto → Prop} {pc npc : Nat} {l : List (Nat × Value)} {st : List Value} {s : Sto} {x y : Int} (hd : decode M.1 pc = .ok (.ishl, 1)) (hn : pc + 1 = npc) (k : Go S M F cs ss npc l (iV (ishl x y) :: st) s) : Go S M F cs ss pc l (iV y :: iV x :: st) s := by
  subst hn
  intro p lc e u m args below meth c D cA ad H locs ls A Z X hP hS hl
  refine lv_ishl X.1 X.2.1 hd ?_
  rw [← i32_inv (Int32.ofInt x <<< (Int32.ofInt y &&& 31))]
  exact k p lc e u m args below meth c D cA ad H locs ls A Z X hP hS hl
theorem g_ishr {S : Shp} {cs ss : Nat} {M : Mth} {F : Option Value → Sto → Prop} {pc npc : Nat} {l : List (Nat × Value)} {st : List Value} {s : Sto} {x y : Int} (hd : decode M.1 pc = .ok (.ishr, 1)) (hn : pc + 1 = npc) (k : Go S M F cs ss npc l (iV (ishr x y) :: st) s) : Go S M F cs ss pc l (iV y :: iV x :: st) s := by
  subst hn
  intro p lc e u m args below meth c D cA ad H locs ls A Z X hP hS hl
  refine lv_ishr X.1 X.2.1 hd ?_
  rw [← i32_inv (Int32.ofInt x >>> (Int32.ofInt y &&& 31))]
  exact k p lc e u m args below meth c D cA ad H locs ls A Z X hP hS hl
theorem g_ineg {S : Shp} {cs ss : Nat} {M : Mth} {F : Option Value → Sto → Prop} {pc npc : Nat} {l : List (Nat × Value)} {st : List Value} {s : Sto} {x : Int} (hd : decode M.1 pc = .ok (.ineg, 1)) (hn : pc + 1 = npc) (k : Go S M F cs ss npc l (iV (-x) :: st) s) : Go S M F cs ss pc l (iV x :: st) s := by
  subst hn
  intro p lc e u m args below meth c D cA ad H locs ls A Z X hP hS hl
  refine lv_ineg X.1 X.2.1 hd ?_
  rw [i32_neg]
  exact k p lc e u m args below meth c D cA ad H locs ls A Z X hP hS hl
theorem g_idiv {S : Shp} {cs ss : Nat} {M : Mth} {F : Option Value → Sto → Prop} {pc npc : Nat} {l : List (Nat × Value)} {st : List Value} {s : Sto} {x y : Int} (hd : decode M.1 pc = .ok (.idiv, 1)) (hn : pc + 1 = npc) (hr : (-2147483648 ≤ x ∧ x < 2147483648) ∧ -2147483648 ≤ y ∧ y < 2147483648) (h0 : ¬ y = 0) (k : Go S M F cs ss npc l (iV (x.tdiv y) :: st) s) : Go S M F cs ss pc l (iV y :: iV x :: st) s := by
  subst hn
  intro p lc e u m args below meth c D cA ad H locs ls A Z X hP hS hl
  refine lv_idiv X.1 X.2.1 hd (fun z => h0 ((i32_eq (x := y) (y := 0) ⟨hr.2, by omega, by omega⟩).mp z)) ?_
  rw [i32_div hr]
  exact k p lc e u m args below meth c D cA ad H locs ls A Z X hP hS hl
theorem g_irem {S : Shp} {cs ss : Nat} {M : Mth} {F : Option Value → Sto → Prop} {pc npc : Nat} {l : List (Nat × Value)} {st : List Value} {s : Sto} {x y : Int} (hd : decode M.1 pc = .ok (.irem, 1)) (hn : pc + 1 = npc) (hr : (-2147483648 ≤ x ∧ x < 2147483648) ∧ -2147483648 ≤ y ∧ y < 2147483648) (h0 : ¬ y = 0) (k : Go S M F cs ss npc l (iV (x.tmod y) :: st) s) : Go S M F cs ss pc l (iV y :: iV x :: st) s := by
  subst hn
  intro p lc e u m args below meth c D cA ad H locs ls A Z X hP hS hl
  refine lv_irem X.1 X.2.1 hd (fun z => h0 ((i32_eq (x := y) (y := 0) ⟨hr.2, by omega, by omega⟩).mp z)) ?_
  rw [i32_rem hr]
  exact k p lc e u m args below meth c D cA ad H locs ls A Z X hP hS hl
theorem g_ladd {S : Shp} {cs ss : Nat} {M : Mth} {F : Option Value → Sto → Prop} {pc npc : Nat} {l : List (Nat × Value)} {st : List Value} {s : Sto} {x y : Int} (hd : decode M.1 pc = .ok (.ladd, 1)) (hn : pc + 1 = npc) (k : Go S M F cs ss npc l (jV (x + y) :: st) s) : Go S M F cs ss pc l (jV y :: jV x :: st) s := by
  subst hn
  intro p lc e u m args below meth c D cA ad H locs ls A Z X hP hS hl
  refine lv_ladd X.1 X.2.1 hd ?_
  rw [i64_add x y]
  exact k p lc e u m args below meth c D cA ad H locs ls A Z X hP hS hl
theorem g_lsub {S : Shp} {cs ss : Nat} {M : Mth} {F : Option Value → Sto → Prop} {pc npc : Nat} {l : List (Nat × Value)} {st : List Value} {s : Sto} {x y : Int} (hd : decode M.1 pc = .ok (.lsub, 1)) (hn : pc + 1 = npc) (k : Go S M F cs ss npc l (jV (x - y) :: st) s) : Go S M F cs ss pc l (jV y :: jV x :: st) s := by
  subst hn
  intro p lc e u m args below meth c D cA ad H locs ls A Z X hP hS hl
  refine lv_lsub X.1 X.2.1 hd ?_
  rw [i64_sub x y]
  exact k p lc e u m args below meth c D cA ad H locs ls A Z X hP hS hl
theorem g_lmul {S : Shp} {cs ss : Nat} {M : Mth} {F : Option Value → Sto → Prop} {pc npc : Nat} {l : List (Nat × Value)} {st : List Value} {s : Sto} {x y : Int} (hd : decode M.1 pc = .ok (.lmul, 1)) (hn : pc + 1 = npc) (k : Go S M F cs ss npc l (jV (x * y) :: st) s) : Go S M F cs ss pc l (jV y :: jV x :: st) s := by
  subst hn
  intro p lc e u m args below meth c D cA ad H locs ls A Z X hP hS hl
  refine lv_lmul X.1 X.2.1 hd ?_
  rw [i64_mul x y]
  exact k p lc e u m args below meth c D cA ad H locs ls A Z X hP hS hl
theorem g_lneg {S : Shp} {cs ss : Nat} {M : Mth} {F : Option Value → Sto → Prop} {pc npc : Nat} {l : List (Nat × Value)} {st : List Value} {s : Sto} {x : Int} (hd : decode M.1 pc = .ok (.lneg, 1)) (hn : pc + 1 = npc) (k : Go S M F cs ss npc l (jV (-x) :: st) s) : Go S M F cs ss pc l (jV x :: st) s := by
  subst hn
  intro p lc e u m args below meth c D cA ad H locs ls A Z X hP hS hl
  refine lv_lneg X.1 X.2.1 hd ?_
  rw [i64_neg]
  exact k p lc e u m args below meth c D cA ad H locs ls A Z X hP hS hl
theorem g_ldiv {S : Shp} {cs ss : Nat} {M : Mth} {F : Option Value → Sto → Prop} {pc npc : Nat} {l : List (Nat × Value)} {st : List Value} {s : Sto} {x y : Int} (hd : decode M.1 pc = .ok (.ldiv, 1)) (hn : pc + 1 = npc) (hr : (-9223372036854775808 ≤ x ∧ x < 9223372036854775808) ∧ -9223372036854775808 ≤ y ∧ y < 9223372036854775808) (h0 : ¬ y = 0) (k : Go S M F cs ss npc l (jV (x.tdiv y) :: st) s) : Go S M F cs ss pc l (jV y :: jV x :: st) s := by
  subst hn
  intro p lc e u m args below meth c D cA ad H locs ls A Z X hP hS hl
  refine lv_ldiv X.1 X.2.1 hd (fun z => h0 ((i64_eq (x := y) (y := 0) ⟨hr.2, by omega, by omega⟩).mp z)) ?_
  rw [i64_div hr]
  exact k p lc e u m args below meth c D cA ad H locs ls A Z X hP hS hl
theorem g_lrem {S : Shp} {cs ss : Nat} {M : Mth} {F : Option Value → Sto → Prop} {pc npc : Nat} {l : List (Nat × Value)} {st : List Value} {s : Sto} {x y : Int} (hd : decode M.1 pc = .ok (.lrem, 1)) (hn : pc + 1 = npc) (hr : (-9223372036854775808 ≤ x ∧ x < 9223372036854775808) ∧ -9223372036854775808 ≤ y ∧ y < 9223372036854775808) (h0 : ¬ y = 0) (k : Go S M F cs ss npc l (jV (x.tmod y) :: st) s) : Go S M F cs ss pc l (jV y :: jV x :: st) s := by
  subst hn
  intro p lc e u m args below meth c D cA ad H locs ls A Z X hP hS hl
  refine lv_lrem X.1 X.2.1 hd (fun z => h0 ((i64_eq (x := y) (y := 0) ⟨hr.2, by omega, by omega⟩).mp z)) ?_
  rw [i64_rem hr]
  exact k p lc e u m args below meth c D cA ad H locs ls A Z X hP hS hl
theorem g_i2l {S : Shp} {cs ss : Nat} {M : Mth} {F : Option Value → Sto → Prop} {pc npc : Nat} {l : List (Nat × Value)} {st : List Value} {s : Sto} {x : Int} (hd : decode M.1 pc = .ok (.i2l, 1)) (hn : pc + 1 = npc) (hr : -2147483648 ≤ x ∧ x < 2147483648) (k : Go S M F cs ss npc l (jV x :: st) s) : Go S M F cs ss pc l (iV x :: st) s := by
  subst hn
  intro p lc e u m args below meth c D cA ad H locs ls A Z X hP hS hl
  exact lv_i2l X.1 X.2.1 hd (i32_i2l hr) (k p lc e u m args below meth c D cA ad H locs ls A Z X hP hS hl)
theorem g_l2i {S : Shp} {cs ss : Nat} {M : Mth} {F : Option Value → Sto → Prop} {pc npc : Nat} {l : List (Nat × Value)} {st : List Value} {s : Sto} {x : Int} (hd : decode M.1 pc = .ok (.l2i, 1)) (hn : pc + 1 = npc) (k : Go S M F cs ss npc l (iV x :: st) s) : Go S M F cs ss pc l (jV x :: st) s := by
  subst hn
  intro p lc e u m args below meth c D cA ad H locs ls A Z X hP hS hl
  exact lv_l2i X.1 X.2.1 hd (i64_l2i x) (k p lc e u m args below meth c D cA ad H locs ls A Z X hP hS hl)
theorem g_dup {S : Shp} {cs ss : Nat} {M : Mth} {F : Option Value → Sto → Prop} {pc npc : Nat} {l : List (Nat × Value)} {st : List Value} {s : Sto} {v : Value} (hd : decode M.1 pc = .ok (.dup, 1)) (hn : pc + 1 = npc) (hc : v.category = 1) (k : Go S M F cs ss npc l (v :: v :: st) s) : Go S M F cs ss pc l (v :: st) s := by
  subst hn
  intro p lc e u m args below meth c D cA ad H locs ls A Z X hP hS hl
  exact lv_dup X.1 X.2.1 hd (by rw [tv_cat]; exact hc) (k p lc e u m args below meth c D cA ad H locs ls A Z X hP hS hl)
theorem g_pop {S : Shp} {cs ss : Nat} {M : Mth} {F : Option Value → Sto → Prop} {pc npc : Nat} {l : List (Nat × Value)} {st : List Value} {s : Sto} {v : Value} (hd : decode M.1 pc = .ok (.pop, 1)) (hn : pc + 1 = npc) (hc : v.category = 1) (k : Go S M F cs ss npc l (st) s) : Go S M F cs ss pc l (v :: st) s := by
  subst hn
  intro p lc e u m args below meth c D cA ad H locs ls A Z X hP hS hl
  exact lv_pop X.1 X.2.1 hd (by rw [tv_cat]; exact hc) (k p lc e u m args below meth c D cA ad H locs ls A Z X hP hS hl)
theorem g_dup2 {S : Shp} {cs ss : Nat} {M : Mth} {F : Option Value → Sto → Prop} {pc npc : Nat} {l : List (Nat × Value)} {st : List Value} {s : Sto} {v w : Value} (hd : decode M.1 pc = .ok (.dup2, 1)) (hn : pc + 1 = npc) (hc : v.category = 1) (hc2 : w.category = 1) (k : Go S M F cs ss npc l (v :: w :: v :: w :: st) s) : Go S M F cs ss pc l (v :: w :: st) s := by
  subst hn
  intro p lc e u m args below meth c D cA ad H locs ls A Z X hP hS hl
  exact lv_dup2_11 X.1 X.2.1 hd (by rw [tv_cat]; exact hc) (by rw [tv_cat]; exact hc2) (k p lc e u m args below meth c D cA ad H locs ls A Z X hP hS hl)
theorem g_if_eq {S : Shp} {cs ss : Nat} {M : Mth} {F : Option Value → Sto → Prop} {pc npc : Nat} {l : List (Nat × Value)} {st : List Value} {s : Sto} {tgt : Nat} {off : Int} {x : Int} (hd : decode M.1 pc = .ok (.ifCond .eq off, 3)) (hn : pc + 3 = npc) (ht : (pc : Int) + off = (tgt : Int)) (hr : -2147483648 ≤ x ∧ x < 2147483648) (kt : (x = 0) → Go S M F cs ss tgt l st s) (kf : ¬ (x = 0) → Go S M F cs ss npc l st s) : Go S M F cs ss pc l (iV x :: st) s := by
  subst hn
  intro p lc e u m args below meth c D cA ad H locs ls A Z X hP hS hl
  refine lv_if_eq X.1 X.2.1 hd ht (fun q => ?_) (fun q => ?_)
  · exact kt ((i32_eq (y := 0) ⟨hr, by omega, by omega⟩).mp q) p lc e u m args below meth c D cA ad H locs ls A Z X hP hS hl
  · exact kf (fun z => q ((i32_eq (y := 0) ⟨hr, by omega, by omega⟩).mpr z)) p lc e u m args below meth c D cA ad H locs ls A Z X hP hS hl
theorem g_icmp_eq {S : Shp} {cs ss : Nat} {M : Mth} {F : Option Value → Sto → Prop} {pc npc : Nat} {l : List (Nat × Value)} {st : List Value} {s : Sto} {tgt : Nat} {off : Int} {x y : Int} (hd : decode M.1 pc = .ok (.if_icmp .eq off, 3)) (hn : pc + 3 = npc) (ht : (pc : Int) + off = (tgt : Int)) (hr : (-2147483648 ≤ x ∧ x < 2147483648) ∧ -2147483648 ≤ y ∧ y < 2147483648) (kt : (x = y) → Go S M F cs ss tgt l st s) (kf : ¬ (x = y) → Go S M F cs ss npc l st s) : Go S M F cs ss pc l (iV y :: iV x :: st) s := by
  subst hn
  intro p lc e u m args below meth c D cA ad H locs ls A Z X hP hS hl
  refine lv_icmp_eq X.1 X.2.1 hd ht (fun q => ?_) (fun q => ?_)
  · exact kt ((i32_eq hr).mp q) p lc e u m args below meth c D cA ad H locs ls A Z X hP hS hl
  · exact kf (fun z => q ((i32_eq hr).mpr z)) p lc e u m args below meth c D cA ad H locs ls A Z X hP hS hl
theorem g_if_ne {S : Shp} {cs ss : Nat} {M : Mth} {F : Option Value → Sto → Prop} {pc npc : Nat} {l : List (Nat × Value)} {st : List Value} {s : Sto} {tgt : Nat} {off : Int} {x : Int} (hd : decode M.1 pc = .ok (.ifCond .ne off, 3)) (hn : pc + 3 = npc) (ht : (pc : Int) + off = (tgt : Int)) (hr : -2147483648 ≤ x ∧ x < 2147483648) (kt : (¬ x = 0) → Go S M F cs ss tgt l st s) (kf : ¬ (¬ x = 0) → Go S M F cs ss npc l st s) : Go S M F cs ss pc l (iV x :: st) s := by
  subst hn
  intro p lc e u m args below meth c D cA ad H locs ls A Z X hP hS hl
  refine lv_if_ne X.1 X.2.1 hd ht (fun q => ?_) (fun q => ?_)
  · exact kt ((not_congr (i32_eq (y := 0) ⟨hr, by omega, by omega⟩)).mp q) p lc e u m args below meth c D cA ad H locs ls A Z X hP hS hl
  · exact kf (fun z => z ((i32_eq (y := 0) ⟨hr, by omega, by omega⟩).mp q)) p lc e u m args below meth c D cA ad H locs ls A Z X hP hS hl
theorem g_icmp_ne {S : Shp} {cs ss : Nat} {M : Mth} {F : Option Value → Sto → Prop} {pc npc : Nat} {l : List (Nat × Value)} {st : List Value} {s : Sto} {tgt : Nat} {off : Int} {x y : Int} (hd : decode M.1 pc = .ok (.if_icmp .ne off, 3)) (hn : pc + 3 = npc) (ht : (pc : Int) + off = (tgt : Int)) (hr : (-2147483648 ≤ x ∧ x < 2147483648) ∧ -2147483648 ≤ y ∧ y < 2147483648) (kt : (¬ x = y) → Go S M F cs ss tgt l st s) (kf : ¬ (¬ x = y) → Go S M F cs ss npc l st s) : Go S M F cs ss pc l (iV y :: iV x :: st) s := by
  subst hn
  intro p lc e u m args below meth c D cA ad H locs ls A Z X hP hS hl
  refine lv_icmp_ne X.1 X.2.1 hd ht (fun q => ?_) (fun q => ?_)
  · exact kt ((not_congr (i32_eq hr)).mp q) p lc e u m args below meth c D cA ad H locs ls A Z X hP hS hl
  · exact kf (fun z => z ((i32_eq hr).mp q)) p lc e u m args below meth c D cA ad H locs ls A Z X hP hS hl
theorem g_if_lt {S : Shp} {cs ss : Nat} {M : Mth} {F : Option Value → Sto → Prop} {pc npc : Nat} {l : List (Nat × Value)} {st : List Value} {s : Sto} {tgt : Nat} {off : Int} {x : Int} (hd : decode M.1 pc = .ok (.ifCond .lt off, 3)) (hn : pc + 3 = npc) (ht : (pc : Int) + off = (tgt : Int)) (hr : -2147483648 ≤ x ∧ x < 2147483648) (kt : (x < 0) → Go S M F cs ss tgt l st s) (kf : ¬ (x < 0) → Go S M F cs ss npc l st s) : Go S M F cs ss pc l (iV x :: st) s := by
  subst hn
  intro p lc e u m args below meth c D cA ad H locs ls A Z X hP hS hl
  refine lv_if_lt X.1 X.2.1 hd ht (fun q => ?_) (fun q => ?_)
  · exact kt ((i32_lt (y := 0) ⟨hr, by omega, by omega⟩).mp q) p lc e u m args below meth c D cA ad H locs ls A Z X hP hS hl
  · exact kf (fun z => q ((i32_lt (y := 0) ⟨hr, by omega, by omega⟩).mpr z)) p lc e u m args below meth c D cA ad H locs ls A Z X hP hS hl
theorem g_icmp_lt {S : Shp} {cs ss : Nat} {M : Mth} {F : Option Value → Sto → Prop} {pc npc : Nat} {l : List (Nat × Value)} {st : List Value} {s : Sto} {tgt : Nat} {off : Int} {x y : Int} (hd : decode M.1 pc = .ok (.if_icmp .lt off, 3)) (hn : pc + 3 = npc) (ht : (pc : Int) + off = (tgt : Int)) (hr : (-2147483648 ≤ x ∧ x < 2147483648) ∧ -2147483648 ≤ y ∧ y < 2147483648) (kt : (x < y) → Go S M F cs ss tgt l st s) (kf : ¬ (x < y) → Go S M F cs ss npc l st s) : Go S M F cs ss pc l (iV y :: iV x :: st) s := by
  subst hn
  intro p lc e u m args below meth c D cA ad H locs ls A Z X hP hS hl
  refine lv_icmp_lt X.1 X.2.1 hd ht (fun q => ?_) (fun q => ?_)
  · exact kt ((i32_lt hr).mp q) p lc e u m args below meth c D cA ad H locs ls A Z X hP hS hl
  · exact kf (fun z => q ((i32_lt hr).mpr z)) p lc e u m args below meth c D cA ad H locs ls A Z X hP hS hl
theorem g_if_ge {S : Shp} {cs ss : Nat} {M : Mth} {F : Option Value → Sto → Prop} {pc npc : Nat} {l : List (Nat × Value)} {st : List Value} {s : Sto} {tgt : Nat} {off : Int} {x : Int} (hd : decode M.1 pc = .ok (.ifCond .ge off, 3)) (hn : pc + 3 = npc) (ht : (pc : Int) + off = (tgt : Int)) (hr : -2147483648 ≤ x ∧ x < 2147483648) (kt : (0 ≤ x) → Go S M F cs ss tgt l st s) (kf : ¬ (0 ≤ x) → Go S M F cs ss npc l st s) : Go S M F cs ss pc l (iV x :: st) s := by
  subst hn
  intro p lc e u m args below meth c D cA ad H locs ls A Z X hP hS hl
  refine lv_if_ge X.1 X.2.1 hd ht (fun q => ?_) (fun q => ?_)
  · exact kt ((i32_le (x := 0) ⟨⟨by omega, by omega⟩, hr⟩).mp q) p lc e u m args below meth c D cA ad H locs ls A Z X hP hS hl
  · exact kf (fun z => q ((i32_le (x := 0) ⟨⟨by omega, by omega⟩, hr⟩).mpr z)) p lc e u m args below meth c D cA ad H locs ls A Z X hP hS hl
theorem g_icmp_ge {S : Shp} {cs ss : Nat} {M : Mth} {F : Option Value → Sto → Prop} {pc npc : Nat} {l : List (Nat × Value)} {st : List Value} {s : Sto} {tgt : Nat} {off : Int} {x y : Int} (hd : decode M.1 pc = .ok (.if_icmp .ge off, 3)) (hn : pc + 3 = npc) (ht : (pc : Int) + off = (tgt : Int)) (hr : (-2147483648 ≤ x ∧ x < 2147483648) ∧ -2147483648 ≤ y ∧ y < 2147483648) (kt : (y ≤ x) → Go S M F cs ss tgt l st s) (kf : ¬ (y ≤ x) → Go S M F cs ss npc l st s) : Go S M F cs ss pc l (iV y :: iV x :: st) s := by
  subst hn
  intro p lc e u m args below meth c D cA ad H locs ls A Z X hP hS hl
  refine lv_icmp_ge X.1 X.2.1 hd ht (fun q => ?_) (fun q => ?_)
  · exact kt ((i32_le ⟨hr.2, hr.1⟩).mp q) p lc e u m args below meth c D cA ad H locs ls A Z X hP hS hl
  · exact kf (fun z => q ((i32_le ⟨hr.2, hr.1⟩).mpr z)) p lc e u m args below meth c D cA ad H locs ls A Z X hP hS hl
theorem g_if_gt {S : Shp} {cs ss : Nat} {M : Mth} {F : Option Value → Sto → Prop} {pc npc : Nat} {l : List (Nat × Value)} {st : List Value} {s : Sto} {tgt : Nat} {off : Int} {x : Int} (hd : decode M.1 pc = .ok (.ifCond .gt off, 3)) (hn : pc + 3 = npc) (ht : (pc : Int) + off = (tgt : Int)) (hr : -2147483648 ≤ x ∧ x < 2147483648) (kt : (0 < x) → Go S M F cs ss tgt l st s) (kf : ¬ (0 < x) → Go S M F cs ss npc l st s) : Go S M F cs ss pc l (iV x :: st) s := by
  subst hn
  intro p lc e u m args below meth c D cA ad H locs ls A Z X hP hS hl
  refine lv_if_gt X.1 X.2.1 hd ht (fun q => ?_) (fun q => ?_)
  · exact kt ((i32_lt (x := 0) ⟨⟨by omega, by omega⟩, hr⟩).mp q) p lc e u m args below meth c D cA ad H locs ls A Z X hP hS hl
  · exact kf (fun z => q ((i32_lt (x := 0) ⟨⟨by omega, by omega⟩, hr⟩).mpr z)) p lc e u m args below meth c D cA ad H locs ls A Z X hP hS hl
theorem g_icmp_gt {S : Shp} {cs ss : Nat} {M : Mth} {F : Option Value → Sto → Prop} {pc npc : Nat} {l : List (Nat × Value)} {st : List Value} {s : Sto} {tgt : Nat} {off : Int} {x y : Int} (hd : decode M.1 pc = .ok (.if_icmp .gt off, 3)) (hn : pc + 3 = npc) (ht : (pc : Int) + off = (tgt : Int)) (hr : (-2147483648 ≤ x ∧ x < 2147483648) ∧ -2147483648 ≤ y ∧ y < 2147483648) (kt : (y < x) → Go S M F cs ss tgt l st s) (kf : ¬ (y < x) → Go S M F cs ss npc l st s) : Go S M F cs ss pc l (iV y :: iV x :: st) s := by
  subst hn
  intro p lc e u m args below meth c D cA ad H locs ls A Z X hP hS hl
  refine lv_icmp_gt X.1 X.2.1 hd ht (fun q => ?_) (fun q => ?_)
  · exact kt ((i32_lt ⟨hr.2, hr.1⟩).mp q) p lc e u m args below meth c D cA ad H locs ls A Z X hP hS hl
  · exact kf (fun z => q ((i32_lt ⟨hr.2, hr.1⟩).mpr z)) p lc e u m args below meth c D cA ad H locs ls A Z X hP hS hl
theorem g_if_le {S : Shp} {cs ss : Nat} {M : Mth} {F : Option Value → Sto → Prop} {pc npc : Nat} {l : List (Nat × Value)} {st : List Value} {s : Sto} {tgt : Nat} {off : Int} {x : Int} (hd : decode M.1 pc = .ok (.ifCond .le off, 3)) (hn : pc + 3 = npc) (ht : (pc : Int) + off = (tgt : Int)) (hr : -2147483648 ≤ x ∧ x < 2147483648) (kt : (x ≤ 0) → Go S M F cs ss tgt l st s) (kf : ¬ (x ≤ 0) → Go S M F cs ss npc l st s) : Go S M F cs ss pc l (iV x :: st) s := by
  subst hn
  intro p lc e u m args below meth c D cA ad H locs ls A Z X hP hS hl
  refine lv_if_le X.1 X.2.1 hd ht (fun q => ?_) (fun q => ?_)
  · exact kt ((i32_le (y := 0) ⟨hr, by omega, by omega⟩).mp q) p lc e u m args below meth c D cA ad H locs ls A Z X hP hS hl
  · exact kf (fun z => q ((i32_le (y := 0) ⟨hr, by omega, by omega⟩).mpr z)) p lc e u m args below meth c D cA ad H locs ls A Z X hP hS hl
theorem g_icmp_le {S : Shp} {cs ss : Nat} {M : Mth} {F : Option Value → Sto → Prop} {pc npc : Nat} {l : List (Nat × Value)} {st : List Value} {s : Sto} {tgt : Nat} {off : Int} {x y : Int} (hd : decode M.1 pc = .ok (.if_icmp .le off, 3)) (hn : pc + 3 = npc) (ht : (pc : Int) + off = (tgt : Int)) (hr : (-2147483648 ≤ x ∧ x < 2147483648) ∧ -2147483648 ≤ y ∧ y < 2147483648) (kt : (x ≤ y) → Go S M F cs ss tgt l st s) (kf : ¬ (x ≤ y) → Go S M F cs ss npc l st s) : Go S M F cs ss pc l (iV y :: iV x :: st) s := by
  subst hn
  intro p lc e u m args below meth c D cA ad H locs ls A Z X hP hS hl
  refine lv_icmp_le X.1 X.2.1 hd ht (fun q => ?_) (fun q => ?_)
  · exact kt ((i32_le hr).mp q) p lc e u m args below meth c D cA ad H locs ls A Z X hP hS hl
  · exact kf (fun z => q ((i32_le hr).mpr z)) p lc e u m args below meth c D cA ad H locs ls A Z X hP hS hl
theorem g_goto {S : Shp} {cs ss : Nat} {M : Mth} {F : Option Value → Sto → Prop} {pc npc : Nat} {l : List (Nat × Value)} {st : List Value} {s : Sto} {off : Int} (hd : decode M.1 pc = .ok (.goto off, 3)) (ht : (pc : Int) + off = (npc : Int)) (k : Go S M F cs ss npc l st s) : Go S M F cs ss pc l st s := by
  intro p lc e u m args below meth c D cA ad H locs ls A Z X hP hS hl
  exact lv_goto X.1 X.2.1 hd ht (k p lc e u m args below meth c D cA ad H locs ls A Z X hP hS hl)
def lcm (x y : Int) : Int := if y < x then 1 else if x = y then 0 else -1
theorem lg_lcm {x y : Int} (h : (-9223372036854775808 ≤ x ∧ x < 9223372036854775808) ∧ -9223372036854775808 ≤ y ∧ y < 9223372036854775808) : lg_cmp (Int64.ofInt x) (Int64.ofInt y) = Int32.ofInt (lcm x y) := by
  unfold lg_cmp lcm
  have e1 : (Int64.ofInt x > Int64.ofInt y) ↔ y < x := i64_lt ⟨h.2, h.1⟩
  have e2 : (Int64.ofInt x = Int64.ofInt y) ↔ x = y := i64_eq h
  simp only [e1, e2]
  split
  · rfl
  · split <;> rfl
theorem lcm_r (x y : Int) : -2147483648 ≤ lcm x y ∧ lcm x y < 2147483648 := by
  unfold lcm
  split
  · decide
  · split <;> decide
theorem lcm_eq (x y : Int) : lcm x y = 0 ↔ x = y := by unfold lcm; split <;> (try split) <;> omega
theorem lcm_lt (x y : Int) : lcm x y < 0 ↔ x < y := by unfold lcm; split <;> (try split) <;> omega
theorem lcm_ge (x y : Int) : 0 ≤ lcm x y ↔ y ≤ x := by unfold lcm; split <;> (try split) <;> omega
theorem lcm_gt (x y : Int) : 0 < lcm x y ↔ y < x := by unfold lcm; split <;> (try split) <;> omega
theorem lcm_le (x y : Int) : lcm x y ≤ 0 ↔ x ≤ y := by unfold lcm; split <;> (try split) <;> omega
theorem g_lcmp {S : Shp} {cs ss : Nat} {M : Mth} {F : Option Value → Sto → Prop} {pc npc : Nat} {l : List (Nat × Value)} {st : List Value} {s : Sto} {x y : Int} (hd : decode M.1 pc = .ok (.lcmp, 1)) (hn : pc + 1 = npc) (hr : (-9223372036854775808 ≤ x ∧ x < 9223372036854775808) ∧ -9223372036854775808 ≤ y ∧ y < 9223372036854775808) (k : Go S M F cs ss npc l (iV (lcm x y) :: st) s) : Go S M F cs ss pc l (jV y :: jV x :: st) s := by
  subst hn
  intro p lc e u m args below meth c D cA ad H locs ls A Z X hP hS hl
  refine W.lcmp X.1 X.2.1 hd ?_
  rw [lg_lcm hr]
  exact k p lc e u m args below meth c D cA ad H locs ls A Z X hP hS hl
theorem g_leq {S : Shp} {cs ss : Nat} {M : Mth} {F : Option Value → Sto → Prop} {pc npc : Nat} {l : List (Nat × Value)} {st : List Value} {s : Sto} {pc2 : Nat} {tgt : Nat} {off : Int} {x y : Int} (hd : decode M.1 pc = .ok (.lcmp, 1)) (hn2 : pc + 1 = pc2) (hd2 : decode M.1 pc2 = .ok (.ifCond .eq off, 3)) (hn : pc2 + 3 = npc) (ht : (pc2 : Int) + off = (tgt : Int)) (hr : (-9223372036854775808 ≤ x ∧ x < 9223372036854775808) ∧ -9223372036854775808 ≤ y ∧ y < 9223372036854775808) (kt : (x = y) → Go S M F cs ss tgt l st s) (kf : ¬ (x = y) → Go S M F cs ss npc l st s) : Go S M F cs ss pc l (jV y :: jV x :: st) s :=
  g_lcmp hd hn2 hr (g_if_eq hd2 hn ht (lcm_r x y) (fun q => kt ((lcm_eq x y).mp q)) (fun q => kf (fun z => q ((lcm_eq x y).mpr z))))
theorem g_lne {S : Shp} {cs ss : Nat} {M : Mth} {F : Option Value → Sto → Prop} {pc npc : Nat} {l : List (Nat × Value)} {st : List Value} {s : Sto} {pc2 : Nat} {tgt : Nat} {off : Int} {x y : Int} (hd : decode M.1 pc = .ok (.lcmp, 1)) (hn2 : pc + 1 = pc2) (hd2 : decode M.1 pc2 = .ok (.ifCond .ne off, 3)) (hn : pc2 + 3 = npc) (ht : (pc2 : Int) + off = (tgt : Int)) (hr : (-9223372036854775808 ≤ x ∧ x < 9223372036854775808) ∧ -9223372036854775808 ≤ y ∧ y < 9223372036854775808) (kt : (¬ x = y) → Go S M F cs ss tgt l st s) (kf : ¬ (¬ x = y) → Go S M F cs ss npc l st s) : Go S M F cs ss pc l (jV y :: jV x :: st) s :=
  g_lcmp hd hn2 hr (g_if_ne hd2 hn ht (lcm_r x y) (fun q => kt (fun z => q ((lcm_eq x y).mpr z))) (fun q => kf (fun z => q (fun w => z ((lcm_eq x y).mp w)))))
theorem g_llt {S : Shp} {cs ss : Nat} {M : Mth} {F : Option Value → Sto → Prop} {pc npc : Nat} {l : List (Nat × Value)} {st : List Value} {s : Sto} {pc2 : Nat} {tgt : Nat} {off : Int} {x y : Int} (hd : decode M.1 pc = .ok (.lcmp, 1)) (hn2 : pc + 1 = pc2) (hd2 : decode M.1 pc2 = .ok (.ifCond .lt off, 3)) (hn : pc2 + 3 = npc) (ht : (pc2 : Int) + off = (tgt : Int)) (hr : (-9223372036854775808 ≤ x ∧ x < 9223372036854775808) ∧ -9223372036854775808 ≤ y ∧ y < 9223372036854775808) (kt : (x < y) → Go S M F cs ss tgt l st s) (kf : ¬ (x < y) → Go S M F cs ss npc l st s) : Go S M F cs ss pc l (jV y :: jV x :: st) s :=
  g_lcmp hd hn2 hr (g_if_lt hd2 hn ht (lcm_r x y) (fun q => kt ((lcm_lt x y).mp q)) (fun q => kf (fun z => q ((lcm_lt x y).mpr z))))
theorem g_lge {S : Shp} {cs ss : Nat} {M : Mth} {F : Option Value → Sto → Prop} {pc npc : Nat} {l : List (Nat × Value)} {st : List Value} {s : Sto} {pc2 : Nat} {tgt : Nat} {off : Int} {x y : Int} (hd : decode M.1 pc = .ok (.lcmp, 1)) (hn2 : pc + 1 = pc2) (hd2 : decode M.1 pc2 = .ok (.ifCond .ge off, 3)) (hn : pc2 + 3 = npc) (ht : (pc2 : Int) + off = (tgt : Int)) (hr : (-9223372036854775808 ≤ x ∧ x < 9223372036854775808) ∧ -9223372036854775808 ≤ y ∧ y < 9223372036854775808) (kt : (y ≤ x) → Go S M F cs ss tgt l st s) (kf : ¬ (y ≤ x) → Go S M F cs ss npc l st s) : Go S M F cs ss pc l (jV y :: jV x :: st) s :=
  g_lcmp hd hn2 hr (g_if_ge hd2 hn ht (lcm_r x y) (fun q => kt ((lcm_ge x y).mp q)) (fun q => kf (fun z => q ((lcm_ge x y).mpr z))))
theorem g_lgt {S : Shp} {cs ss : Nat} {M : Mth} {F : Option Value → Sto → Prop} {pc npc : Nat} {l : List (Nat × Value)} {st : List Value} {s : Sto} {pc2 : Nat} {tgt : Nat} {off : Int} {x y : Int} (hd : decode M.1 pc = .ok (.lcmp, 1)) (hn2 : pc + 1 = pc2) (hd2 : decode M.1 pc2 = .ok (.ifCond .gt off, 3)) (hn : pc2 + 3 = npc) (ht : (pc2 : Int) + off = (tgt : Int)) (hr : (-9223372036854775808 ≤ x ∧ x < 9223372036854775808) ∧ -9223372036854775808 ≤ y ∧ y < 9223372036854775808) (kt : (y < x) → Go S M F cs ss tgt l st s) (kf : ¬ (y < x) → Go S M F cs ss npc l st s) : Go S M F cs ss pc l (jV y :: jV x :: st) s :=
  g_lcmp hd hn2 hr (g_if_gt hd2 hn ht (lcm_r x y) (fun q => kt ((lcm_gt x y).mp q)) (fun q => kf (fun z => q ((lcm_gt x y).mpr z))))
theorem g_lle {S : Shp} {cs ss : Nat} {M : Mth} {F : Option Value → Sto → Prop} {pc npc : Nat} {l : List (Nat × Value)} {st : List Value} {s : Sto} {pc2 : Nat} {tgt : Nat} {off : Int} {x y : Int} (hd : decode M.1 pc = .ok (.lcmp, 1)) (hn2 : pc + 1 = pc2) (hd2 : decode M.1 pc2 = .ok (.ifCond .le off, 3)) (hn : pc2 + 3 = npc) (ht : (pc2 : Int) + off = (tgt : Int)) (hr : (-9223372036854775808 ≤ x ∧ x < 9223372036854775808) ∧ -9223372036854775808 ≤ y ∧ y < 9223372036854775808) (kt : (x ≤ y) → Go S M F cs ss tgt l st s) (kf : ¬ (x ≤ y) → Go S M F cs ss npc l st s) : Go S M F cs ss pc l (jV y :: jV x :: st) s :=
  g_lcmp hd hn2 hr (g_if_le hd2 hn ht (lcm_r x y) (fun q => kt ((lcm_le x y).mp q)) (fun q => kf (fun z => q ((lcm_le x y).mpr z))))
def ar (S : Shp) (k t n : Nat) : Prop := k < nc S ∧ kd S k = t ∧ ln S k = n ∧ n < 2147483648
theorem wd_iald {S : Shp} {ad : Nat → Nat} {cA : Nat → ClassId} {s : Sto} {k n : Nat} (h : ar S k 1 n) : (wd S ad cA s)[k]? = some (ad k, .inl (cA 1, n, .inl (fun i => Int32.ofInt (s k i)))) := by
  obtain ⟨h1, h2, h3, -⟩ := h
  rw [wd_at h1]
  simp [cE, h2, h3]
theorem g_iald {S : Shp} {cs ss : Nat} {M : Mth} {F : Option Value → Sto → Prop} {pc npc : Nat} {l : List (Nat × Value)} {st : List Value} {s : Sto} {k n : Nat} {i : Int} (hd : decode M.1 pc = .ok (.iaload, 1)) (hn : pc + 1 = npc) (hk : ar S k 1 n) (hi : 0 ≤ i ∧ i < n) (k' : Go S M F cs ss npc l (iV (s k i.toNat) :: st) s) : Go S M F cs ss pc l (iV i :: .ref k :: st) s := by
  subst hn
  intro p lc e u m args below meth c D cA ad H locs ls A Z X hP hS hl
  obtain ⟨a1, a2⟩ := i32_ix hi hk.2.2.2
  refine va_iald X.1 X.2.1 X.2.2.2.2.2.2.2.1 hP k 0 (wd_iald hk) rfl a1 hd ?_
  rw [a2]
  exact k' p lc e u m args below meth c D cA ad H locs ls A Z X hP hS hl
theorem wd_lald {S : Shp} {ad : Nat → Nat} {cA : Nat → ClassId} {s : Sto} {k n : Nat} (h : ar S k 2 n) : (wd S ad cA s)[k]? = some (ad k, .inl (cA 2, n, .inr (.inl (fun i => Int64.ofInt (s k i))))) := by
  obtain ⟨h1, h2, h3, -⟩ := h
  rw [wd_at h1]
  simp [cE, h2, h3]
theorem g_lald {S : Shp} {cs ss : Nat} {M : Mth} {F : Option Value → Sto → Prop} {pc npc : Nat} {l : List (Nat × Value)} {st : List Value} {s : Sto} {k n : Nat} {i : Int} (hd : decode M.1 pc = .ok (.laload, 1)) (hn : pc + 1 = npc) (hk : ar S k 2 n) (hi : 0 ≤ i ∧ i < n) (k' : Go S M F cs ss npc l (jV (s k i.toNat) :: st) s) : Go S M F cs ss pc l (iV i :: .ref k :: st) s := by
  subst hn
  intro p lc e u m args below meth c D cA ad H locs ls A Z X hP hS hl
  obtain ⟨a1, a2⟩ := i32_ix hi hk.2.2.2
  refine va_lald X.1 X.2.1 X.2.2.2.2.2.2.2.1 hP k 1 (wd_lald hk) rfl a1 hd ?_
  rw [a2]
  exact k' p lc e u m args below meth c D cA ad H locs ls A Z X hP hS hl
theorem wd_cald {S : Shp} {ad : Nat → Nat} {cA : Nat → ClassId} {s : Sto} {k n : Nat} (h : ar S k 3 n) : (wd S ad cA s)[k]? = some (ad k, .inl (cA 3, n, .inl (fun i => Int32.ofInt (s k i)))) := by
  obtain ⟨h1, h2, h3, -⟩ := h
  rw [wd_at h1]
  simp [cE, h2, h3]
theorem g_cald {S : Shp} {cs ss : Nat} {M : Mth} {F : Option Value → Sto → Prop} {pc npc : Nat} {l : List (Nat × Value)} {st : List Value} {s : Sto} {k n : Nat} {i : Int} (hd : decode M.1 pc = .ok (.caload, 1)) (hn : pc + 1 = npc) (hk : ar S k 3 n) (hi : 0 ≤ i ∧ i < n) (k' : Go S M F cs ss npc l (iV (s k i.toNat) :: st) s) : Go S M F cs ss pc l (iV i :: .ref k :: st) s := by
  subst hn
  intro p lc e u m args below meth c D cA ad H locs ls A Z X hP hS hl
  obtain ⟨a1, a2⟩ := i32_ix hi hk.2.2.2
  refine va_cald X.1 X.2.1 X.2.2.2.2.2.2.2.1 hP k 2 (wd_cald hk) rfl a1 hd ?_
  rw [a2]
  exact k' p lc e u m args below meth c D cA ad H locs ls A Z X hP hS hl
theorem wd_zald {S : Shp} {ad : Nat → Nat} {cA : Nat → ClassId} {s : Sto} {k n : Nat} (h : ar S k 4 n) : (wd S ad cA s)[k]? = some (ad k, .inl (cA 4, n, .inl (fun i => Int32.ofInt (s k i)))) := by
  obtain ⟨h1, h2, h3, -⟩ := h
  rw [wd_at h1]
  simp [cE, h2, h3]
theorem g_zald {S : Shp} {cs ss : Nat} {M : Mth} {F : Option Value → Sto → Prop} {pc npc : Nat} {l : List (Nat × Value)} {st : List Value} {s : Sto} {k n : Nat} {i : Int} (hd : decode M.1 pc = .ok (.baload, 1)) (hn : pc + 1 = npc) (hk : ar S k 4 n) (hi : 0 ≤ i ∧ i < n) (k' : Go S M F cs ss npc l (iV (s k i.toNat) :: st) s) : Go S M F cs ss pc l (iV i :: .ref k :: st) s := by
  subst hn
  intro p lc e u m args below meth c D cA ad H locs ls A Z X hP hS hl
  obtain ⟨a1, a2⟩ := i32_ix hi hk.2.2.2
  refine va_zald X.1 X.2.1 X.2.2.2.2.2.2.2.1 hP k 3 (wd_zald hk) rfl a1 hd ?_
  rw [a2]
  exact k' p lc e u m args below meth c D cA ad H locs ls A Z X hP hS hl
theorem wd_iset {S : Shp} {ad : Nat → Nat} {cA : Nat → ClassId} {s : Sto} {k n t i : Nat} {x : Int} (h : ar S k t n) (ht : t = 1 ∨ t = 3 ∨ t = 4) : (wd S ad cA s).set k (ad k, .inl (cA t, n, .inl (upd (fun j => Int32.ofInt (s k j)) i (Int32.ofInt x)))) = wd S ad cA (up s k i x) := by
  obtain ⟨h1, h2, h3, -⟩ := h
  refine wd_set h1 ?_ (fun j _ hj => cE_up_ne hj)
  have e : (upd (fun j => Int32.ofInt (s k j)) i (Int32.ofInt x)) = (fun j => Int32.ofInt (up s k i x k j)) := by
    funext j
    by_cases hj : j = i
    · subst hj; simp [upd, up]
    · simp [upd, up, hj]
  rw [e]
  rcases ht with rfl | rfl | rfl <;> simp [cE, h2, h3]
theorem wd_jset {S : Shp} {ad : Nat → Nat} {cA : Nat → ClassId} {s : Sto} {k n i : Nat} {x : Int} (h : ar S k 2 n) : (wd S ad cA s).set k (ad k, .inl (cA 2, n, .inr (.inl (vp_updL (fun j => Int64.ofInt (s k j)) i (Int64.ofInt x))))) = wd S ad cA (up s k i x) := by
  obtain ⟨h1, h2, h3, -⟩ := h
  refine wd_set h1 ?_ (fun j _ hj => cE_up_ne hj)
  have e : (vp_updL (fun j => Int64.ofInt (s k j)) i (Int64.ofInt x)) = (fun j => Int64.ofInt (up s k i x k j)) := by
    funext j
    by_cases hj : j = i
    · subst hj; simp [vp_updL, up]
    · simp [vp_updL, up, hj]
  rw [e]
  simp [cE, h2, h3]
theorem wd_D2 {S : Shp} {M : Mth} {F : Option Value → Sto → Prop} {p : Program} {lc : Launch} {e : Env} {u : State} {m : MethodId} {args : Array Value} {below : List Frame} {meth : Method} {c : Code} {D : va_G} {cA : Nat → ClassId} {ad : Nat → Nat} {A : Nat → Prop} {Z : State → Prop} {s : Sto} (X : Cx S M F p lc e u m args below meth c D cA ad A Z) : va_D A (wd S ad cA s) := by
  have h := wd_D (S := S) (ad := ad) (cA := cA) (s := s) X.2.2.2.2.2.2.2.2.1
  refine ⟨h.1, fun k q hk => ?_⟩
  obtain ⟨h1, rfl⟩ := wd_get hk
  exact X.2.2.2.2.2.2.2.2.2.2.2.1 k h1
theorem g_iast {S : Shp} {cs ss : Nat} {M : Mth} {F : Option Value → Sto → Prop} {pc npc : Nat} {l : List (Nat × Value)} {st : List Value} {s : Sto} {k n : Nat} {i x : Int} (hd : decode M.1 pc = .ok (.iastore, 1)) (hn : pc + 1 = npc) (hk : ar S k 1 n) (hi : 0 ≤ i ∧ i < n) (k' : Go S M F cs ss npc l st (up s k i.toNat x)) : Go S M F cs ss pc l (iV x :: iV i :: .ref k :: st) s := by
  subst hn
  intro p lc e u m args below meth c D cA ad H locs ls A Z X hP hS hl
  obtain ⟨a1, a2⟩ := i32_ix hi hk.2.2.2
  refine va_iast X.1 X.2.1 X.2.2.2.2.2.2.2.1 hP (wd_D2 X) hS k 0 (wd_iald hk) rfl a1 hd (fun H1 locs1 hP1 hD1 hS1 => ?_)
  rw [a2, wd_iset hk (Or.inl rfl)] at hP1
  exact k' p lc e u m args below meth c D cA ad H1 locs1 ls A Z X hP1 hS1 hl
theorem g_last {S : Shp} {cs ss : Nat} {M : Mth} {F : Option Value → Sto → Prop} {pc npc : Nat} {l : List (Nat × Value)} {st : List Value} {s : Sto} {k n : Nat} {i x : Int} (hd : decode M.1 pc = .ok (.lastore, 1)) (hn : pc + 1 = npc) (hk : ar S k 2 n) (hi : 0 ≤ i ∧ i < n) (k' : Go S M F cs ss npc l st (up s k i.toNat x)) : Go S M F cs ss pc l (jV x :: iV i :: .ref k :: st) s := by
  subst hn
  intro p lc e u m args below meth c D cA ad H locs ls A Z X hP hS hl
  obtain ⟨a1, a2⟩ := i32_ix hi hk.2.2.2
  refine va_last X.1 X.2.1 X.2.2.2.2.2.2.2.1 hP (wd_D2 X) hS k 1 (wd_lald hk) rfl a1 hd (fun H1 locs1 hP1 hD1 hS1 => ?_)
  rw [a2, wd_jset hk] at hP1
  exact k' p lc e u m args below meth c D cA ad H1 locs1 ls A Z X hP1 hS1 hl
theorem g_cast {S : Shp} {cs ss : Nat} {M : Mth} {F : Option Value → Sto → Prop} {pc npc : Nat} {l : List (Nat × Value)} {st : List Value} {s : Sto} {k n : Nat} {i x : Int} (hd : decode M.1 pc = .ok (.castore, 1)) (hn : pc + 1 = npc) (hk : ar S k 3 n) (hi : 0 ≤ i ∧ i < n) (hx : vp_nar .char (Int32.ofInt x) = Int32.ofInt x) (k' : Go S M F cs ss npc l st (up s k i.toNat x)) : Go S M F cs ss pc l (iV x :: iV i :: .ref k :: st) s := by
  subst hn
  intro p lc e u m args below meth c D cA ad H locs ls A Z X hP hS hl
  obtain ⟨a1, a2⟩ := i32_ix hi hk.2.2.2
  refine va_cast X.1 X.2.1 X.2.2.2.2.2.2.2.1 hP (wd_D2 X) hS k 2 (wd_cald hk) rfl a1 hd (fun H1 locs1 hP1 hD1 hS1 => ?_)
  rw [a2, hx, wd_iset hk (Or.inr (Or.inl rfl))] at hP1
  exact k' p lc e u m args below meth c D cA ad H1 locs1 ls A Z X hP1 hS1 hl
theorem g_zast {S : Shp} {cs ss : Nat} {M : Mth} {F : Option Value → Sto → Prop} {pc npc : Nat} {l : List (Nat × Value)} {st : List Value} {s : Sto} {k n : Nat} {i x : Int} (hd : decode M.1 pc = .ok (.bastore, 1)) (hn : pc + 1 = npc) (hk : ar S k 4 n) (hi : 0 ≤ i ∧ i < n) (hx : vp_nar .boolean (Int32.ofInt x) = Int32.ofInt x) (k' : Go S M F cs ss npc l st (up s k i.toNat x)) : Go S M F cs ss pc l (iV x :: iV i :: .ref k :: st) s := by
  subst hn
  intro p lc e u m args below meth c D cA ad H locs ls A Z X hP hS hl
  obtain ⟨a1, a2⟩ := i32_ix hi hk.2.2.2
  refine va_zast X.1 X.2.1 X.2.2.2.2.2.2.2.1 hP (wd_D2 X) hS k 3 (wd_zald hk) rfl a1 hd (fun H1 locs1 hP1 hD1 hS1 => ?_)
  rw [a2, hx, wd_iset hk (Or.inr (Or.inr rfl))] at hP1
  exact k' p lc e u m args below meth c D cA ad H1 locs1 ls A Z X hP1 hS1 hl
theorem g_aald5 {S : Shp} {cs ss : Nat} {M : Mth} {F : Option Value → Sto → Prop} {pc npc : Nat} {l : List (Nat × Value)} {st : List Value} {s : Sto} {k n b : Nat} {i : Int} (hd : decode M.1 pc = .ok (.aaload, 1)) (hn : pc + 1 = npc) (hk : ar S k 5 n) (hi : 0 ≤ i ∧ i < n) (hb : fr S k i.toNat = some (b + i.toNat)) (k' : Go S M F cs ss npc l (.ref (b + i.toNat) :: st) s) : Go S M F cs ss pc l (iV i :: .ref k :: st) s := by
  subst hn
  intro p lc e u m args below meth c D cA ad H locs ls A Z X hP hS hl
  obtain ⟨a1, a2⟩ := i32_ix hi hk.2.2.2
  have ha : (wd S ad cA s)[k]? = some (ad k, .inl (cA 5, n, .inr (.inr (.inr (.inr (fun i => (fr S k i).map ad)))))) := by
    rw [wd_at hk.1]
    simp [cE, hk.2.1, hk.2.2.1]
  have hlt : (Int32.ofInt i).toNatClampNeg < n := Nat.not_le.mp fun q => a1 (Or.inr q)
  refine W.aald (v := .ref (ad (b + i.toNat))) (ty := .array .int) X.1 X.2.1 (hP k _ ha) ((X.2.2.2.2.2.2.2.1.2 4 _ rfl).1 n (fun j => va_rf ((fr S k j).map ad))) rfl (fun q => by cases q) (by show ¬ (_ < 0 ∨ (arrV _ _ _).slots.size ≤ _); rw [arrV_size]; exact a1) ?_ rfl rfl hd (k' p lc e u m args below meth c D cA ad H locs ls A Z X hP hS hl)
  show (arrV _ _ _).slots[_]? = _
  rw [arrV_read _ _ hlt, a2]
  show some (va_rf ((fr S k i.toNat).map ad)) = _
  rw [hb]
  rfl
theorem g_aald6 {S : Shp} {cs ss : Nat} {M : Mth} {F : Option Value → Sto → Prop} {pc npc : Nat} {l : List (Nat × Value)} {st : List Value} {s : Sto} {k n b : Nat} {i : Int} (hd : decode M.1 pc = .ok (.aaload, 1)) (hn : pc + 1 = npc) (hk : ar S k 6 n) (hi : 0 ≤ i ∧ i < n) (hb : fr S k i.toNat = some (b + i.toNat)) (k' : Go S M F cs ss npc l (.ref (b + i.toNat) :: st) s) : Go S M F cs ss pc l (iV i :: .ref k :: st) s := by
  subst hn
  intro p lc e u m args below meth c D cA ad H locs ls A Z X hP hS hl
  obtain ⟨a1, a2⟩ := i32_ix hi hk.2.2.2
  have ha : (wd S ad cA s)[k]? = some (ad k, .inl (cA 6, n, .inr (.inr (.inr (.inr (fun i => (fr S k i).map ad)))))) := by
    rw [wd_at hk.1]
    simp [cE, hk.2.1, hk.2.2.1]
  have hlt : (Int32.ofInt i).toNatClampNeg < n := Nat.not_le.mp fun q => a1 (Or.inr q)
  refine W.aald (v := .ref (ad (b + i.toNat))) (ty := .array .long) X.1 X.2.1 (hP k _ ha) ((X.2.2.2.2.2.2.2.1.2 5 _ rfl).1 n (fun j => va_rf ((fr S k j).map ad))) rfl (fun q => by cases q) (by show ¬ (_ < 0 ∨ (arrV _ _ _).slots.size ≤ _); rw [arrV_size]; exact a1) ?_ rfl rfl hd (k' p lc e u m args below meth c D cA ad H locs ls A Z X hP hS hl)
  show (arrV _ _ _).slots[_]? = _
  rw [arrV_read _ _ hlt, a2]
  show some (va_rf ((fr S k i.toNat).map ad)) = _
  rw [hb]
  rfl
theorem g_alen {S : Shp} {cs ss : Nat} {M : Mth} {F : Option Value → Sto → Prop} {pc npc : Nat} {l : List (Nat × Value)} {st : List Value} {s : Sto} {k n t : Nat} (hd : decode M.1 pc = .ok (.arraylength, 1)) (hn : pc + 1 = npc) (hk : ar S k t n) (ht : t = 1 ∨ t = 2 ∨ t = 3) (k' : Go S M F cs ss npc l (iV (n : Int) :: st) s) : Go S M F cs ss pc l (.ref k :: st) s := by
  subst hn
  intro p lc e0 u m args below meth c D cA ad H locs ls A Z X hP hS hl
  have e : Int32.ofNat n = Int32.ofInt (n : Int) := (Int32.ofInt_eq_ofNat (n := n)).symm
  rcases ht with rfl | rfl | rfl
  · exact va_alen (ty := .int) X.1 X.2.1 X.2.2.2.2.2.2.2.1 hP k 0 (wd_iald hk) rfl e hd (k' p lc e0 u m args below meth c D cA ad H locs ls A Z X hP hS hl)
  · exact va_alen (ty := .long) X.1 X.2.1 X.2.2.2.2.2.2.2.1 hP k 1 (wd_lald hk) rfl e hd (k' p lc e0 u m args below meth c D cA ad H locs ls A Z X hP hS hl)
  · exact va_alen (ty := .char) X.1 X.2.1 X.2.2.2.2.2.2.2.1 hP k 2 (wd_cald hk) rfl e hd (k' p lc e0 u m args below meth c D cA ad H locs ls A Z X hP hS hl)
theorem g_get {S : Shp} {cs ss : Nat} {M : Mth} {F : Option Value → Sto → Prop} {pc npc : Nat} {l : List (Nat × Value)} {st : List Value} {s : Sto} {C : String} {T : u_T} {N idx f k : Nat} {v : Value} (hd : decode M.1 pc = .ok (.getfield idx, 3)) (hn : pc + 3 = npc) (hk : k < nc S ∧ kd S k = 0 ∧ ln S k = N) (hcl : vwCl[ci S k]? = some (C, T, N)) (hws : ∀ w ∈ u_ws C T N, w ∈ TW) (hf : f < N) (hlink : Cond.fieldLink M.2.1 idx C (T f).2.1 (T f).2.2.1 ∈ TW) (hC : (T f).1 = C) (hv : fr S k f = none ∧ v = iV (s k f) ∨ ∃ j, fr S k f = some j ∧ v = .ref j) (k' : Go S M F cs ss npc l (v :: st) s) : Go S M F cs ss pc l (.ref k :: st) s := by
  subst hn
  intro p lc e u m args below meth c D cA ad H locs ls A Z X hP hS hl
  have ha : (wd S ad cA s)[k]? = some (ad k, .inr (ci S k, (List.range N).map (fV S ad s k))) := by
    rw [wd_at hk.1]
    simp [cE, hk.2.1, hk.2.2]
  refine va_get X.1 X.2.1 (X.2.2.2.2.2.1) hws X.2.2.2.2.1 X.2.2.2.2.2.2.2.1 hP k ha hcl f hf (X.2.2.2.2.2.1 _ hlink) (fun x hx => by rw [hC] at hx; exact hx) (v := tv ad v) ?_ hd (k' p lc e u m args below meth c D cA ad H locs ls A Z X hP hS hl)
  simp only [List.getElem?_map, List.getElem?_range hf, Option.map_some]
  rcases hv with ⟨h1, rfl⟩ | ⟨j, h1, rfl⟩
  · simp [fV, h1, iV, tv]
  · simp [fV, h1, tv]
theorem g_put {S : Shp} {cs ss : Nat} {M : Mth} {F : Option Value → Sto → Prop} {pc npc : Nat} {l : List (Nat × Value)} {st : List Value} {s : Sto} {C : String} {T : u_T} {N idx f k : Nat} {x : Int} (ty0 : Nat → FieldType) (hd : decode M.1 pc = .ok (.putfield idx, 3)) (hn : pc + 3 = npc) (hk : k < nc S ∧ kd S k = 0 ∧ ln S k = N) (hcl : vwCl[ci S k]? = some (C, T, N)) (hws : ∀ w ∈ u_ws C T N, w ∈ TW) (hty : ∀ k, k < N → parseFieldDescriptor (T k).2.2.1 = some (ty0 k)) (hnm : ∀ a, a < N → ∀ b, b < N → a ≠ b → (T a).2.1 ≠ (T b).2.1) (hf : f < N) (hlink : Cond.fieldLink M.2.1 idx C (T f).2.1 (T f).2.2.1 ∈ TW) (hC : (T f).1 = C) (hfin : (T f).2.2.2 = false) (hr : fr S k f = none) (hx : narrow (ty0 f) (iV x) = iV x ∧ fits (ty0 f) (iV x) = true) (k' : Go S M F cs ss npc l st (up s k f x)) : Go S M F cs ss pc l (iV x :: .ref k :: st) s := by
  subst hn
  intro p lc e9 u m args below meth c D cA ad H locs ls A Z X hP hS hl
  have ha : (wd S ad cA s)[k]? = some (ad k, .inr (ci S k, (List.range N).map (fV S ad s k))) := by
    rw [wd_at hk.1]
    simp [cE, hk.2.1, hk.2.2]
  refine va_put X.1 X.2.1 (X.2.2.2.2.2.1) hws ty0 hty hnm X.2.2.2.2.1 X.2.2.2.2.2.2.2.1 hP (wd_D2 X) hS k ha hcl f hf (X.2.2.2.2.2.1 _ hlink) (fun x hx => by rw [hC] at hx; exact hx) hfin (hty f hf) hx.1 hx.2 (by simpa using hf) hd (fun H1 locs1 hP1 hD1 hS1 => ?_)
  have e : (wd S ad cA s).set k (ad k, .inr (ci S k, ((List.range N).map (fV S ad s k)).set f (iV x))) = wd S ad cA (up s k f x) := by
    refine wd_set hk.1 ?_ (fun j _ hj => cE_up_ne hj)
    have e2 : ((List.range N).map (fV S ad s k)).set f (iV x) = (List.range N).map (fV S ad (up s k f x) k) := by
      apply List.ext_getElem?
      intro j
      by_cases hj : j = f
      · subst hj
        rw [List.getElem?_set_self (by simpa using hf)]
        simp [hf, fV, hr, up, iV]
      · rw [List.getElem?_set_ne (Ne.symm hj)]
        by_cases hl : j < N
        · simp only [List.getElem?_map, List.getElem?_range hl, Option.map_some]
          congr 1
          unfold fV
          cases fr S k j with
          | some _ => rfl
          | none => simp [up, hj]
        · simp [hl]
    rw [e2]
    simp [cE, hk.2.1, hk.2.2]
  have hP2 : va_P D vwCl ((wd S ad cA s).set k (ad k, .inr (ci S k, ((List.range N).map (fV S ad s k)).set f (iV x)))) H1 := hP1
  rw [e] at hP2
  exact k' p lc e9 u m args below meth c D cA ad H1 locs1 ls A Z X hP2 hS1 hl
theorem g_iret {S : Shp} {cs ss : Nat} {M : Mth} {F : Option Value → Sto → Prop} {pc : Nat} {l : List (Nat × Value)} {s : Sto} {x : Int} {ty : FieldType} (hd : decode M.1 pc = .ok (.ireturn, 1)) (hr : M.2.2.2.1 = some ty) (hx : narrow ty (iV x) = iV x) (hc : cs ≤ M.2.2.2.2.cells ∧ ss ≤ M.2.2.2.2.slots) (h : F (some (iV x)) s) : Go S M F cs ss pc l [iV x] s := by
  intro p lc e u m args below meth c D cA ad H locs ls A Z X hP hS hl
  exact X.2.2.2.2.2.2.2.2.2.2.2.2.2 H locs ls pc cs ss (some (iV x)) s h hP hS (Or.inr (Or.inl ⟨x, ty, rfl, hd, hr, hx⟩)) hc
theorem g_lret {S : Shp} {cs ss : Nat} {M : Mth} {F : Option Value → Sto → Prop} {pc : Nat} {l : List (Nat × Value)} {s : Sto} {x : Int} (hd : decode M.1 pc = .ok (.lreturn, 1)) (hr : M.2.2.2.1 = some .long) (hc : cs ≤ M.2.2.2.2.cells ∧ ss ≤ M.2.2.2.2.slots) (h : F (some (jV x)) s) : Go S M F cs ss pc l [jV x] s := by
  intro p lc e u m args below meth c D cA ad H locs ls A Z X hP hS hl
  exact X.2.2.2.2.2.2.2.2.2.2.2.2.2 H locs ls pc cs ss (some (jV x)) s h hP hS (Or.inr (Or.inr ⟨x, rfl, hd, hr⟩)) hc
theorem g_ret {S : Shp} {cs ss : Nat} {M : Mth} {F : Option Value → Sto → Prop} {pc : Nat} {l : List (Nat × Value)} {s : Sto} (hd : decode M.1 pc = .ok (.return_, 1)) (hr : M.2.2.2.1 = none) (hc : cs ≤ M.2.2.2.2.cells ∧ ss ≤ M.2.2.2.2.slots) (h : F none s) : Go S M F cs ss pc l [] s := by
  intro p lc e u m args below meth c D cA ad H locs ls A Z X hP hS hl
  exact X.2.2.2.2.2.2.2.2.2.2.2.2.2 H locs ls pc cs ss none s h hP hS (Or.inl ⟨rfl, hd, hr⟩) hc
theorem fb_pc {S : Shp} {D : va_G} {cA : Nat → ClassId} {ad : Nat → Nat} {av : List Value} {s : Sto} {b : Nat} : FrameBlind (va_Pc av (PcB S D cA ad b s)) := by
  intro a U g mk q
  obtain ⟨q1, q2, q3, q4, q5, q6, q7⟩ := q
  exact ⟨q1, q2, va_K.moved (u := U) (U := U.calling g mk a) (Vm.Alike.refl U.vm) q3, q4, NW.same rfl q5, XS.same (u := U) (U := U.calling g mk a) rfl q6, q7⟩
theorem pc_of {S : Shp} {M : Mth} {F : Option Value → Sto → Prop} {p : Program} {lc : Launch} {e : Env} {u : State} {m : MethodId} {args : Array Value} {below : List Frame} {meth : Method} {c : Code} {D : va_G} {cA : Nat → ClassId} {ad : Nat → Nat} {A : Nat → Prop} {Z : State → Prop} {H : Heap} {locs : List Loc} {s : Sto} {av : List Value} (X : Cx S M F p lc e u m args below meth c D cA ad A Z) (hP : va_P D vwCl (wd S ad cA s) H) (hS : va_S A u.heap H locs) :
    ∀ U : State, U.heap = H → u.WarmedH U.vm → va_Pc av (PcB S D cA ad H.size s) av.toArray U := by
  intro U hU hW
  obtain ⟨-, -, -, -, -, -, -, hK, hDJ, hN, hX, hA, hA2, -⟩ := X
  have hX1 := hX
  obtain ⟨L, xs, -, -, hb, -⟩ := hX1
  refine ⟨rfl, by rw [hU]; exact hP, va_K.moved hW.alike hK, hDJ, hN.warm hW, ?_, by rw [hU]⟩
  rw [hU]
  refine hX.tr hW hS.1 (fun a h1 h2 => hS.2.1 a h1 h2) (fun q => ?_)
  rcases q with ⟨k, hk, e⟩ | q
  · rw [e]; exact hA k hk
  · exact absurd (Nat.lt_of_lt_of_le hb hS.1) (by omega)
theorem g_run {S : Shp} {cs ss : Nat} {M : Mth} {F : Option Value → Sto → Prop} {pc : Nat} {l : List (Nat × Value)} {st0 : List Value} (st : List Value) {G : Option Value → Sto → Prop} {p : Program} {lc : Launch} {e : Env} {u : State} {m : MethodId} {args : Array Value} {below : List Frame} {meth : Method} {c : Code} {D : va_G} {cA : Nat → ClassId} {ad : Nat → Nat} {A : Nat → Prop} {Z : State → Prop} {H : Heap} {locs : List Loc} {ls : Array Slot} {a : Array Value} {mc ms : Nat}
    (hr : va_Run p lc e M.2.2.2.2 u m args below meth c H locs cs ss mc ms (F0 m pc ls st0) (ts ad st) (QQ S D cA ad H.size G a) (fun q => AW S ad q ∨ H.size ≤ q)) (X : Cx S M F p lc e u m args below meth c D cA ad A Z) (hS : va_S A u.heap H locs) (hl : lv_has ls M.2.2.1 (tl ad l)) (k : ∀ r s', G r s' → Go S M F (cs + mc) (ss + ms) (pc + 3) l (r.toList ++ st) s') :
    W p lc e M.2.2.2.2 u m args below meth c H locs cs ss Z (F0 m pc ls st0) := by
  intro T hT Y
  obtain ⟨v, st₀, t, T', L, h0, X', hL, e1, e2, ⟨⟨r, s', hv, hp, hb⟩, hz, hk⟩, stp⟩ := hr T hT Y
  have hv' : v = r.map (tv ad) := Outcome.returned.inj hv
  subst hv'
  rw [h0] at hz hk
  have hAA : ∀ q, (AW S ad q ∨ H.size ≤ q) → A q := fun q hq => by
    rcases hq with ⟨k, hk, e⟩ | hq
    · rw [e]; exact X.2.2.2.2.2.2.2.2.2.2.2.1 k hk
    · exact X.2.2.2.2.2.2.2.2.2.2.2.2.1 q (Nat.le_trans hS.1 hq)
  have hP' : va_P D vwCl (wd S ad cA s') T'.heap := by rw [e1]; exact hb
  have hS' : va_S A u.heap T'.heap (locs ++ L) := ⟨Nat.le_trans hS.1 (by rw [e1]; exact hz), fun q h1 h2 => by rw [e1, hk q (Nat.lt_of_lt_of_le h1 hS.1) (fun h => h2 (hAA q h))]; exact hS.2.1 q h1 h2, fun q hq => by
    rcases List.mem_append.mp hq with h | h
    · exact hS.2.2 q h
    · exact hAA _ (hL q h)⟩
  obtain ⟨t2, a1, b1⟩ := k r s' hp p lc e u m args below meth c D cA ad T'.heap (locs ++ L) ls A Z X hP' hS' hl T' rfl X'
  refine ⟨t2, stp t2 ?_, b1⟩
  have es : ts ad (r.toList ++ st) = (r.map (tv ad)).toList ++ ts ad st := by cases r <;> simp [ts]
  rw [es] at a1
  exact a1
def okV (M : Mth) (idx : Nat) (C : String) (y : MethodName) (cy : ByteArray) (maxL : Nat) (ret : Option FieldType) (n : Nat) : Prop :=
  (Cond.methodLink M.2.1 idx y ∈ TW ∧ Cond.instanceMethod y ∈ TW ∧ Cond.selects C y y ∈ TW ∧ Cond.initialized C ∈ TW ∧ Cond.code y cy maxL ret ∈ TW) ∧ y.cls = C ∧ y.cls ≠ "java/lang/invoke/MethodHandle" ∧ y.cls ≠ "java/lang/invoke/VarHandle" ∧ (parseMethodDescriptor y.desc).map (fun d => d.parameters.length) = some n
theorem g_callV {S : Shp} {cs ss : Nat} {M : Mth} {F : Option Value → Sto → Prop} {pc npc : Nat} {l : List (Nat × Value)} {st0 st : List Value} {s : Sto} {G : Option Value → Sto → Prop} {C : String} {y : MethodName} {cy : ByteArray} {maxL idx k n : Nat} {ret : Option FieldType} {R2 : Room} {as : List Value} {q : vw_C}
    (hd : decode M.1 pc = .ok (.invokevirtual idx, 3)) (hn : pc + 3 = npc) (hst : st0 = as.reverse ++ .ref k :: st) (hk : k < nc S ∧ kd S k = 0) (hcl : vwCl[ci S k]? = some q) (hq : q.1 = C) (hw : okV M idx C y cy maxL ret n) (hlen : as.length = n) (hcat : (st.map (fun v => v.category)).sum ≤ 8) (hR0 : cs + R2.cells ≤ M.2.2.2.2.cells ∧ ss + R2.slots ≤ M.2.2.2.2.slots) (hR : R2.frames + 1 ≤ M.2.2.2.2.frames ∧ 8 + (maxL + 11) + R2.locals ≤ M.2.2.2.2.locals)
    (hS9 : Sp S y (Cond.code y cy maxL ret) R2 (.ref k :: as) s G) (k' : ∀ r s', G r s' → Go S M F (cs + R2.cells) (ss + R2.slots) npc l (r.toList ++ st) s') : Go S M F cs ss pc l st0 s := by
  subst hn hst hq
  intro p lc e u m args below meth c D cA ad H locs ls A Z X hP hS hl
  obtain ⟨⟨w1, w2, w3, w4, w5⟩, w6, w7, w8, w9⟩ := hw
  have X' := X
  obtain ⟨hx, hb, hret, hml, hown, hts, hlk, hK, hDJ, hN, -⟩ := X
  have hG : GoodIn TW (wsV M.2.1 idx q.1 y (Cond.code y cy maxL ret :: TW)) := fun w hw => by
    have : w ∈ TW := by
      rcases List.mem_append.mp hw with h | h
      · simp only [List.mem_cons, List.not_mem_nil, or_false] at h
        rcases h with rfl | rfl | rfl | rfl <;> assumption
      · rcases List.mem_cons.mp h with rfl | h
        · exact w5
        · exact h
    exact ⟨this, good_of_word (List.mem_filter.mp this).2⟩
  have ha : (wd S ad cA s)[k]? = some (ad k, .inr (ci S k, (List.range (ln S k)).map (fV S ad s k))) := by
    rw [wd_at hk.1]
    simp [cE, hk.2]
  have hrev : ts ad (as.reverse ++ .ref k :: st) = (ts ad as).reverse ++ .ref (ad k) :: ts ad st := by simp [ts, tv]
  rw [hrev]
  refine g_run st (va_runV (As := ts ad as) (rest := ts ad st) ⟨hx, hb, hml, hown, hts⟩ (hS9 lc D cA ad H.size) (cwV n hts hG rfl rfl rfl ⟨w6, w7, w8, w9⟩ hR) ⟨fb_pc, va_recv hK hP hcl ha, ?_⟩ rfl (by simp [ts, hlen]) hl.1 rfl (lv_room (by rw [ts_cat]; exact hcat)) hd hR0) X' hS hl k'
  exact pc_of X' hP hS
def okS (M : Mth) (idx : Nat) (y : MethodName) (cy : ByteArray) (maxL : Nat) (ret : Option FieldType) (n : Nat) : Prop :=
  (Cond.methodLink M.2.1 idx y ∈ TW ∧ Cond.static y ∈ TW ∧ Cond.initialized y.cls ∈ TW ∧ Cond.code y cy maxL ret ∈ TW) ∧ y.cls ≠ "java/lang/invoke/MethodHandle" ∧ y.cls ≠ "java/lang/invoke/VarHandle" ∧ (parseMethodDescriptor y.desc).map (fun d => d.parameters.length) = some n
theorem g_callS {S : Shp} {cs ss : Nat} {M : Mth} {F : Option Value → Sto → Prop} {pc npc : Nat} {l : List (Nat × Value)} {st0 st : List Value} {s : Sto} {G : Option Value → Sto → Prop} {y : MethodName} {cy : ByteArray} {maxL idx n : Nat} {ret : Option FieldType} {R2 : Room} {as : List Value}
    (hd : decode M.1 pc = .ok (.invokestatic idx, 3)) (hn : pc + 3 = npc) (hst : st0 = as.reverse ++ st) (hw : okS M idx y cy maxL ret n) (hlen : as.length = n) (hcat : (st.map (fun v => v.category)).sum ≤ 8) (hR0 : cs + R2.cells ≤ M.2.2.2.2.cells ∧ ss + R2.slots ≤ M.2.2.2.2.slots) (hR : R2.frames + 1 ≤ M.2.2.2.2.frames ∧ 8 + (maxL + 11) + R2.locals ≤ M.2.2.2.2.locals)
    (hS9 : Sp S y (Cond.code y cy maxL ret) R2 as s G) (k' : ∀ r s', G r s' → Go S M F (cs + R2.cells) (ss + R2.slots) npc l (r.toList ++ st) s') : Go S M F cs ss pc l st0 s := by
  subst hn hst
  intro p lc e u m args below meth c D cA ad H locs ls A Z X hP hS hl
  obtain ⟨⟨w1, w2, w4, w5⟩, w7, w8, w9⟩ := hw
  have X' := X
  obtain ⟨hx, hb, hret, hml, hown, hts, hlk, hK, hDJ, hN, -⟩ := X
  have hG : GoodIn TW (Cond.code y cy maxL ret :: TW) := fun w hw => by
    have : w ∈ TW := by
      rcases List.mem_cons.mp hw with rfl | h
      · exact w5
      · exact h
    exact ⟨this, good_of_word (List.mem_filter.mp this).2⟩
  have hrev : ts ad (as.reverse ++ st) = (ts ad as).reverse ++ ts ad st := by simp [ts]
  rw [hrev]
  refine g_run st (va_runS (As := ts ad as) (rest := ts ad st) ⟨hx, hb, hml, hown, hts⟩ (hS9 lc D cA ad H.size) ⟨callB_of n hts hG rfl rfl rfl (hts _ w4) (hts _ w1) ⟨w7, w8, w9⟩ hR, hts _ w2⟩ ⟨fb_pc, ?_⟩ rfl (by simp [ts, hlen]) hl.1 rfl (lv_room (by rw [ts_cat]; exact hcat)) hd hR0) X' hS hl k'
  exact pc_of X' hP hS
/-- a private static method of the host, called by a nest mate -/
def okN (M : Mth) (idx : Nat) (y : MethodName) (cy : ByteArray) (maxL : Nat) (ret : Option FieldType) (n : Nat) : Prop :=
  ((M.2.1, idx, y, "ChipGame") ∈ nestM ∧ Cond.static y ∈ TW ∧ Cond.initialized y.cls ∈ TW ∧ Cond.code y cy maxL ret ∈ TW) ∧ y.cls ≠ "java/lang/invoke/MethodHandle" ∧ y.cls ≠ "java/lang/invoke/VarHandle" ∧ (parseMethodDescriptor y.desc).map (fun d => d.parameters.length) = some n
theorem g_callN {S : Shp} {cs ss : Nat} {M : Mth} {F : Option Value → Sto → Prop} {pc npc : Nat} {l : List (Nat × Value)} {st0 st : List Value} {s : Sto} {G : Option Value → Sto → Prop} {y : MethodName} {cy : ByteArray} {maxL idx n : Nat} {ret : Option FieldType} {R2 : Room} {as : List Value}
    (hd : decode M.1 pc = .ok (.invokestatic idx, 3)) (hn : pc + 3 = npc) (hst : st0 = as.reverse ++ st) (hw : okN M idx y cy maxL ret n) (hlen : as.length = n) (hcat : (st.map (fun v => v.category)).sum ≤ 8) (hR0 : cs + R2.cells ≤ M.2.2.2.2.cells ∧ ss + R2.slots ≤ M.2.2.2.2.slots) (hR : R2.frames + 1 ≤ M.2.2.2.2.frames ∧ 8 + (maxL + 11) + R2.locals ≤ M.2.2.2.2.locals)
    (hS9 : Sp S y (Cond.code y cy maxL ret) R2 as s G) (k' : ∀ r s', G r s' → Go S M F (cs + R2.cells) (ss + R2.slots) npc l (r.toList ++ st) s') : Go S M F cs ss pc l st0 s := by
  subst hn hst
  intro p lc e u m args below meth c D cA ad H locs ls A Z X hP hS hl
  obtain ⟨⟨w1, w2, w4, w5⟩, w7, w8, w9⟩ := hw
  have X' := X
  obtain ⟨hx, hb, hret, hml, hown, hts, hlk, hK, hDJ, hN, -⟩ := X
  have hG : GoodIn TW (Cond.code y cy maxL ret :: TW) := fun w hw => by
    have : w ∈ TW := by
      rcases List.mem_cons.mp hw with rfl | h
      · exact w5
      · exact h
    exact ⟨this, good_of_word (List.mem_filter.mp this).2⟩
  have hrev : ts ad (as.reverse ++ st) = (ts ad as).reverse ++ ts ad st := by simp [ts]
  rw [hrev]
  refine g_run st (va_runSN (As := ts ad as) (rest := ts ad st) ⟨hx, hb, hml, hown, hts⟩ (hS9 lc D cA ad H.size) ⟨va_cnB n hts hG rfl rfl rfl (hN _ w1) (hts _ w4) ⟨w7, w8, w9⟩ hR, hts _ w2, trivial⟩ ⟨fb_pc, ?_⟩ rfl (by simp [ts, hlen]) hl.1 rfl (lv_room (by rw [ts_cat]; exact hcat)) hd hR0) X' hS hl k'
  exact pc_of X' hP hS
