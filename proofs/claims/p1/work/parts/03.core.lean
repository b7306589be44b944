/-! CORE 2: what a method may take as given; the judgement Go; contracts Sp; returns and calls -/
def nestM : List (String × Nat × MethodName × String) := [("ChipGame", 11, yX2_init, "ChipGame"), ("ChipGame", 20, yX8_init, "ChipGame"), ("ChipGame", 27, yX3_init, "ChipGame"), ("ChipGame", 34, yX7_init, "ChipGame"), ("ChipGame$Firing", 55, yX10_clearChips, "ChipGame"), ("ChipGame$History", 23, yX10_copyChips, "ChipGame"), ("ChipGame$Slots", 24, yX10_copyChips, "ChipGame"), ("ChipGame$Trees", 47, yX10_clearChips, "ChipGame")]
def NW (U : State) : Prop := ∀ q ∈ nestM, va_Nw (.methodLinkNest q.1 q.2.1 q.2.2.1 q.2.2.2) U
theorem NW.warm {s U : State} (hW : s.WarmedH U.vm) (h : NW s) : NW U := fun q hq => va_Nw.warmM hW (h q hq)
theorem NW.same {u U : State} (e : u.vm = U.vm) (h : NW u) : NW U := fun q hq => va_Nw.same rfl e (h q hq)
def strL : List Nat := [4, 5, 8, 4, 5, 0]
def strB : List (List Int32) := [[112, 97, 116, 104], [99, 121, 99, 108, 101], [99, 111, 109, 112, 108, 101, 116, 101], [115, 116, 97, 114], [119, 104, 101, 101, 108], []]
def strT : List (Nat × String) := [(7, "path"), (9, "cycle"), (11, "complete"), (13, "star"), (15, "wheel"), (17, "")]
def leastL : List Int32 := [2, 3, 2, 2, 4]
def mostL : List Int32 := [8, 8, 6, 8, 8]
/-- the constants: the names, the two tables of numbers, String's own flag -/
def XS (ad : Nat → Nat) (A : Nat → Prop) (U : State) (H : Heap) : Prop :=
  (vk_S 6 strL strB (fun i => ad (1000 + i)) (fun i => ad (1010 + i)) A U H ∧ va_Z "ChipGame$Shapes" "LEAST" "[I" (.ref (ad 1020)) A U H ∧ va_T .int (ad 1020) 5 (fun j => .int (leastL.getD j 0)) A U H ∧ va_Z "ChipGame$Shapes" "MOST" "[I" (.ref (ad 1021)) A U H ∧ va_T .int (ad 1021) 5 (fun j => .int (mostL.getD j 0)) A U H ∧ va_Z "java/lang/String" "COMPACT_STRINGS" "Z" (.int 1) A U H ∧ (va_Z "jdk/internal/util/Preconditions" "SIOOBE_FORMATTER" "Ljava/util/function/BiFunction;" .null A U H ∨ va_Z "jdk/internal/util/Preconditions" "SIOOBE_FORMATTER" "Ljava/util/function/BiFunction;" (.ref (ad 1030)) A U H)) ∧
  ∀ i : Nat, ∀ q : Nat × String, strT[i]? = some q → vk_R "ChipGame$Shapes" q.1 q.2 (ad (1000 + i)) U
theorem XS.tr {ad : Nat → Nat} {A B : Nat → Prop} {s U : State} {H0 H : Heap} (h : XS ad A s H0) (hW : s.WarmedH U.vm) (hq : ∀ a : Nat, a < H0.size → ¬ A a → H[a]? = H0[a]?) (hAB : ∀ q, B q → A q) : XS ad B U H := by
  obtain ⟨⟨h1, h2, h3, h4, h5, h6, h8⟩, h7⟩ := h
  have m := hW.alike
  exact ⟨⟨((h1.moved m).kept hq).narrow hAB, ((h2.moved m).kept hq).narrow hAB, ((h3.moved m).kept hq).narrow hAB, ((h4.moved m).kept hq).narrow hAB, ((h5.moved m).kept hq).narrow hAB, ((h6.moved m).kept hq).narrow hAB, h8.imp (fun h => ((h.moved m).kept hq).narrow hAB) (fun h => ((h.moved m).kept hq).narrow hAB)⟩, fun i q e => vk_R.warm hW (h7 i q e)⟩
theorem XS.same {ad : Nat → Nat} {A : Nat → Prop} {u U : State} {H : Heap} (e : U.vm = u.vm) (h : XS ad A u H) : XS ad A U H := by
  obtain ⟨⟨h1, h2, h3, h4, h5, h6, h8⟩, h7⟩ := h
  have m : u.vm.Alike U.vm := by rw [e]; exact Vm.Alike.refl _
  exact ⟨⟨h1.moved m, h2.moved m, h3.moved m, h4.moved m, h5.moved m, h6.moved m, h8.imp (fun h => h.moved m) (fun h => h.moved m)⟩, fun i q e2 => vk_R.same e (h7 i q e2)⟩
/-- a method: its code, its class, its places for locals, what it returns, its room -/
abbrev Mth : Type := ByteArray × String × Nat × Option FieldType × Room
def Cx (S : Shp) (M : Mth) (p : Program) (s : State) (m : MethodId) (args : Array Value) (meth : Method) (c : Code) (D : va_G) (cA : Nat → ClassId) (ad : Nat → Nat) : Prop :=
  p.tables.exec = Jvm.exec ∧ c.code = M.1 ∧ meth.sig.returnType = M.2.2.2.1 ∧ c.maxLocals = M.2.2.1 ∧ s.vm.findClass M.2.1 = some m.cls ∧ (∀ w ∈ TW, w.before args s = true) ∧ meth.locks = false ∧ va_K D vwCl (tysOf cA) s ∧ DJ S ad ∧ NW s ∧ XS ad (AW S ad) s s.heap
def QQ (S : Shp) (D : va_G) (cA : Nat → ClassId) (ad : Nat → Nat) (F : Option Value → Sto → Prop) : Array Value → State → Outcome → State → Prop := fun _ st oc t =>
  (∃ (r : Option Value) (s' : Sto), oc = .returned (r.map (tv ad)) ∧ F r s' ∧ va_P D vwCl (wd S ad cA s') t.heap) ∧ va_F (AW S ad) st t
def Go (S : Shp) (M : Mth) (F : Option Value → Sto → Prop) (pc : Nat) (l : List (Nat × Value)) (st : List Value) (s : Sto) : Prop :=
  ∀ (p : Program) (lc : Launch) (e : Env) (u : State) (m : MethodId) (args : Array Value) (below : List Frame) (meth : Method) (c : Code) (D : va_G) (cA : Nat → ClassId) (ad : Nat → Nat) (H : Heap) (locs : List Loc) (ls : Array Slot),
    Cx S M p u m args meth c D cA ad → va_P D vwCl (wd S ad cA s) H → va_S (AW S ad) u.heap H locs → lv_has ls M.2.2.1 (tl ad l) →
    W p lc e M.2.2.2.2 u m args below meth c H locs 0 0 (MQ below (QQ S D cA ad F) args u 0 0 (AW S ad)) (F0 m pc ls (ts ad st))
/-- a contract: from the store s, with the arguments, the method returns with F -/
def Sp (S : Shp) (y : MethodName) (w : Cond) (R : Room) (as : List Value) (s : Sto) (F : Option Value → Sto → Prop) : Prop :=
  ∀ (l : Launch) (D : va_G) (cA : Nat → ClassId) (ad : Nat → Nat), Met l y (w :: TW) R (va_Pc (ts ad as) (fun U => va_P D vwCl (wd S ad cA s) U.heap ∧ va_K D vwCl (tysOf cA) U ∧ DJ S ad ∧ NW U ∧ XS ad (AW S ad) U U.heap)) (QQ S D cA ad F) 0 0 (AW S ad)
def SpI (S : Shp) (y : MethodName) (w : Cond) (R : Room) (as : List Value) (s : Sto) (F : Int → Sto → Prop) : Prop := Sp S y w R as s (fun r s' => ∃ x, r = some (iV x) ∧ F x s')
def SpJ (S : Shp) (y : MethodName) (w : Cond) (R : Room) (as : List Value) (s : Sto) (F : Int → Sto → Prop) : Prop := Sp S y w R as s (fun r s' => ∃ x, r = some (jV x) ∧ F x s')
def SpV (S : Shp) (y : MethodName) (w : Cond) (R : Room) (as : List Value) (s : Sto) (F : Sto → Prop) : Prop := Sp S y w R as s (fun r s' => r = none ∧ F s')
def SpR (S : Shp) (y : MethodName) (w : Cond) (R : Room) (as : List Value) (s : Sto) (F : Nat → Sto → Prop) : Prop := Sp S y w R as s (fun r s' => ∃ k, r = some (.ref k) ∧ F k s')
theorem QQ.mono {S : Shp} {D : va_G} {cA : Nat → ClassId} {ad : Nat → Nat} {F G : Option Value → Sto → Prop} (h : ∀ r s, F r s → G r s) {a : Array Value} {st t : State} {o : Outcome} (q : QQ S D cA ad F a st o t) : QQ S D cA ad G a st o t := by
  obtain ⟨⟨r, s', h1, h2, h3⟩, h4⟩ := q
  exact ⟨⟨r, s', h1, h r s' h2, h3⟩, h4⟩
theorem Go.mono {S : Shp} {M : Mth} {F G : Option Value → Sto → Prop} {pc : Nat} {l : List (Nat × Value)} {st : List Value} {s : Sto} (h : ∀ r s, F r s → G r s) (k : Go S M F pc l st s) : Go S M G pc l st s := by
  intro p lc e u m args below meth c D cA ad H locs ls X hP hS hl T hT Y
  obtain ⟨t, h1, o, h2, h3, h4, h5⟩ := k p lc e u m args below meth c D cA ad H locs ls X hP hS hl T hT Y
  exact ⟨t, h1, o, h2, h3, h4.mono h, h5⟩
/-- a contract out of a walk of the body -/
theorem Sp.body {S : Shp} {y : MethodName} {cc : ByteArray} {nL : Nat} {ret : Option FieldType} {R : Room} {as : List Value} {s : Sto} {F : Option Value → Sto → Prop} (hy : plainName y.cls = true) (hn : (lg_sl as).length ≤ nL)
    (k : Go S (cc, y.cls, nL, ret, R) F 0 (lv_args 0 as) [] s) : Sp S y (Cond.code y cc nL ret) R as s F := by
  intro l D cA ad
  refine Met.ofW (cc := cc) (maxL := nL) (ret := ret) hy rfl ?_
  intro p e u m args below meth c s₁ B hml hv
  obtain ⟨rfl, hP, hK, hDJ, hN, hX⟩ := hv
  have hts : ∀ w ∈ (Cond.code y cc nL ret :: TW), w.before (ts ad as).toArray u = true := atoms_spec (ws := Cond.code y cc nL ret :: TW) B.pre
  have hown : u.vm.findClass y.cls = some m.cls := findClass_of_methodNamed B.named
  rw [lg_entry_eq]
  have hl := lv_entry (ts ad as) (n := nL) (by rw [lg_ts]; exact hn)
  rw [tl_args] at hl
  exact k p l e u m _ below meth c D cA ad u.heap [] _ ⟨B.exec, B.bytes, B.returns, hml, hown, fun w hw => hts w (List.mem_cons_of_mem _ hw), B.notSynchronized, hK, hDJ, hN, hX⟩ hP va_S.rf hl
def lins (q : Nat × Value) (l : List (Nat × Value)) : List (Nat × Value) := match l with
  | [] => [q]
  | a :: r => if q.1 < a.1 then q :: a :: r else a :: lins q r
theorem lins_mem {q a : Nat × Value} {l : List (Nat × Value)} (h : a ∈ lins q l) : a = q ∨ a ∈ l := by
  induction l with
  | nil => exact Or.inl (List.mem_singleton.mp h)
  | cons b r ih =>
    unfold lins at h
    split at h
    · rcases List.mem_cons.mp h with h | h
      · exact Or.inl h
      · exact Or.inr h
    · rcases List.mem_cons.mp h with h | h
      · exact Or.inr (by rw [h]; exact List.mem_cons_self)
      · rcases ih h with h | h
        · exact Or.inl h
        · exact Or.inr (List.mem_cons_of_mem _ h)
def keep1 (i : Nat) (q : Nat × Value) : Bool := !(q.1 == i) && !(q.1 + 1 == i && q.2.category == 2)
def keep2 (i : Nat) (q : Nat × Value) : Bool := !(q.1 == i) && (!(q.1 == i + 1) && !(q.1 + 1 == i && q.2.category == 2))
def lset (l : List (Nat × Value)) (i : Nat) (v : Value) : List (Nat × Value) := lins (i, v) (l.filter (keep1 i))
def lset2 (l : List (Nat × Value)) (i : Nat) (v : Value) : List (Nat × Value) := lins (i, v) (l.filter (keep2 i))
def lget (l : List (Nat × Value)) (i : Nat) : Option Value := (l.find? (fun q => q.1 == i)).map (fun q => q.2)
theorem lget_at {ad : Nat → Nat} {ls : Array Slot} {nL : Nat} {l : List (Nat × Value)} {i : Nat} {v : Value} (h : lv_has ls nL (tl ad l)) (e : lget l i = some v) : ls[i]? = some (.val (tv ad v)) := by
  unfold lget at e
  cases hf : l.find? (fun q => q.1 == i) with
  | none => rw [hf] at e; cases e
  | some q =>
    rw [hf] at e
    have h1 := List.mem_of_find?_eq_some hf
    have h2 := List.find?_some hf
    have hi : q.1 = i := by simpa using h2
    have hv : q.2 = v := Option.some.inj e
    have := h.2.2 (q.1, tv ad q.2) (List.mem_map.mpr ⟨q, h1, rfl⟩)
    rw [hi, hv] at this
    exact this
theorem lset_has {ad : Nat → Nat} {ls : Array Slot} {nL : Nat} {l : List (Nat × Value)} {i : Nat} {v : Value} (h : lv_has ls nL ((i, tv ad v) :: (tl ad l).filter (fun q => !(q.1 == i) && !(q.1 + 1 == i && q.2.category == 2)))) : lv_has ls nL (tl ad (lset l i v)) := by
  refine ⟨h.1, h.2.1, fun q hq => ?_⟩
  obtain ⟨a, ha, rfl⟩ := List.mem_map.mp hq
  rcases lins_mem ha with rfl | ha
  · exact h.2.2 _ List.mem_cons_self
  · obtain ⟨h1, h2⟩ := List.mem_filter.mp ha
    refine h.2.2 _ (List.mem_cons_of_mem _ (List.mem_filter.mpr ⟨List.mem_map.mpr ⟨a, h1, rfl⟩, ?_⟩))
    simp only [tv_cat]
    exact h2
theorem lset2_has {ad : Nat → Nat} {ls : Array Slot} {nL : Nat} {l : List (Nat × Value)} {i : Nat} {v : Value} (h : lv_has ls nL ((i, tv ad v) :: (tl ad l).filter (fun q => !(q.1 == i) && (!(q.1 == i + 1) && !(q.1 + 1 == i && q.2.category == 2))))) : lv_has ls nL (tl ad (lset2 l i v)) := by
  refine ⟨h.1, h.2.1, fun q hq => ?_⟩
  obtain ⟨a, ha, rfl⟩ := List.mem_map.mp hq
  rcases lins_mem ha with rfl | ha
  · exact h.2.2 _ List.mem_cons_self
  · obtain ⟨h1, h2⟩ := List.mem_filter.mp ha
    refine h.2.2 _ (List.mem_cons_of_mem _ (List.mem_filter.mpr ⟨List.mem_map.mpr ⟨a, h1, rfl⟩, ?_⟩))
    simp only [tv_cat]
    exact h2
/-- some locals are forgotten -/
theorem Go.lsub {S : Shp} {M : Mth} {F : Option Value → Sto → Prop} {pc : Nat} {l l' : List (Nat × Value)} {st : List Value} {s : Sto} (is : List Nat) (h : lv_pick l is = l') (k : Go S M F pc l' st s) : Go S M F pc l st s := by
  intro p lc e u m args below meth c D cA ad H locs ls X hP hS hl
  refine k p lc e u m args below meth c D cA ad H locs ls X hP hS ⟨hl.1, hl.2.1, fun q hq => ?_⟩
  obtain ⟨a, ha, rfl⟩ := List.mem_map.mp hq
  rw [← h] at ha
  obtain ⟨j, -, hj⟩ := List.mem_filterMap.mp ha
  exact hl.2.2 _ (List.mem_map.mpr ⟨a, List.mem_of_getElem? hj, rfl⟩)
