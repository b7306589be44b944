/-! CORE 2: what a method may take as given; the judgement Go; contracts Sp; returns and calls -/
def nestM : List (String × Nat × MethodName × String) := [("ChipGame", 11, yX2_init, "ChipGame"), ("ChipGame", 20, yX8_init, "ChipGame"), ("ChipGame", 27, yX3_init, "ChipGame"), ("ChipGame", 34, yX7_init, "ChipGame"), ("ChipGame$Firing", 55, yX10_clearChips, "ChipGame"), ("ChipGame$History", 23, yX10_copyChips, "ChipGame"), ("ChipGame$Slots", 24, yX10_copyChips, "ChipGame"), ("ChipGame$Trees", 47, yX10_clearChips, "ChipGame")]
def NW (U : State) : Prop := ∀ q ∈ nestM, va_Nw (.methodLinkNest q.1 q.2.1 q.2.2.1 q.2.2.2) U
theorem NW.warm {s U : State} (hW : s.WarmedH U.vm) (h : NW s) : NW U := fun q hq => va_Nw.warmM hW (h q hq)
theorem NW.same {u U : State} (e : u.vm = U.vm) (h : NW u) : NW U := fun q hq => va_Nw.same rfl e (h q hq)
/-- the law's script, outside of all that is changed -/
def XS (ad : Nat → Nat) (A : Nat → Prop) (U : State) (H : Heap) : Prop := ∃ (L : Nat) (xs : Nat → Int32), va_X (ad 2000) L xs U H ∧ L ≤ 260 ∧ ad 2000 < H.size ∧ ¬ A (ad 2000)
theorem XS.tr {ad : Nat → Nat} {A B : Nat → Prop} {s U : State} {H0 H : Heap} (h : XS ad A s H0) (hW : s.WarmedH U.vm) (hs : H0.size ≤ H.size) (hq : ∀ a : Nat, a < H0.size → ¬ A a → H[a]? = H0[a]?) (hAB : B (ad 2000) → A (ad 2000)) : XS ad B U H := by
  obtain ⟨L, xs, h1, hL, h2, h3⟩ := h
  exact ⟨L, xs, (h1.moved hW.alike).kept (hq _ h2 h3), hL, Nat.lt_of_lt_of_le h2 hs, fun q => h3 (hAB q)⟩
theorem XS.same {ad : Nat → Nat} {A : Nat → Prop} {u U : State} {H : Heap} (e : U.vm = u.vm) (h : XS ad A u H) : XS ad A U H := by
  obtain ⟨L, xs, h1, h2⟩ := h
  have m : u.vm.Alike U.vm := by rw [e]; exact Vm.Alike.refl _
  exact ⟨L, xs, h1.moved m, h2⟩
/-- a method: its code, its class, its places for locals, what it returns, its room -/
abbrev Mth : Type := ByteArray × String × Nat × Option FieldType × Room
/-- how the method M ends with r -/
def retI (M : Mth) (pc : Nat) (r : Option Value) : Prop :=
  (r = none ∧ decode M.1 pc = .ok (.return_, 1) ∧ M.2.2.2.1 = none) ∨ (∃ (x : Int) (ty : FieldType), r = some (iV x) ∧ decode M.1 pc = .ok (.ireturn, 1) ∧ M.2.2.2.1 = some ty ∧ narrow ty (iV x) = iV x) ∨ ∃ x : Int, r = some (jV x) ∧ decode M.1 pc = .ok (.lreturn, 1) ∧ M.2.2.2.1 = some .long
def RetOK (S : Shp) (M : Mth) (F : Option Value → Sto → Prop) (p : Program) (lc : Launch) (e : Env) (u : State) (m : MethodId) (args : Array Value) (below : List Frame) (meth : Method) (c : Code) (D : va_G) (cA : Nat → ClassId) (ad : Nat → Nat) (A : Nat → Prop) (Z : State → Prop) : Prop :=
  ∀ (H : Heap) (locs : List Loc) (ls : Array Slot) (pc cs ss : Nat) (r : Option Value) (s' : Sto), F r s' → va_P D vwCl (wd S ad cA s') H → va_S A u.heap H locs → retI M pc r → cs ≤ M.2.2.2.2.cells ∧ ss ≤ M.2.2.2.2.slots → W p lc e M.2.2.2.2 u m args below meth c H locs cs ss Z (F0 m pc ls (ts ad r.toList))
def Cx (S : Shp) (M : Mth) (F : Option Value → Sto → Prop) (p : Program) (lc : Launch) (e : Env) (s : State) (m : MethodId) (args : Array Value) (below : List Frame) (meth : Method) (c : Code) (D : va_G) (cA : Nat → ClassId) (ad : Nat → Nat) (A : Nat → Prop) (Z : State → Prop) : Prop :=
  p.tables.exec = Jvm.exec ∧ c.code = M.1 ∧ meth.sig.returnType = M.2.2.2.1 ∧ c.maxLocals = M.2.2.1 ∧ s.vm.findClass M.2.1 = some m.cls ∧ (∀ w ∈ TW, w.before args s = true) ∧ meth.locks = false ∧ va_K D vwCl (tysOf cA) s ∧ DJ S ad ∧ NW s ∧ XS ad A s s.heap ∧ (∀ k, k < nc S → A (ad k)) ∧ (∀ q, s.heap.size ≤ q → A q) ∧ RetOK S M F p lc e s m args below meth c D cA ad A Z
def QQ (S : Shp) (D : va_G) (cA : Nat → ClassId) (ad : Nat → Nat) (b : Nat) (F : Option Value → Sto → Prop) : Array Value → State → Outcome → State → Prop := fun _ st oc t =>
  (∃ (r : Option Value) (s' : Sto), oc = .returned (r.map (tv ad)) ∧ F r s' ∧ va_P D vwCl (wd S ad cA s') t.heap) ∧ va_F (fun q => AW S ad q ∨ b ≤ q) st t
def Go (S : Shp) (M : Mth) (F : Option Value → Sto → Prop) (cs ss : Nat) (pc : Nat) (l : List (Nat × Value)) (st : List Value) (s : Sto) : Prop :=
  ∀ (p : Program) (lc : Launch) (e : Env) (u : State) (m : MethodId) (args : Array Value) (below : List Frame) (meth : Method) (c : Code) (D : va_G) (cA : Nat → ClassId) (ad : Nat → Nat) (H : Heap) (locs : List Loc) (ls : Array Slot) (A : Nat → Prop) (Z : State → Prop),
    Cx S M F p lc e u m args below meth c D cA ad A Z → va_P D vwCl (wd S ad cA s) H → va_S A u.heap H locs → lv_has ls M.2.2.1 (tl ad l) →
    W p lc e M.2.2.2.2 u m args below meth c H locs cs ss Z (F0 m pc ls (ts ad st))
def PcB (S : Shp) (D : va_G) (cA : Nat → ClassId) (ad : Nat → Nat) (b : Nat) (s : Sto) : State → Prop := fun U => va_P D vwCl (wd S ad cA s) U.heap ∧ va_K D vwCl (tysOf cA) U ∧ DJ S ad ∧ NW U ∧ XS ad (fun q => AW S ad q ∨ b ≤ q) U U.heap ∧ U.heap.size = b
/-- a contract: from the store s, with the arguments, the method returns with F -/
def Sp (S : Shp) (y : MethodName) (w : Cond) (R : Room) (as : List Value) (s : Sto) (F : Option Value → Sto → Prop) : Prop :=
  ∀ (l : Launch) (D : va_G) (cA : Nat → ClassId) (ad : Nat → Nat) (b : Nat), Met l y (w :: TW) R (va_Pc (ts ad as) (PcB S D cA ad b s)) (QQ S D cA ad b F) R.cells R.slots (fun q => AW S ad q ∨ b ≤ q)
def SpI (S : Shp) (y : MethodName) (w : Cond) (R : Room) (as : List Value) (s : Sto) (F : Int → Sto → Prop) : Prop := Sp S y w R as s (fun r s' => ∃ x, r = some (iV x) ∧ F x s')
def SpJ (S : Shp) (y : MethodName) (w : Cond) (R : Room) (as : List Value) (s : Sto) (F : Int → Sto → Prop) : Prop := Sp S y w R as s (fun r s' => ∃ x, r = some (jV x) ∧ F x s')
def SpV (S : Shp) (y : MethodName) (w : Cond) (R : Room) (as : List Value) (s : Sto) (F : Sto → Prop) : Prop := Sp S y w R as s (fun r s' => r = none ∧ F s')
theorem QQ.mono {S : Shp} {D : va_G} {cA : Nat → ClassId} {ad : Nat → Nat} {b : Nat} {F G : Option Value → Sto → Prop} (h : ∀ r s, F r s → G r s) {a : Array Value} {st t : State} {o : Outcome} (q : QQ S D cA ad b F a st o t) : QQ S D cA ad b G a st o t := by
  obtain ⟨⟨r, s', h1, h2, h3⟩, h4⟩ := q
  exact ⟨⟨r, s', h1, h r s' h2, h3⟩, h4⟩
theorem Sp.mono {S : Shp} {y : MethodName} {w : Cond} {R : Room} {as : List Value} {s : Sto} {F G : Option Value → Sto → Prop} (h : ∀ r s, F r s → G r s) (k : Sp S y w R as s F) : Sp S y w R as s G := by
  intro l D cA ad b
  exact MetFree.mono (k l D cA ad b) (fun _ _ h => h) (fun _ _ _ _ _ h => h) (fun _ _ _ _ _ q => ⟨q.1.mono h, q.2⟩)
theorem Go.mono {S : Shp} {M : Mth} {F G : Option Value → Sto → Prop} {cs ss pc : Nat} {l : List (Nat × Value)} {st : List Value} {s : Sto} (h : ∀ r s, F r s → G r s) (k : Go S M F cs ss pc l st s) : Go S M G cs ss pc l st s := by
  intro p lc e u m args below meth c D cA ad H locs ls A Z X hP hS hl
  obtain ⟨x1, x2, x3, x4, x5, x6, x7, x8, x9, x10, x11, x12, x13, x14⟩ := X
  exact k p lc e u m args below meth c D cA ad H locs ls A Z ⟨x1, x2, x3, x4, x5, x6, x7, x8, x9, x10, x11, x12, x13, fun H locs ls pc cs ss r s' hF => x14 H locs ls pc cs ss r s' (h r s' hF)⟩ hP hS hl
/-- a contract out of a walk of the body -/
theorem Sp.body {S : Shp} {y : MethodName} {cc : ByteArray} {nL : Nat} {ret : Option FieldType} {R : Room} {as : List Value} {s : Sto} {F : Option Value → Sto → Prop} (hy : plainFor y = true) (hn : (lg_sl as).length ≤ nL)
    (k : Go S (cc, y.cls, nL, ret, R) F 0 0 0 (lv_args 0 as) [] s) : Sp S y (Cond.code y cc nL ret) R as s F := by
  intro l D cA ad b
  refine va_MetF (cc := cc) (maxL := nL) (ret := ret) hy rfl ?_
  intro p e u m args below meth c s₁ B hml hv
  obtain ⟨rfl, hP, hK, hDJ, hN, hX, hz⟩ := hv
  have hts : ∀ w ∈ (Cond.code y cc nL ret :: TW), w.before (ts ad as).toArray u = true := atoms_spec (ws := Cond.code y cc nL ret :: TW) B.pre
  have hown : u.vm.findClass y.cls = some m.cls := findClass_of_methodNamed B.named
  rw [lg_entry_eq]
  have hl := lv_entry (ts ad as) (n := nL) (by rw [lg_ts]; exact hn)
  rw [tl_args] at hl
  refine k p l e u m _ below meth c D cA ad u.heap [] _ (fun q => AW S ad q ∨ b ≤ q) _ ⟨B.exec, B.bytes, B.returns, hml, hown, fun w hw => hts w (List.mem_cons_of_mem _ hw), B.notSynchronized, hK, hDJ, hN, hX, fun k hk => Or.inl ⟨k, hk, rfl⟩, fun q hq => Or.inr (by omega), ?_⟩ hP va_S.rf hl
  intro H locs ls pc cs ss r s' hF hP2 hS2 hr hc
  have hb := B.bytes
  have hrt := B.returns
  refine W.widen hc.1 hc.2 ?_
  rcases hr with ⟨rfl, hd, h2⟩ | ⟨x, ty, rfl, hd, h2, h3⟩ | ⟨x, rfl, hd, h2⟩
  · exact W.vret B.exec hb (hrt.trans h2) (fun t ht hW => ⟨⟨none, s', rfl, hF, by rw [ht]; exact hP2⟩, hS2.F ht⟩) hS2.2.2 hd B.notSynchronized
  · exact W.zret (ty := ty) B.exec hb (hrt.trans h2) h3 (fun t ht hW => ⟨⟨some (iV x), s', rfl, hF, by rw [ht]; exact hP2⟩, hS2.F ht⟩) hS2.2.2 hd B.notSynchronized
  · exact W.lret B.exec hb (hrt.trans h2) (fun t ht hW => ⟨⟨some (jV x), s', rfl, hF, by rw [ht]; exact hP2⟩, hS2.F ht⟩) hS2.2.2 hd B.notSynchronized
def lins (q : Nat × Value) (l : List (Nat × Value)) : List (Nat × Value) := match l with
  | [] => [q]
  | a :: r => if q.1 < a.1 then q :: a :: r else a :: lins q r
theorem lins_mem {q a : Nat × Value} {l : List (Nat × Value)} (h : a ∈ lins q l) : a = q ∨ a ∈ l := by
  induction l with
  | nil => exact Or.inl (List.mem_singleton.mp h)
  | cons b r ih =>
    unfold lins at h
    split at h
    · rcases List.mem_cons.mp h with h | h
      · exact Or.inl h
      · exact Or.inr h
    · rcases List.mem_cons.mp h with h | h
      · exact Or.inr (by rw [h]; exact List.mem_cons_self)
      · rcases ih h with h | h
        · exact Or.inl h
        · exact Or.inr (List.mem_cons_of_mem _ h)
def keep1 (i : Nat) (q : Nat × Value) : Bool := !(q.1 == i) && !(q.1 + 1 == i && q.2.category == 2)
def keep2 (i : Nat) (q : Nat × Value) : Bool := !(q.1 == i) && (!(q.1 == i + 1) && !(q.1 + 1 == i && q.2.category == 2))
def lset (l : List (Nat × Value)) (i : Nat) (v : Value) : List (Nat × Value) := lins (i, v) (l.filter (keep1 i))
def lset2 (l : List (Nat × Value)) (i : Nat) (v : Value) : List (Nat × Value) := lins (i, v) (l.filter (keep2 i))
def lget (l : List (Nat × Value)) (i : Nat) : Option Value := (l.find? (fun q => q.1 == i)).map (fun q => q.2)
theorem lget_at {ad : Nat → Nat} {ls : Array Slot} {nL : Nat} {l : List (Nat × Value)} {i : Nat} {v : Value} (h : lv_has ls nL (tl ad l)) (e : lget l i = some v) : ls[i]? = some (.val (tv ad v)) := by
  unfold lget at e
  cases hf : l.find? (fun q => q.1 == i) with
  | none => rw [hf] at e; cases e
  | some q =>
    rw [hf] at e
    have h1 := List.mem_of_find?_eq_some hf
    have h2 := List.find?_some hf
    have hi : q.1 = i := by simpa using h2
    have hv : q.2 = v := Option.some.inj e
    have := h.2.2 (q.1, tv ad q.2) (List.mem_map.mpr ⟨q, h1, rfl⟩)
    rw [hi, hv] at this
    exact this
theorem lset_has {ad : Nat → Nat} {ls : Array Slot} {nL : Nat} {l : List (Nat × Value)} {i : Nat} {v : Value} (h : lv_has ls nL ((i, tv ad v) :: (tl ad l).filter (fun q => !(q.1 == i) && !(q.1 + 1 == i && q.2.category == 2)))) : lv_has ls nL (tl ad (lset l i v)) := by
  refine ⟨h.1, h.2.1, fun q hq => ?_⟩
  obtain ⟨a, ha, rfl⟩ := List.mem_map.mp hq
  rcases lins_mem ha with rfl | ha
  · exact h.2.2 _ List.mem_cons_self
  · obtain ⟨h1, h2⟩ := List.mem_filter.mp ha
    refine h.2.2 _ (List.mem_cons_of_mem _ (List.mem_filter.mpr ⟨List.mem_map.mpr ⟨a, h1, rfl⟩, ?_⟩))
    simp only [tv_cat]
    exact h2
theorem lset2_has {ad : Nat → Nat} {ls : Array Slot} {nL : Nat} {l : List (Nat × Value)} {i : Nat} {v : Value} (h : lv_has ls nL ((i, tv ad v) :: (tl ad l).filter (fun q => !(q.1 == i) && (!(q.1 == i + 1) && !(q.1 + 1 == i && q.2.category == 2))))) : lv_has ls nL (tl ad (lset2 l i v)) := by
  refine ⟨h.1, h.2.1, fun q hq => ?_⟩
  obtain ⟨a, ha, rfl⟩ := List.mem_map.mp hq
  rcases lins_mem ha with rfl | ha
  · exact h.2.2 _ List.mem_cons_self
  · obtain ⟨h1, h2⟩ := List.mem_filter.mp ha
    refine h.2.2 _ (List.mem_cons_of_mem _ (List.mem_filter.mpr ⟨List.mem_map.mpr ⟨a, h1, rfl⟩, ?_⟩))
    simp only [tv_cat]
    exact h2
/-- some locals are forgotten -/
theorem Go.lsub {S : Shp} {M : Mth} {F : Option Value → Sto → Prop} {cs ss pc : Nat} {l l' : List (Nat × Value)} {st : List Value} {s : Sto} (is : List Nat) (h : lv_pick l is = l') (k : Go S M F cs ss pc l' st s) : Go S M F cs ss pc l st s := by
  intro p lc e u m args below meth c D cA ad H locs ls A Z X hP hS hl
  refine k p lc e u m args below meth c D cA ad H locs ls A Z X hP hS ⟨hl.1, hl.2.1, fun q hq => ?_⟩
  obtain ⟨a, ha, rfl⟩ := List.mem_map.mp hq
  rw [← h] at ha
  obtain ⟨j, -, hj⟩ := List.mem_filterMap.mp ha
  exact hl.2.2 _ (List.mem_map.mpr ⟨a, List.mem_of_getElem? hj, rfl⟩)
