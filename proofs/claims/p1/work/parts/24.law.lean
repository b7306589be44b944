/-! the law: the skeleton's own rows; then rows for the law's body, where two worlds stand side by side -/
/-! THE CLAIM OUT OF ONE WALK OF THE LAW'S BODY. Your part is whole_start (and what it stands on); all else here is the same for every law, but numbers. -/
def R_law : String := "ChipGameLaw"
def lw_P (b : Addr) (xs : List Int32) (args : Array Value) (s : State) : Prop := args = #[.ref b] ∧ s.IntsAt b xs ∧ xs.length ≤ 3 ∧ (Jvm.Cond.and given_1 narrow_1).before args s = true
def lw_Q (_ : Array Value) (s : State) (o : Outcome) (t : State) : Prop := o = .returned (some (.int 1)) ∧ Framed s o t [] 600000 7302250
def lw_Z (below : List Frame) (a : Array Value) (s : State) : State → Prop := fun t => ∃ o, t.status = .running ∧ Ended t below o ∧ lw_Q a s o t
/-- the law's own end, with 1 on the stack, nothing written that was there before, its room as the claim has it -/
theorem lw_ret {p : Program} {l : Launch} {e : Env} {s : State} {m : MethodId} {below : List Frame} {meth : Method} {c : Code} {b : Nat} (hx : p.tables.exec = Jvm.exec) (hb : c.code = code) (hr : meth.sig.returnType = ret) (hlocks : meth.locks = false) {pc : Nat} {H : Heap} {ls : Array Slot} (hdg : decode code pc = .ok (.ireturn, 1)) : W p l e room_1 s m #[Value.ref b] below meth c H [] 600000 7302250 (lw_Z below #[Value.ref b] s) (F0 m pc ls [.int 1]) := by
  intro T hT X
  obtain ⟨fs, hret, hrun, hended, hW, hframe⟩ := X.leave (v := some (.int 1)) (hlocks := hlocks) (fun h => by rw [hr] at h; cases h)
  have hmeth' : T.vm.method? m = some meth := X.method'
  refine ⟨T.setFrames fs, ?_, .returned (some (.int 1)), hrun, hended, rfl, ⟨_, rfl⟩, hW, hframe⟩
  jvm_step X.here [X.here.top, hx, hb, hdg, hmeth', hr, ret, narrow_b1]
  (try refine ⟨rfl, ?_⟩); (try refine ⟨rfl, ?_⟩)
  first | (intro acts; rw [hret _ acts rfl rfl rfl]) | rw [hret _ _ rfl rfl rfl]
  exact Steps.refl _
/-- what holds at the law's entry: the machine, the code, the tables' words (any of lw_tbl by 'hts w (by decide +kernel)'), the script of L ints xs at the cell b, what the Statement gives of the start (any of its parts by flat_of_before) -/
def lw_At (p : Program) (s : State) (m : MethodId) (meth : Method) (c : Code) (b L : Nat) (xs : Nat → Int32) : Prop :=
  p.tables.exec = Jvm.exec ∧ c.code = code ∧ meth.sig.returnType = ret ∧ c.maxLocals = 4 ∧ s.vm.findClass R_law = some m.cls ∧ (∀ w ∈ lw_tbl, w.before #[Value.ref b] s = true) ∧ va_X b L xs s s.heap ∧ b < s.heap.size ∧ meth.locks = false ∧ (Jvm.Cond.and given_1 narrow_1).before #[Value.ref b] s = true
def adL (b : Nat) (adx adm : Nat → Nat) : Nat → Nat := fun k => if k = 0 then b else if k = 1 then adx 0 else adm 0
def LX (p : Program) (s : State) (m : MethodId) (meth : Method) (c : Code) (b L : Nat) (xs : Nat → Int32) (D : va_G) (cA : Nat → ClassId) (adx adm : Nat → Nat) : Prop :=
  lw_At p s m meth c b L xs ∧ va_K D vwCl (tysOf cA) s ∧ NW s ∧ XS adx (fun q => s.heap.size ≤ q) s s.heap ∧ XS adm (fun q => s.heap.size ≤ q) s s.heap ∧ DJ SC adx ∧ DJ SM adm ∧ (∀ q, AW SC adx q → s.heap.size ≤ q) ∧ (∀ q, AW SM adm q → s.heap.size ≤ q) ∧ (∀ q, AW SC adx q → ¬ AW SM adm q)
def Lg (b L : Nat) (xs : Nat → Int32) (pc : Nat) (l : List (Nat × Value)) (st : List Value) (x y : Sto) : Prop :=
  ∀ (p : Program) (lc : Launch) (e : Env) (s : State) (m : MethodId) (below : List Frame) (meth : Method) (c : Code) (D : va_G) (cA : Nat → ClassId) (adx adm : Nat → Nat) (H : Heap) (locs : List Loc) (ls : Array Slot),
    LX p s m meth c b L xs D cA adx adm → va_P D vwCl (wd SC adx cA x) H → va_P D vwCl (wd SM adm cA y) H → va_S (fun q => s.heap.size ≤ q) s.heap H locs → lv_has ls 4 (tl (adL b adx adm) l) →
    W p lc e room_1 s m #[Value.ref b] below meth c H locs 600000 7302250 (lw_Z below #[Value.ref b] s) (F0 m pc ls (ts (adL b adx adm) st))
theorem l_iconst {b L : Nat} {xs : Nat → Int32} {pc npc : Nat} {l : List (Nat × Value)} {st : List Value} {x y : Sto} {n : Int} (hd : decode code pc = .ok (.iconst n, 1)) (hn : pc + 1 = npc) (k : Lg b L xs npc l (iV n :: st) x y) : Lg b L xs pc l (st) x y := by
  subst hn
  intro p lc e s m below meth c D cA adx adm H locs ls X hP1 hP2 hS hl
  obtain ⟨⟨hx, hb, hr, hml, hown, hts, hX, hbl, hlk, hgv⟩, hK, hN, hXx, hXm, hDx, hDm, hAx, hAm, hdis⟩ := X
  exact lv_iconst hx hb hd rfl (k p lc e s m below meth c D cA adx adm H locs ls ⟨⟨hx, hb, hr, hml, hown, hts, hX, hbl, hlk, hgv⟩, hK, hN, hXx, hXm, hDx, hDm, hAx, hAm, hdis⟩ hP1 hP2 hS hl)
theorem l_bipush {b L : Nat} {xs : Nat → Int32} {pc npc : Nat} {l : List (Nat × Value)} {st : List Value} {x y : Sto} {n z : Int} (hd : decode code pc = .ok (.bipush n, 2)) (hn : pc + 2 = npc) (hv : (Int8.ofInt n).toInt32 = Int32.ofInt z) (k : Lg b L xs npc l (iV z :: st) x y) : Lg b L xs pc l (st) x y := by
  subst hn
  intro p lc e s m below meth c D cA adx adm H locs ls X hP1 hP2 hS hl
  obtain ⟨⟨hx, hb, hr, hml, hown, hts, hX, hbl, hlk, hgv⟩, hK, hN, hXx, hXm, hDx, hDm, hAx, hAm, hdis⟩ := X
  exact lv_bipush hx hb hd hv (k p lc e s m below meth c D cA adx adm H locs ls ⟨⟨hx, hb, hr, hml, hown, hts, hX, hbl, hlk, hgv⟩, hK, hN, hXx, hXm, hDx, hDm, hAx, hAm, hdis⟩ hP1 hP2 hS hl)
theorem l_iload_n {b L : Nat} {xs : Nat → Int32} {pc npc : Nat} {l : List (Nat × Value)} {st : List Value} {x y : Sto} {q : Fin 4} {i : Nat} {z : Int} (hd : decode code pc = .ok (.iload_n q, 1)) (hn : pc + 1 = npc) (hi : (q : Nat) = i) (hg : lget l i = some (iV z)) (k : Lg b L xs npc l (iV z :: st) x y) : Lg b L xs pc l (st) x y := by
  subst hn
  intro p lc e s m below meth c D cA adx adm H locs ls X hP1 hP2 hS hl
  obtain ⟨⟨hx, hb, hr, hml, hown, hts, hX, hbl, hlk, hgv⟩, hK, hN, hXx, hXm, hDx, hDm, hAx, hAm, hdis⟩ := X
  exact lv_iload_n hx hb hd hi (lget_at hl hg) (k p lc e s m below meth c D cA adx adm H locs ls ⟨⟨hx, hb, hr, hml, hown, hts, hX, hbl, hlk, hgv⟩, hK, hN, hXx, hXm, hDx, hDm, hAx, hAm, hdis⟩ hP1 hP2 hS hl)
theorem l_aload_n {b L : Nat} {xs : Nat → Int32} {pc npc : Nat} {l : List (Nat × Value)} {st : List Value} {x y : Sto} {q : Fin 4} {i z : Nat} (hd : decode code pc = .ok (.aload_n q, 1)) (hn : pc + 1 = npc) (hi : (q : Nat) = i) (hg : lget l i = some (.ref z)) (k : Lg b L xs npc l (.ref z :: st) x y) : Lg b L xs pc l (st) x y := by
  subst hn
  intro p lc e s m below meth c D cA adx adm H locs ls X hP1 hP2 hS hl
  obtain ⟨⟨hx, hb, hr, hml, hown, hts, hX, hbl, hlk, hgv⟩, hK, hN, hXx, hXm, hDx, hDm, hAx, hAm, hdis⟩ := X
  exact lv_aload_n hx hb hd hi (lget_at hl hg) (k p lc e s m below meth c D cA adx adm H locs ls ⟨⟨hx, hb, hr, hml, hown, hts, hX, hbl, hlk, hgv⟩, hK, hN, hXx, hXm, hDx, hDm, hAx, hAm, hdis⟩ hP1 hP2 hS hl)
theorem l_iadd {b L : Nat} {xs : Nat → Int32} {pc npc : Nat} {l : List (Nat × Value)} {st : List Value} {x y : Sto} {u v : Int} (hd : decode code pc = .ok (.iadd, 1)) (hn : pc + 1 = npc) (k : Lg b L xs npc l (iV (u + v) :: st) x y) : Lg b L xs pc l (iV v :: iV u :: st) x y := by
  subst hn
  intro p lc e s m below meth c D cA adx adm H locs ls X hP1 hP2 hS hl
  obtain ⟨⟨hx, hb, hr, hml, hown, hts, hX, hbl, hlk, hgv⟩, hK, hN, hXx, hXm, hDx, hDm, hAx, hAm, hdis⟩ := X
  refine lv_iadd hx hb hd ?_
  rw [i32_add]
  exact k p lc e s m below meth c D cA adx adm H locs ls ⟨⟨hx, hb, hr, hml, hown, hts, hX, hbl, hlk, hgv⟩, hK, hN, hXx, hXm, hDx, hDm, hAx, hAm, hdis⟩ hP1 hP2 hS hl
theorem l_isub {b L : Nat} {xs : Nat → Int32} {pc npc : Nat} {l : List (Nat × Value)} {st : List Value} {x y : Sto} {u v : Int} (hd : decode code pc = .ok (.isub, 1)) (hn : pc + 1 = npc) (k : Lg b L xs npc l (iV (u - v) :: st) x y) : Lg b L xs pc l (iV v :: iV u :: st) x y := by
  subst hn
  intro p lc e s m below meth c D cA adx adm H locs ls X hP1 hP2 hS hl
  obtain ⟨⟨hx, hb, hr, hml, hown, hts, hX, hbl, hlk, hgv⟩, hK, hN, hXx, hXm, hDx, hDm, hAx, hAm, hdis⟩ := X
  refine lv_isub hx hb hd ?_
  rw [i32_sub]
  exact k p lc e s m below meth c D cA adx adm H locs ls ⟨⟨hx, hb, hr, hml, hown, hts, hX, hbl, hlk, hgv⟩, hK, hN, hXx, hXm, hDx, hDm, hAx, hAm, hdis⟩ hP1 hP2 hS hl
theorem l_iand {b L : Nat} {xs : Nat → Int32} {pc npc : Nat} {l : List (Nat × Value)} {st : List Value} {x y : Sto} {u v : Int} (hd : decode code pc = .ok (.iand, 1)) (hn : pc + 1 = npc) (k : Lg b L xs npc l (iV (iand u v) :: st) x y) : Lg b L xs pc l (iV v :: iV u :: st) x y := by
  subst hn
  intro p lc e s m below meth c D cA adx adm H locs ls X hP1 hP2 hS hl
  obtain ⟨⟨hx, hb, hr, hml, hown, hts, hX, hbl, hlk, hgv⟩, hK, hN, hXx, hXm, hDx, hDm, hAx, hAm, hdis⟩ := X
  refine lv_iand hx hb hd ?_
  rw [← i32_inv (Int32.ofInt u &&& Int32.ofInt v)]
  exact k p lc e s m below meth c D cA adx adm H locs ls ⟨⟨hx, hb, hr, hml, hown, hts, hX, hbl, hlk, hgv⟩, hK, hN, hXx, hXm, hDx, hDm, hAx, hAm, hdis⟩ hP1 hP2 hS hl
theorem l_slen {b L : Nat} {xs : Nat → Int32} {pc npc : Nat} {l : List (Nat × Value)} {st : List Value} {x y : Sto} (hd : decode code pc = .ok (.arraylength, 1)) (hn : pc + 1 = npc) (k : Lg b L xs npc l (iV (L : Nat) :: st) x y) : Lg b L xs pc l ((.ref 0) :: st) x y := by
  subst hn
  intro p lc e s m below meth c D cA adx adm H locs ls X hP1 hP2 hS hl
  obtain ⟨⟨hx, hb, hr, hml, hown, hts, hX, hbl, hlk, hgv⟩, hK, hN, hXx, hXm, hDx, hDm, hAx, hAm, hdis⟩ := X
  refine va_slen hx hb hX hbl (Nat.not_le.mpr hbl) hS hd ?_
  rw [← Int32.ofInt_eq_ofNat]
  exact k p lc e s m below meth c D cA adx adm H locs ls ⟨⟨hx, hb, hr, hml, hown, hts, hX, hbl, hlk, hgv⟩, hK, hN, hXx, hXm, hDx, hDm, hAx, hAm, hdis⟩ hP1 hP2 hS hl
theorem l_sld {b L : Nat} {xs : Nat → Int32} {pc npc : Nat} {l : List (Nat × Value)} {st : List Value} {x y : Sto} {i : Int} (hd : decode code pc = .ok (.iaload, 1)) (hn : pc + 1 = npc) (hi : 0 ≤ i ∧ i < (L : Nat)) (hL : L < 2147483648) (k : Lg b L xs npc l (iV (xs i.toNat).toInt :: st) x y) : Lg b L xs pc l (iV i :: .ref 0 :: st) x y := by
  subst hn
  intro p lc e s m below meth c D cA adx adm H locs ls X hP1 hP2 hS hl
  obtain ⟨⟨hx, hb, hr, hml, hown, hts, hX, hbl, hlk, hgv⟩, hK, hN, hXx, hXm, hDx, hDm, hAx, hAm, hdis⟩ := X
  obtain ⟨a1, a2⟩ := i32_ix hi hL
  refine va_sld hx hb hX hbl (Nat.not_le.mpr hbl) hS a1 hd ?_
  rw [a2, ← i32_inv (xs i.toNat)]
  exact k p lc e s m below meth c D cA adx adm H locs ls ⟨⟨hx, hb, hr, hml, hown, hts, hX, hbl, hlk, hgv⟩, hK, hN, hXx, hXm, hDx, hDm, hAx, hAm, hdis⟩ hP1 hP2 hS hl
theorem l_i2c {b L : Nat} {xs : Nat → Int32} {pc npc : Nat} {l : List (Nat × Value)} {st : List Value} {x y : Sto} {z : Int} (hd : decode code pc = .ok (.i2c, 1)) (hn : pc + 1 = npc) (hz : -2147483648 ≤ z ∧ z < 2147483648) (k : Lg b L xs npc l (iV (z % 65536) :: st) x y) : Lg b L xs pc l (iV z :: st) x y := by
  subst hn
  intro p lc e s m below meth c D cA adx adm H locs ls X hP1 hP2 hS hl
  obtain ⟨⟨hx, hb, hr, hml, hown, hts, hX, hbl, hlk, hgv⟩, hK, hN, hXx, hXm, hDx, hDm, hAx, hAm, hdis⟩ := X
  refine lv_i2c hx hb hd ?_ (k p lc e s m below meth c D cA adx adm H locs ls ⟨⟨hx, hb, hr, hml, hown, hts, hX, hbl, hlk, hgv⟩, hK, hN, hXx, hXm, hDx, hDm, hAx, hAm, hdis⟩ hP1 hP2 hS hl)
  rw [pk_char]
  have h1 : (Int32.ofInt z).toBitVec.toNat % 65536 = (z % 65536).toNat := by
    have h2 : ((Int32.ofInt z).toBitVec.toNat : Int) = z % 4294967296 := by
      show ((BitVec.ofInt 32 z).toNat : Int) = _
      rw [BitVec.toNat_ofInt]
      omega
    omega
  rw [h1]
  have h4 : z % 65536 = ((z % 65536).toNat : Int) := by omega
  have h3 : Int32.ofInt (z % 65536) = Int32.ofInt ((z % 65536).toNat : Int) := congrArg Int32.ofInt h4
  rw [h3, Int32.ofInt_eq_ofNat]
  rfl
theorem l_goto {b L : Nat} {xs : Nat → Int32} {pc npc : Nat} {l : List (Nat × Value)} {st : List Value} {x y : Sto} {off : Int} (hd : decode code pc = .ok (.goto off, 3)) (ht : (pc : Int) + off = (npc : Int)) (k : Lg b L xs npc l st x y) : Lg b L xs pc l st x y := by
  intro p lc e s m below meth c D cA adx adm H locs ls X hP1 hP2 hS hl
  obtain ⟨⟨hx, hb, hr, hml, hown, hts, hX, hbl, hlk, hgv⟩, hK, hN, hXx, hXm, hDx, hDm, hAx, hAm, hdis⟩ := X
  exact lv_goto hx hb hd ht (k p lc e s m below meth c D cA adx adm H locs ls ⟨⟨hx, hb, hr, hml, hown, hts, hX, hbl, hlk, hgv⟩, hK, hN, hXx, hXm, hDx, hDm, hAx, hAm, hdis⟩ hP1 hP2 hS hl)
theorem l_iinc {b L : Nat} {xs : Nat → Int32} {pc npc : Nat} {l : List (Nat × Value)} {st : List Value} {x y : Sto} {i : Nat} {n u v : Int} {l' : List (Nat × Value)} (hd : decode code pc = .ok (.iinc i n, 3)) (hn : pc + 3 = npc) (hb9 : i < 4) (hg : lget l i = some (iV u)) (hy : u + n = v) (hl' : lset l i (iV v) = l') (k : Lg b L xs npc l' st x y) : Lg b L xs pc l st x y := by
  subst hn hl' hy
  intro p lc e s m below meth c D cA adx adm H locs ls X hP1 hP2 hS hl
  obtain ⟨⟨hx, hb, hr, hml, hown, hts, hX, hbl, hlk, hgv⟩, hK, hN, hXx, hXm, hDx, hDm, hAx, hAm, hdis⟩ := X
  have hq := lget_at hl hg
  have hl2 : lv_has ls 4 ((i, Value.int (Int32.ofInt u)) :: tl (adL b adx adm) l) := ⟨hl.1, hl.2.1, fun q hq2 => by
    rcases List.mem_cons.mp hq2 with rfl | h
    · exact hq
    · exact hl.2.2 q h⟩
  refine lv_iinc (k := 0) hx hb hd hl2 rfl (i32_add u n) hb9 rfl (fun ls' h' => ?_)
  refine k p lc e s m below meth c D cA adx adm H locs ls' ⟨⟨hx, hb, hr, hml, hown, hts, hX, hbl, hlk, hgv⟩, hK, hN, hXx, hXm, hDx, hDm, hAx, hAm, hdis⟩ hP1 hP2 hS (lset_has ⟨h'.1, h'.2.1, fun q hq2 => h'.2.2 q ?_⟩)
  rcases List.mem_cons.mp hq2 with h | h
  · exact h ▸ List.mem_cons_self
  · obtain ⟨h1, h2⟩ := List.mem_filter.mp h
    exact List.mem_cons_of_mem _ (List.mem_filter.mpr ⟨List.mem_cons_of_mem _ h1, h2⟩)
theorem l_icmp_gt {b L : Nat} {xs : Nat → Int32} {pc npc : Nat} {l : List (Nat × Value)} {st : List Value} {x y : Sto} {tgt : Nat} {off u v : Int} (hd : decode code pc = .ok (.if_icmp .gt off, 3)) (hn : pc + 3 = npc) (ht : (pc : Int) + off = (tgt : Int)) (hr9 : (-2147483648 ≤ u ∧ u < 2147483648) ∧ -2147483648 ≤ v ∧ v < 2147483648) (kt : v < u → Lg b L xs tgt l st x y) (kf : ¬ v < u → Lg b L xs npc l st x y) : Lg b L xs pc l (iV v :: iV u :: st) x y := by
  subst hn
  intro p lc e s m below meth c D cA adx adm H locs ls X hP1 hP2 hS hl
  obtain ⟨⟨hx, hb, hr, hml, hown, hts, hX, hbl, hlk, hgv⟩, hK, hN, hXx, hXm, hDx, hDm, hAx, hAm, hdis⟩ := X
  refine lv_icmp_gt hx hb hd ht (fun q => ?_) (fun q => ?_)
  · exact kt ((i32_lt ⟨hr9.2, hr9.1⟩).mp q) p lc e s m below meth c D cA adx adm H locs ls ⟨⟨hx, hb, hr, hml, hown, hts, hX, hbl, hlk, hgv⟩, hK, hN, hXx, hXm, hDx, hDm, hAx, hAm, hdis⟩ hP1 hP2 hS hl
  · exact kf (fun z => q ((i32_lt ⟨hr9.2, hr9.1⟩).mpr z)) p lc e s m below meth c D cA adx adm H locs ls ⟨⟨hx, hb, hr, hml, hown, hts, hX, hbl, hlk, hgv⟩, hK, hN, hXx, hXm, hDx, hDm, hAx, hAm, hdis⟩ hP1 hP2 hS hl
theorem l_if_eq {b L : Nat} {xs : Nat → Int32} {pc npc : Nat} {l : List (Nat × Value)} {st : List Value} {x y : Sto} {tgt : Nat} {off u : Int} (hd : decode code pc = .ok (.ifCond .eq off, 3)) (hn : pc + 3 = npc) (ht : (pc : Int) + off = (tgt : Int)) (hr9 : -2147483648 ≤ u ∧ u < 2147483648) (kt : u = 0 → Lg b L xs tgt l st x y) (kf : ¬ u = 0 → Lg b L xs npc l st x y) : Lg b L xs pc l (iV u :: st) x y := by
  subst hn
  intro p lc e s m below meth c D cA adx adm H locs ls X hP1 hP2 hS hl
  obtain ⟨⟨hx, hb, hr, hml, hown, hts, hX, hbl, hlk, hgv⟩, hK, hN, hXx, hXm, hDx, hDm, hAx, hAm, hdis⟩ := X
  refine lv_if_eq hx hb hd ht (fun q => ?_) (fun q => ?_)
  · exact kt ((i32_eq (y := 0) ⟨hr9, by omega, by omega⟩).mp q) p lc e s m below meth c D cA adx adm H locs ls ⟨⟨hx, hb, hr, hml, hown, hts, hX, hbl, hlk, hgv⟩, hK, hN, hXx, hXm, hDx, hDm, hAx, hAm, hdis⟩ hP1 hP2 hS hl
  · exact kf (fun z => q ((i32_eq (y := 0) ⟨hr9, by omega, by omega⟩).mpr z)) p lc e s m below meth c D cA adx adm H locs ls ⟨⟨hx, hb, hr, hml, hown, hts, hX, hbl, hlk, hgv⟩, hK, hN, hXx, hXm, hDx, hDm, hAx, hAm, hdis⟩ hP1 hP2 hS hl
theorem l_eqI {b L : Nat} {xs : Nat → Int32} {pc npc : Nat} {l : List (Nat × Value)} {st : List Value} {x y : Sto} {off u : Int} (hd : decode code pc = .ok (.if_icmp .eq off, 3)) (ht : (pc : Int) + off = (npc : Int)) (k : Lg b L xs npc l st x y) : Lg b L xs pc l (iV u :: iV u :: st) x y := by
  intro p lc e s m below meth c D cA adx adm H locs ls X hP1 hP2 hS hl
  obtain ⟨⟨hx, hb, hr, hml, hown, hts, hX, hbl, hlk, hgv⟩, hK, hN, hXx, hXm, hDx, hDm, hAx, hAm, hdis⟩ := X
  exact lv_icmp_eq hx hb hd ht (fun _ => k p lc e s m below meth c D cA adx adm H locs ls ⟨⟨hx, hb, hr, hml, hown, hts, hX, hbl, hlk, hgv⟩, hK, hN, hXx, hXm, hDx, hDm, hAx, hAm, hdis⟩ hP1 hP2 hS hl) (fun q => absurd rfl q)
theorem l_eqJ {b L : Nat} {xs : Nat → Int32} {pc npc : Nat} {l : List (Nat × Value)} {st : List Value} {x y : Sto} {off u : Int} {pc2 : Nat} (hd : decode code pc = .ok (.lcmp, 1)) (hn2 : pc + 1 = pc2) (hd2 : decode code pc2 = .ok (.ifCond .eq off, 3)) (ht : (pc2 : Int) + off = (npc : Int)) (k : Lg b L xs npc l st x y) : Lg b L xs pc l (jV u :: jV u :: st) x y := by
  subst hn2
  intro p lc e s m below meth c D cA adx adm H locs ls X hP1 hP2 hS hl
  obtain ⟨⟨hx, hb, hr, hml, hown, hts, hX, hbl, hlk, hgv⟩, hK, hN, hXx, hXm, hDx, hDm, hAx, hAm, hdis⟩ := X
  refine W.lcmp hx hb hd ?_
  have e0 : lg_cmp (Int64.ofInt u) (Int64.ofInt u) = 0 := by
    unfold lg_cmp
    rw [if_neg (by rw [gt_iff_lt, Int64.lt_iff_toInt_lt]; exact Int.lt_irrefl _), if_pos rfl]
  rw [e0]
  exact lv_if_eq hx hb hd2 ht (fun _ => k p lc e s m below meth c D cA adx adm H locs ls ⟨⟨hx, hb, hr, hml, hown, hts, hX, hbl, hlk, hgv⟩, hK, hN, hXx, hXm, hDx, hDm, hAx, hAm, hdis⟩ hP1 hP2 hS hl) (fun q => absurd rfl q)
theorem l_tabIn {b L : Nat} {xs : Nat → Int32} {pc : Nat} {l : List (Nat × Value)} {st : List Value} {x y : Sto} {z dflt lo hi off : Int} {offs : Array Int} {len j tgt : Nat} (hd : decode code pc = .ok (.tableswitch dflt lo hi offs, len)) (hr9 : -2147483648 ≤ z ∧ z < 2147483648) (h : z = lo + j) (hle : lo + j ≤ hi) (ho : offs[j]? = some off) (ht : (pc : Int) + off = (tgt : Int)) (k : Lg b L xs tgt l st x y) : Lg b L xs pc l (iV z :: st) x y := by
  intro p lc e s m below meth c D cA adx adm H locs ls X hP1 hP2 hS hl
  obtain ⟨⟨hx, hb, hr, hml, hown, hts, hX, hbl, hlk, hgv⟩, hK, hN, hXx, hXm, hDx, hDm, hAx, hAm, hdis⟩ := X
  have ex := ofInt_toInt32 hr9
  exact lv_tableIn hx hb hd (by rw [ex]; omega) (by rw [ex]; omega) (by rw [ex, h, show lo + (j : Int) - lo = (j : Int) by omega]; exact ho) ht (k p lc e s m below meth c D cA adx adm H locs ls ⟨⟨hx, hb, hr, hml, hown, hts, hX, hbl, hlk, hgv⟩, hK, hN, hXx, hXm, hDx, hDm, hAx, hAm, hdis⟩ hP1 hP2 hS hl)
theorem l_tabOut {b L : Nat} {xs : Nat → Int32} {pc : Nat} {l : List (Nat × Value)} {st : List Value} {x y : Sto} {z dflt lo hi : Int} {offs : Array Int} {len tgt : Nat} (hd : decode code pc = .ok (.tableswitch dflt lo hi offs, len)) (hr9 : -2147483648 ≤ z ∧ z < 2147483648) (h : z < lo ∨ hi < z) (ht : (pc : Int) + dflt = (tgt : Int)) (k : Lg b L xs tgt l st x y) : Lg b L xs pc l (iV z :: st) x y := by
  intro p lc e s m below meth c D cA adx adm H locs ls X hP1 hP2 hS hl
  obtain ⟨⟨hx, hb, hr, hml, hown, hts, hX, hbl, hlk, hgv⟩, hK, hN, hXx, hXm, hDx, hDm, hAx, hAm, hdis⟩ := X
  have ex := ofInt_toInt32 hr9
  exact lv_tableOut hx hb hd (by rw [ex]; exact h) ht (k p lc e s m below meth c D cA adx adm H locs ls ⟨⟨hx, hb, hr, hml, hown, hts, hX, hbl, hlk, hgv⟩, hK, hN, hXx, hXm, hDx, hDm, hAx, hAm, hdis⟩ hP1 hP2 hS hl)
theorem l_ret1 {b L : Nat} {xs : Nat → Int32} {pc : Nat} {l : List (Nat × Value)} {x y : Sto} (hd : decode code pc = .ok (.ireturn, 1)) : Lg b L xs pc l [iV 1] x y := by
  intro p lc e s m below meth c D cA adx adm H locs ls X hP1 hP2 hS hl
  obtain ⟨⟨hx, hb, hr, hml, hown, hts, hX, hbl, hlk, hgv⟩, hK, hN, hXx, hXm, hDx, hDm, hAx, hAm, hdis⟩ := X
  refine va_forget (fun q hq => hS.2.2 q hq) ?_
  exact lw_ret hx hb hr hlk hd
theorem iand_r (u v : Int) : -2147483648 ≤ iand u v ∧ iand u v < 2147483648 := ⟨Int32.le_toInt _, Int32.toInt_lt _⟩
theorem xs_r (z : Int32) : -2147483648 ≤ z.toInt ∧ z.toInt < 2147483648 := ⟨Int32.le_toInt _, Int32.toInt_lt _⟩
theorem l_callXI {b L : Nat} {xs : Nat → Int32} {pc npc idx maxL n : Nat} {l : List (Nat × Value)} {st0 st : List Value} {x y : Sto} {Q : Int → Sto → Prop} {C : String} {w : MethodName} {cy : ByteArray} {ret9 : Option FieldType} {R2 : Room} {as : List Value} {q : vw_C}
    (hd : decode code pc = .ok (.invokevirtual idx, 3)) (hn : pc + 3 = npc) (hst : st0 = as.reverse ++ .ref 1 :: st) (hcl : vwCl[ci SC 0]? = some q) (hq : q.1 = C) (hw : okV (code, R_law, 4, ret, room_1) idx C w cy maxL ret9 n) (has : ∀ ad ad' : Nat → Nat, ts ad as = ts ad' as) (hlen : as.length = n) (hcat : (st.map (fun v => v.category)).sum ≤ 8) (hR0 : R2.cells = 0 ∧ R2.slots = 0) (hR : R2.frames + 1 ≤ 10 ∧ 8 + (maxL + 11) + R2.locals ≤ 342)
    (hS9 : SpI SC w (Cond.code w cy maxL ret9) R2 (.ref 0 :: as) x Q) (k : ∀ r s1, Q r s1 → Lg b L xs npc l (iV r :: st) s1 y) : Lg b L xs pc l st0 x y := by
  subst hn hst hq
  intro p lc e s m below meth c D cA adx adm H locs ls X hP1 hP2 hS hl
  obtain ⟨⟨hx, hb, hr, hml, hown, hts, hX, hbl, hlk, hgv⟩, hK, hN, hXx, hXm, hDx, hDm, hAx, hAm, hdis⟩ := X
  obtain ⟨⟨w1, w2, w3, w4, w5⟩, w6, w7, w8, w9⟩ := hw
  have hG : GoodIn TW (wsV R_law idx q.1 w (Cond.code w cy maxL ret9 :: TW)) := fun v hv => by
    have : v ∈ TW := by
      rcases List.mem_append.mp hv with h | h
      · simp only [List.mem_cons, List.not_mem_nil, or_false] at h
        rcases h with rfl | rfl | rfl | rfl <;> assumption
      · rcases List.mem_cons.mp h with rfl | h
        · exact w5
        · exact h
    exact ⟨this, good_of_word (List.mem_filter.mp this).2⟩
  have htw : ∀ v ∈ TW, v.before #[Value.ref b] s = true := fun v hv => hts v (List.mem_filter.mp hv).1
  have ha : (wd SC adx cA x)[0]? = some (adx 0, .inr (ci SC 0, (List.range (ln SC 0)).map (fV SC adx x 0))) := by
    rw [wd_at (by decide)]
    rfl
  have hrev : ts (adL b adx adm) (as.reverse ++ .ref 1 :: st) = (ts adx as).reverse ++ .ref (adx 0) :: ts (adL b adx adm) st := by
    rw [has adx (adL b adx adm)]
    simp [ts, tv, adL]
  rw [hrev]
  have hr9 : va_Run p lc e room_1 s m #[Value.ref b] below meth c H locs 600000 7302250 0 0 (F0 m pc ls ((ts adx as).reverse ++ .ref (adx 0) :: ts (adL b adx adm) st)) (ts (adL b adx adm) st) (QQ SC D cA adx (fun r s' => ∃ z, r = some (iV z) ∧ Q z s') (Value.ref (adx 0) :: ts adx as).toArray) (AW SC adx) := by
    refine va_runV (As := ts adx as) (rest := ts (adL b adx adm) st) ⟨hx, hb, hml, hown, htw⟩ (hS9 lc D cA adx) (cwV n htw hG rfl hR0.1 hR0.2 ⟨w6, w7, w8, w9⟩ hR) ⟨fb_pc, va_recv hK hP1 hcl ha, ?_⟩ rfl (by simp [ts, hlen]) hl.1 rfl (lv_room (by rw [ts_cat]; exact hcat)) hd ⟨Nat.le_refl _, Nat.le_refl _⟩
    exact fun U hU hW => ⟨rfl, by rw [hU]; exact hP1, va_K.moved hW.alike hK, hDx, hN.warm hW, by rw [hU]; exact hXx.tr hW (fun a h1 h2 => hS.2.1 a h1 h2) hAx⟩
  intro T hT Y
  obtain ⟨v, st₀, t, T', L9, h0, X', hL9, e1, e2, ⟨⟨r0, s', hv, ⟨z, hz0, hz1⟩, hbb⟩, hz2, hk2⟩, stp⟩ := hr9 T hT Y
  subst hz0
  have hv' : v = some (iV z) := Outcome.returned.inj hv
  subst hv'
  rw [h0] at hz2 hk2
  have hPn : va_P D vwCl (wd SC adx cA s') T'.heap := by rw [e1]; exact hbb
  have hPo : va_P D vwCl (wd SM adm cA y) T'.heap := hP2.kept (fun k9 q9 hk9 => by
    obtain ⟨hi9, rfl⟩ := wd_get hk9
    rw [e1]
    refine hk2 _ ((hP2 k9 _ hk9).lt) ?_
    exact fun hz9 => hdis _ hz9 ⟨k9, hi9, rfl⟩)
  have hS' : va_S (fun q => s.heap.size ≤ q) s.heap T'.heap (locs ++ L9) := ⟨Nat.le_trans hS.1 (by rw [e1]; exact hz2), fun q h1 h2 => by rw [e1, hk2 q (Nat.lt_of_lt_of_le h1 hS.1) (fun z9 => h2 (hAx _ z9))]; exact hS.2.1 q h1 h2, fun q hq => by
    rcases List.mem_append.mp hq with h | h
    · exact hS.2.2 q h
    · exact hAx _ (hL9 q h)⟩
  obtain ⟨t2, a1, b1⟩ := k z s' hz1 p lc e s m below meth c D cA adx adm T'.heap (locs ++ L9) ls ⟨⟨hx, hb, hr, hml, hown, hts, hX, hbl, hlk, hgv⟩, hK, hN, hXx, hXm, hDx, hDm, hAx, hAm, hdis⟩ hPn hPo hS' hl T' rfl X'
  exact ⟨t2, stp t2 a1, b1⟩
theorem l_callXJ {b L : Nat} {xs : Nat → Int32} {pc npc idx maxL n : Nat} {l : List (Nat × Value)} {st0 st : List Value} {x y : Sto} {Q : Int → Sto → Prop} {C : String} {w : MethodName} {cy : ByteArray} {ret9 : Option FieldType} {R2 : Room} {as : List Value} {q : vw_C}
    (hd : decode code pc = .ok (.invokevirtual idx, 3)) (hn : pc + 3 = npc) (hst : st0 = as.reverse ++ .ref 1 :: st) (hcl : vwCl[ci SC 0]? = some q) (hq : q.1 = C) (hw : okV (code, R_law, 4, ret, room_1) idx C w cy maxL ret9 n) (has : ∀ ad ad' : Nat → Nat, ts ad as = ts ad' as) (hlen : as.length = n) (hcat : (st.map (fun v => v.category)).sum ≤ 8) (hR0 : R2.cells = 0 ∧ R2.slots = 0) (hR : R2.frames + 1 ≤ 10 ∧ 8 + (maxL + 11) + R2.locals ≤ 342)
    (hS9 : SpJ SC w (Cond.code w cy maxL ret9) R2 (.ref 0 :: as) x Q) (k : ∀ r s1, Q r s1 → Lg b L xs npc l (jV r :: st) s1 y) : Lg b L xs pc l st0 x y := by
  subst hn hst hq
  intro p lc e s m below meth c D cA adx adm H locs ls X hP1 hP2 hS hl
  obtain ⟨⟨hx, hb, hr, hml, hown, hts, hX, hbl, hlk, hgv⟩, hK, hN, hXx, hXm, hDx, hDm, hAx, hAm, hdis⟩ := X
  obtain ⟨⟨w1, w2, w3, w4, w5⟩, w6, w7, w8, w9⟩ := hw
  have hG : GoodIn TW (wsV R_law idx q.1 w (Cond.code w cy maxL ret9 :: TW)) := fun v hv => by
    have : v ∈ TW := by
      rcases List.mem_append.mp hv with h | h
      · simp only [List.mem_cons, List.not_mem_nil, or_false] at h
        rcases h with rfl | rfl | rfl | rfl <;> assumption
      · rcases List.mem_cons.mp h with rfl | h
        · exact w5
        · exact h
    exact ⟨this, good_of_word (List.mem_filter.mp this).2⟩
  have htw : ∀ v ∈ TW, v.before #[Value.ref b] s = true := fun v hv => hts v (List.mem_filter.mp hv).1
  have ha : (wd SC adx cA x)[0]? = some (adx 0, .inr (ci SC 0, (List.range (ln SC 0)).map (fV SC adx x 0))) := by
    rw [wd_at (by decide)]
    rfl
  have hrev : ts (adL b adx adm) (as.reverse ++ .ref 1 :: st) = (ts adx as).reverse ++ .ref (adx 0) :: ts (adL b adx adm) st := by
    rw [has adx (adL b adx adm)]
    simp [ts, tv, adL]
  rw [hrev]
  have hr9 : va_Run p lc e room_1 s m #[Value.ref b] below meth c H locs 600000 7302250 0 0 (F0 m pc ls ((ts adx as).reverse ++ .ref (adx 0) :: ts (adL b adx adm) st)) (ts (adL b adx adm) st) (QQ SC D cA adx (fun r s' => ∃ z, r = some (jV z) ∧ Q z s') (Value.ref (adx 0) :: ts adx as).toArray) (AW SC adx) := by
    refine va_runV (As := ts adx as) (rest := ts (adL b adx adm) st) ⟨hx, hb, hml, hown, htw⟩ (hS9 lc D cA adx) (cwV n htw hG rfl hR0.1 hR0.2 ⟨w6, w7, w8, w9⟩ hR) ⟨fb_pc, va_recv hK hP1 hcl ha, ?_⟩ rfl (by simp [ts, hlen]) hl.1 rfl (lv_room (by rw [ts_cat]; exact hcat)) hd ⟨Nat.le_refl _, Nat.le_refl _⟩
    exact fun U hU hW => ⟨rfl, by rw [hU]; exact hP1, va_K.moved hW.alike hK, hDx, hN.warm hW, by rw [hU]; exact hXx.tr hW (fun a h1 h2 => hS.2.1 a h1 h2) hAx⟩
  intro T hT Y
  obtain ⟨v, st₀, t, T', L9, h0, X', hL9, e1, e2, ⟨⟨r0, s', hv, ⟨z, hz0, hz1⟩, hbb⟩, hz2, hk2⟩, stp⟩ := hr9 T hT Y
  subst hz0
  have hv' : v = some (jV z) := Outcome.returned.inj hv
  subst hv'
  rw [h0] at hz2 hk2
  have hPn : va_P D vwCl (wd SC adx cA s') T'.heap := by rw [e1]; exact hbb
  have hPo : va_P D vwCl (wd SM adm cA y) T'.heap := hP2.kept (fun k9 q9 hk9 => by
    obtain ⟨hi9, rfl⟩ := wd_get hk9
    rw [e1]
    refine hk2 _ ((hP2 k9 _ hk9).lt) ?_
    exact fun hz9 => hdis _ hz9 ⟨k9, hi9, rfl⟩)
  have hS' : va_S (fun q => s.heap.size ≤ q) s.heap T'.heap (locs ++ L9) := ⟨Nat.le_trans hS.1 (by rw [e1]; exact hz2), fun q h1 h2 => by rw [e1, hk2 q (Nat.lt_of_lt_of_le h1 hS.1) (fun z9 => h2 (hAx _ z9))]; exact hS.2.1 q h1 h2, fun q hq => by
    rcases List.mem_append.mp hq with h | h
    · exact hS.2.2 q h
    · exact hAx _ (hL9 q h)⟩
  obtain ⟨t2, a1, b1⟩ := k z s' hz1 p lc e s m below meth c D cA adx adm T'.heap (locs ++ L9) ls ⟨⟨hx, hb, hr, hml, hown, hts, hX, hbl, hlk, hgv⟩, hK, hN, hXx, hXm, hDx, hDm, hAx, hAm, hdis⟩ hPn hPo hS' hl T' rfl X'
  exact ⟨t2, stp t2 a1, b1⟩
theorem l_callMI {b L : Nat} {xs : Nat → Int32} {pc npc idx maxL n : Nat} {l : List (Nat × Value)} {st0 st : List Value} {x y : Sto} {Q : Int → Sto → Prop} {C : String} {w : MethodName} {cy : ByteArray} {ret9 : Option FieldType} {R2 : Room} {as : List Value} {q : vw_C}
    (hd : decode code pc = .ok (.invokevirtual idx, 3)) (hn : pc + 3 = npc) (hst : st0 = as.reverse ++ .ref 2 :: st) (hcl : vwCl[ci SM 0]? = some q) (hq : q.1 = C) (hw : okV (code, R_law, 4, ret, room_1) idx C w cy maxL ret9 n) (has : ∀ ad ad' : Nat → Nat, ts ad as = ts ad' as) (hlen : as.length = n) (hcat : (st.map (fun v => v.category)).sum ≤ 8) (hR0 : R2.cells = 0 ∧ R2.slots = 0) (hR : R2.frames + 1 ≤ 10 ∧ 8 + (maxL + 11) + R2.locals ≤ 342)
    (hS9 : SpI SM w (Cond.code w cy maxL ret9) R2 (.ref 0 :: as) y Q) (k : ∀ r s1, Q r s1 → Lg b L xs npc l (iV r :: st) x s1) : Lg b L xs pc l st0 x y := by
  subst hn hst hq
  intro p lc e s m below meth c D cA adx adm H locs ls X hP1 hP2 hS hl
  obtain ⟨⟨hx, hb, hr, hml, hown, hts, hX, hbl, hlk, hgv⟩, hK, hN, hXx, hXm, hDx, hDm, hAx, hAm, hdis⟩ := X
  obtain ⟨⟨w1, w2, w3, w4, w5⟩, w6, w7, w8, w9⟩ := hw
  have hG : GoodIn TW (wsV R_law idx q.1 w (Cond.code w cy maxL ret9 :: TW)) := fun v hv => by
    have : v ∈ TW := by
      rcases List.mem_append.mp hv with h | h
      · simp only [List.mem_cons, List.not_mem_nil, or_false] at h
        rcases h with rfl | rfl | rfl | rfl <;> assumption
      · rcases List.mem_cons.mp h with rfl | h
        · exact w5
        · exact h
    exact ⟨this, good_of_word (List.mem_filter.mp this).2⟩
  have htw : ∀ v ∈ TW, v.before #[Value.ref b] s = true := fun v hv => hts v (List.mem_filter.mp hv).1
  have ha : (wd SM adm cA y)[0]? = some (adm 0, .inr (ci SM 0, (List.range (ln SM 0)).map (fV SM adm y 0))) := by
    rw [wd_at (by decide)]
    rfl
  have hrev : ts (adL b adx adm) (as.reverse ++ .ref 2 :: st) = (ts adm as).reverse ++ .ref (adm 0) :: ts (adL b adx adm) st := by
    rw [has adm (adL b adx adm)]
    simp [ts, tv, adL]
  rw [hrev]
  have hr9 : va_Run p lc e room_1 s m #[Value.ref b] below meth c H locs 600000 7302250 0 0 (F0 m pc ls ((ts adm as).reverse ++ .ref (adm 0) :: ts (adL b adx adm) st)) (ts (adL b adx adm) st) (QQ SM D cA adm (fun r s' => ∃ z, r = some (iV z) ∧ Q z s') (Value.ref (adm 0) :: ts adm as).toArray) (AW SM adm) := by
    refine va_runV (As := ts adm as) (rest := ts (adL b adx adm) st) ⟨hx, hb, hml, hown, htw⟩ (hS9 lc D cA adm) (cwV n htw hG rfl hR0.1 hR0.2 ⟨w6, w7, w8, w9⟩ hR) ⟨fb_pc, va_recv hK hP2 hcl ha, ?_⟩ rfl (by simp [ts, hlen]) hl.1 rfl (lv_room (by rw [ts_cat]; exact hcat)) hd ⟨Nat.le_refl _, Nat.le_refl _⟩
    exact fun U hU hW => ⟨rfl, by rw [hU]; exact hP2, va_K.moved hW.alike hK, hDm, hN.warm hW, by rw [hU]; exact hXm.tr hW (fun a h1 h2 => hS.2.1 a h1 h2) hAm⟩
  intro T hT Y
  obtain ⟨v, st₀, t, T', L9, h0, X', hL9, e1, e2, ⟨⟨r0, s', hv, ⟨z, hz0, hz1⟩, hbb⟩, hz2, hk2⟩, stp⟩ := hr9 T hT Y
  subst hz0
  have hv' : v = some (iV z) := Outcome.returned.inj hv
  subst hv'
  rw [h0] at hz2 hk2
  have hPn : va_P D vwCl (wd SM adm cA s') T'.heap := by rw [e1]; exact hbb
  have hPo : va_P D vwCl (wd SC adx cA x) T'.heap := hP1.kept (fun k9 q9 hk9 => by
    obtain ⟨hi9, rfl⟩ := wd_get hk9
    rw [e1]
    refine hk2 _ ((hP1 k9 _ hk9).lt) ?_
    exact fun hz9 => hdis _ ⟨k9, hi9, rfl⟩ hz9)
  have hS' : va_S (fun q => s.heap.size ≤ q) s.heap T'.heap (locs ++ L9) := ⟨Nat.le_trans hS.1 (by rw [e1]; exact hz2), fun q h1 h2 => by rw [e1, hk2 q (Nat.lt_of_lt_of_le h1 hS.1) (fun z9 => h2 (hAm _ z9))]; exact hS.2.1 q h1 h2, fun q hq => by
    rcases List.mem_append.mp hq with h | h
    · exact hS.2.2 q h
    · exact hAm _ (hL9 q h)⟩
  obtain ⟨t2, a1, b1⟩ := k z s' hz1 p lc e s m below meth c D cA adx adm T'.heap (locs ++ L9) ls ⟨⟨hx, hb, hr, hml, hown, hts, hX, hbl, hlk, hgv⟩, hK, hN, hXx, hXm, hDx, hDm, hAx, hAm, hdis⟩ hPo hPn hS' hl T' rfl X'
  exact ⟨t2, stp t2 a1, b1⟩
theorem l_callMJ {b L : Nat} {xs : Nat → Int32} {pc npc idx maxL n : Nat} {l : List (Nat × Value)} {st0 st : List Value} {x y : Sto} {Q : Int → Sto → Prop} {C : String} {w : MethodName} {cy : ByteArray} {ret9 : Option FieldType} {R2 : Room} {as : List Value} {q : vw_C}
    (hd : decode code pc = .ok (.invokevirtual idx, 3)) (hn : pc + 3 = npc) (hst : st0 = as.reverse ++ .ref 2 :: st) (hcl : vwCl[ci SM 0]? = some q) (hq : q.1 = C) (hw : okV (code, R_law, 4, ret, room_1) idx C w cy maxL ret9 n) (has : ∀ ad ad' : Nat → Nat, ts ad as = ts ad' as) (hlen : as.length = n) (hcat : (st.map (fun v => v.category)).sum ≤ 8) (hR0 : R2.cells = 0 ∧ R2.slots = 0) (hR : R2.frames + 1 ≤ 10 ∧ 8 + (maxL + 11) + R2.locals ≤ 342)
    (hS9 : SpJ SM w (Cond.code w cy maxL ret9) R2 (.ref 0 :: as) y Q) (k : ∀ r s1, Q r s1 → Lg b L xs npc l (jV r :: st) x s1) : Lg b L xs pc l st0 x y := by
  subst hn hst hq
  intro p lc e s m below meth c D cA adx adm H locs ls X hP1 hP2 hS hl
  obtain ⟨⟨hx, hb, hr, hml, hown, hts, hX, hbl, hlk, hgv⟩, hK, hN, hXx, hXm, hDx, hDm, hAx, hAm, hdis⟩ := X
  obtain ⟨⟨w1, w2, w3, w4, w5⟩, w6, w7, w8, w9⟩ := hw
  have hG : GoodIn TW (wsV R_law idx q.1 w (Cond.code w cy maxL ret9 :: TW)) := fun v hv => by
    have : v ∈ TW := by
      rcases List.mem_append.mp hv with h | h
      · simp only [List.mem_cons, List.not_mem_nil, or_false] at h
        rcases h with rfl | rfl | rfl | rfl <;> assumption
      · rcases List.mem_cons.mp h with rfl | h
        · exact w5
        · exact h
    exact ⟨this, good_of_word (List.mem_filter.mp this).2⟩
  have htw : ∀ v ∈ TW, v.before #[Value.ref b] s = true := fun v hv => hts v (List.mem_filter.mp hv).1
  have ha : (wd SM adm cA y)[0]? = some (adm 0, .inr (ci SM 0, (List.range (ln SM 0)).map (fV SM adm y 0))) := by
    rw [wd_at (by decide)]
    rfl
  have hrev : ts (adL b adx adm) (as.reverse ++ .ref 2 :: st) = (ts adm as).reverse ++ .ref (adm 0) :: ts (adL b adx adm) st := by
    rw [has adm (adL b adx adm)]
    simp [ts, tv, adL]
  rw [hrev]
  have hr9 : va_Run p lc e room_1 s m #[Value.ref b] below meth c H locs 600000 7302250 0 0 (F0 m pc ls ((ts adm as).reverse ++ .ref (adm 0) :: ts (adL b adx adm) st)) (ts (adL b adx adm) st) (QQ SM D cA adm (fun r s' => ∃ z, r = some (jV z) ∧ Q z s') (Value.ref (adm 0) :: ts adm as).toArray) (AW SM adm) := by
    refine va_runV (As := ts adm as) (rest := ts (adL b adx adm) st) ⟨hx, hb, hml, hown, htw⟩ (hS9 lc D cA adm) (cwV n htw hG rfl hR0.1 hR0.2 ⟨w6, w7, w8, w9⟩ hR) ⟨fb_pc, va_recv hK hP2 hcl ha, ?_⟩ rfl (by simp [ts, hlen]) hl.1 rfl (lv_room (by rw [ts_cat]; exact hcat)) hd ⟨Nat.le_refl _, Nat.le_refl _⟩
    exact fun U hU hW => ⟨rfl, by rw [hU]; exact hP2, va_K.moved hW.alike hK, hDm, hN.warm hW, by rw [hU]; exact hXm.tr hW (fun a h1 h2 => hS.2.1 a h1 h2) hAm⟩
  intro T hT Y
  obtain ⟨v, st₀, t, T', L9, h0, X', hL9, e1, e2, ⟨⟨r0, s', hv, ⟨z, hz0, hz1⟩, hbb⟩, hz2, hk2⟩, stp⟩ := hr9 T hT Y
  subst hz0
  have hv' : v = some (jV z) := Outcome.returned.inj hv
  subst hv'
  rw [h0] at hz2 hk2
  have hPn : va_P D vwCl (wd SM adm cA s') T'.heap := by rw [e1]; exact hbb
  have hPo : va_P D vwCl (wd SC adx cA x) T'.heap := hP1.kept (fun k9 q9 hk9 => by
    obtain ⟨hi9, rfl⟩ := wd_get hk9
    rw [e1]
    refine hk2 _ ((hP1 k9 _ hk9).lt) ?_
    exact fun hz9 => hdis _ ⟨k9, hi9, rfl⟩ hz9)
  have hS' : va_S (fun q => s.heap.size ≤ q) s.heap T'.heap (locs ++ L9) := ⟨Nat.le_trans hS.1 (by rw [e1]; exact hz2), fun q h1 h2 => by rw [e1, hk2 q (Nat.lt_of_lt_of_le h1 hS.1) (fun z9 => h2 (hAm _ z9))]; exact hS.2.1 q h1 h2, fun q hq => by
    rcases List.mem_append.mp hq with h | h
    · exact hS.2.2 q h
    · exact hAm _ (hL9 q h)⟩
  obtain ⟨t2, a1, b1⟩ := k z s' hz1 p lc e s m below meth c D cA adx adm T'.heap (locs ++ L9) ls ⟨⟨hx, hb, hr, hml, hown, hts, hX, hbl, hlk, hgv⟩, hK, hN, hXx, hXm, hDx, hDm, hAx, hAm, hdis⟩ hPo hPn hS' hl T' rfl X'
  exact ⟨t2, stp t2 a1, b1⟩
