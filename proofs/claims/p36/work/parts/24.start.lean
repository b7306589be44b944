/-! THE CLAIM OUT OF ONE WALK OF THE LAW'S BODY. Your part is whole_start (and what it stands on); all else here is the same for every law, but numbers. -/
def R_law : String := "ChipGameLaw"
def lw_P (b : Addr) (xs : List Int32) (args : Array Value) (s : State) : Prop := args = #[.ref b] ∧ s.IntsAt b xs ∧ xs.length ≤ 260 ∧ (Jvm.Cond.and given_1 narrow_1).before args s = true
def lw_Q (_ : Array Value) (s : State) (o : Outcome) (t : State) : Prop := o = .returned (some (.int 1)) ∧ Framed s o t [] 600000 7302250
def lw_Z (below : List Frame) (a : Array Value) (s : State) : State → Prop := fun t => ∃ o, t.status = .running ∧ Ended t below o ∧ lw_Q a s o t
/-- the law's own end, with 1 on the stack, nothing written that was there before, its room as the claim has it -/
theorem lw_ret {p : Program} {l : Launch} {e : Env} {s : State} {m : MethodId} {below : List Frame} {meth : Method} {c : Code} {b : Nat} (hx : p.tables.exec = Jvm.exec) (hb : c.code = code) (hr : meth.sig.returnType = ret) (hlocks : meth.locks = false) {pc : Nat} {H : Heap} {ls : Array Slot} (hdg : decode code pc = .ok (.ireturn, 1)) : W p l e room_1 s m #[Value.ref b] below meth c H [] 600000 7302250 (lw_Z below #[Value.ref b] s) (F0 m pc ls [.int 1]) := by
  intro T hT X
  obtain ⟨fs, hret, hrun, hended, hW, hframe⟩ := X.leave (v := some (.int 1)) (hlocks := hlocks) (fun h => by rw [hr] at h; cases h)
  have hmeth' : T.vm.method? m = some meth := X.method'
  refine ⟨T.setFrames fs, ?_, .returned (some (.int 1)), hrun, hended, rfl, ⟨_, rfl⟩, hW, hframe⟩
  jvm_step X.here [X.here.top, hx, hb, hdg, hmeth', hr, ret, narrow_b1]
  (try refine ⟨rfl, ?_⟩); (try refine ⟨rfl, ?_⟩)
  first | (intro acts; rw [hret _ acts rfl rfl rfl]) | rw [hret _ _ rfl rfl rfl]
  exact Steps.refl _
/-- what holds at the law's entry: the machine, the code, the tables' words (any of lw_tbl by 'hts w (by decide +kernel)'), the script of L ints xs at the cell b, what the Statement gives of the start (any of its parts by flat_of_before) -/
def lw_At (p : Program) (s : State) (m : MethodId) (meth : Method) (c : Code) (b L : Nat) (xs : Nat → Int32) : Prop :=
  p.tables.exec = Jvm.exec ∧ c.code = code ∧ meth.sig.returnType = ret ∧ c.maxLocals = 13 ∧ s.vm.findClass R_law = some m.cls ∧ (∀ w ∈ lw_tbl, w.before #[Value.ref b] s = true) ∧ va_X b L xs s s.heap ∧ b < s.heap.size ∧ meth.locks = false ∧ (Jvm.Cond.and given_1 narrow_1).before #[Value.ref b] s = true
/-! the law's start: what the Statement gives, the two objects, the loop -/
theorem st_NW {args : Array Value} {s : State} (hts : ∀ w ∈ lw_tbl, w.before args s = true) : NW s ∧ AO s := by
  refine ⟨fun q hq => ?_, (ao_vm rfl).trans (hts (Cond.arrayOver (.array .int)) (List.mem_of_getElem? (i := 58) (by decide +kernel))), (ao_vm rfl).trans (hts (Cond.arrayOver (.array .long)) (List.mem_of_getElem? (i := 198) (by decide +kernel)))⟩
  have hm : Cond.methodLinkNest q.1 q.2.1 q.2.2.1 q.2.2.2 ∈ lw_tbl := (show ∀ q ∈ nestM, Cond.methodLinkNest q.1 q.2.1 q.2.2.1 q.2.2.2 ∈ lw_tbl from by decide +kernel) q hq
  exact va_Nw.of rfl (hts _ hm)
theorem st_K {args : Array Value} {s : State} (hts : ∀ w ∈ lw_tbl, w.before args s = true) : ∃ (D : va_G) (cA : Nat → ClassId), va_K D vwCl (tysOf cA) s := by
  have htw : ∀ v ∈ TW, v.before args s = true := fun v hv => hts v (List.mem_filter.mp hv).1
  have u0 := u_known (C := RX0) (T := TX0) (N := 3) htw inw_X0 (hts (Cond.instantiable RX0 3) (List.mem_of_getElem? (i := 158) (by decide +kernel)))
  have u1 := u_known (C := RX1) (T := TX1) (N := 3) htw inw_X1 (hts (Cond.instantiable RX1 3) (List.mem_of_getElem? (i := 175) (by decide +kernel)))
  have u2 := u_known (C := RX2) (T := TX2) (N := 8) htw inw_X2 (hts (Cond.instantiable RX2 8) (List.mem_of_getElem? (i := 52) (by decide +kernel)))
  have u3 := u_known (C := RX3) (T := TX3) (N := 3) htw inw_X3 (hts (Cond.instantiable RX3 3) (List.mem_of_getElem? (i := 125) (by decide +kernel)))
  have u4 := u_known (C := RX4) (T := TX4) (N := 4) htw inw_X4 (hts (Cond.instantiable RX4 4) (List.mem_of_getElem? (i := 235) (by decide +kernel)))
  have u5 := u_known (C := RX5) (T := TX5) (N := 5) htw inw_X5 (hts (Cond.instantiable RX5 5) (List.mem_of_getElem? (i := 192) (by decide +kernel)))
  have u6 := u_known (C := RX7) (T := TX7) (N := 2) htw inw_X7 (hts (Cond.instantiable RX7 2) (List.mem_of_getElem? (i := 143) (by decide +kernel)))
  have u7 := u_known (C := RX8) (T := TX8) (N := 2) htw inw_X8 (hts (Cond.instantiable RX8 2) (List.mem_of_getElem? (i := 111) (by decide +kernel)))
  have u8 := u_known (C := RX9) (T := TX9) (N := 3) htw inw_X9 (hts (Cond.instantiable RX9 3) (List.mem_of_getElem? (i := 219) (by decide +kernel)))
  have u9 := u_known (C := RX10) (T := TX10) (N := 12) htw inw_X10 (hts (Cond.instantiable RX10 12) (List.mem_of_getElem? (i := 44) (by decide +kernel)))
  have hc : ∀ c : Nat, ∃ z : ClassId × (Nat → Nat), ∀ q, vwCl[c]? = some q → u_Kn s q.1 q.2.1 q.2.2 z.1 z.2 := by
    intro c
    cases hq : vwCl[c]? with
    | none => exact ⟨(0, fun _ => 0), fun q e => by cases e⟩
    | some q0 =>
      have hlt : c < 10 := (List.getElem?_eq_some_iff.mp hq).1
      rcases (show c = 0 ∨ c = 1 ∨ c = 2 ∨ c = 3 ∨ c = 4 ∨ c = 5 ∨ c = 6 ∨ c = 7 ∨ c = 8 ∨ c = 9 from by omega) with rfl | rfl | rfl | rfl | rfl | rfl | rfl | rfl | rfl | rfl
      · obtain ⟨z1, z2, hz⟩ := u0
        cases hq
        exact ⟨(z1, z2), fun q' e => by cases e; exact hz⟩
      · obtain ⟨z1, z2, hz⟩ := u1
        cases hq
        exact ⟨(z1, z2), fun q' e => by cases e; exact hz⟩
      · obtain ⟨z1, z2, hz⟩ := u2
        cases hq
        exact ⟨(z1, z2), fun q' e => by cases e; exact hz⟩
      · obtain ⟨z1, z2, hz⟩ := u3
        cases hq
        exact ⟨(z1, z2), fun q' e => by cases e; exact hz⟩
      · obtain ⟨z1, z2, hz⟩ := u4
        cases hq
        exact ⟨(z1, z2), fun q' e => by cases e; exact hz⟩
      · obtain ⟨z1, z2, hz⟩ := u5
        cases hq
        exact ⟨(z1, z2), fun q' e => by cases e; exact hz⟩
      · obtain ⟨z1, z2, hz⟩ := u6
        cases hq
        exact ⟨(z1, z2), fun q' e => by cases e; exact hz⟩
      · obtain ⟨z1, z2, hz⟩ := u7
        cases hq
        exact ⟨(z1, z2), fun q' e => by cases e; exact hz⟩
      · obtain ⟨z1, z2, hz⟩ := u8
        cases hq
        exact ⟨(z1, z2), fun q' e => by cases e; exact hz⟩
      · obtain ⟨z1, z2, hz⟩ := u9
        cases hq
        exact ⟨(z1, z2), fun q' e => by cases e; exact hz⟩
  obtain ⟨f, hf⟩ := Classical.axiomOfChoice hc
  have prim : ∀ ty : FieldType, Cond.arrayClass ty ∈ lw_tbl → ∃ cA : ClassId, ArrOfT s cA ty ∧ s.vm.findClass ("[" ++ ty.toString) = some cA := by
    intro ty h
    obtain ⟨c, k, comp, h1, h2, h3⟩ := Cond.arrayClass_spec (args := args) (first := s) (o := none) (s := s) (idx := []) (type := ty) (hts _ h)
    exact ⟨c, fun n z => ⟨fun k h => (by cases h), k, h2, comp, h3⟩, h1⟩
  have arrs : ∀ ty : FieldType, Cond.arrayOver (.array ty) ∈ lw_tbl → ∃ cA : ClassId, ArrOfT s cA (.array ty) ∧ s.vm.findClass ("[" ++ (FieldType.array ty).toString) = some cA := by
    intro ty h
    obtain ⟨comp, c, k, h1, h2, h3, h4⟩ := Cond.arrayOver_specA (args := args) (first := s) (o := none) (s := s) (idx := []) (t := ty) (hts _ h)
    exact ⟨c, fun n z => ⟨fun k h => (by cases h), k, h2, comp, h3⟩, h4⟩
  obtain ⟨c1, a1, b1⟩ := prim .int (List.mem_of_getElem? (i := 109) (by decide +kernel))
  obtain ⟨c2, a2, b2⟩ := prim .long (List.mem_of_getElem? (i := 217) (by decide +kernel))
  obtain ⟨c3, a3, b3⟩ := prim .char (List.mem_of_getElem? (i := 123) (by decide +kernel))
  obtain ⟨c4, a4, b4⟩ := prim .boolean (List.mem_of_getElem? (i := 156) (by decide +kernel))
  obtain ⟨c5, a5, b5⟩ := arrs .int (List.mem_of_getElem? (i := 58) (by decide +kernel))
  obtain ⟨c6, a6, b6⟩ := arrs .long (List.mem_of_getElem? (i := 198) (by decide +kernel))
  refine ⟨(fun c => (f c).1, fun c => (f c).2), fun i => if i = 1 then c1 else if i = 2 then c2 else if i = 3 then c3 else if i = 4 then c4 else if i = 5 then c5 else c6, fun c q hq => hf c q hq, fun k q hk => ?_⟩
  have hlt : k < 6 := (List.getElem?_eq_some_iff.mp hk).1
  rcases (show k = 0 ∨ k = 1 ∨ k = 2 ∨ k = 3 ∨ k = 4 ∨ k = 5 from by omega) with rfl | rfl | rfl | rfl | rfl | rfl
  · cases hk; exact ⟨a1, b1⟩
  · cases hk; exact ⟨a2, b2⟩
  · cases hk; exact ⟨a3, b3⟩
  · cases hk; exact ⟨a4, b4⟩
  · cases hk; exact ⟨a5, b5⟩
  · cases hk; exact ⟨a6, b6⟩
theorem dL_cell_0 : decode cL_cell 0 = .ok (.iload_n 1, 1) := by decide +kernel
theorem dL_cell_1 : decode cL_cell 1 = .ok (.aload_n 0, 1) := by decide +kernel
theorem dL_cell_2 : decode cL_cell 2 = .ok (.arraylength, 1) := by decide +kernel
theorem dL_cell_3 : decode cL_cell 3 = .ok (.if_icmp .ge 9, 3) := by decide +kernel
theorem dL_cell_6 : decode cL_cell 6 = .ok (.aload_n 0, 1) := by decide +kernel
theorem dL_cell_7 : decode cL_cell 7 = .ok (.iload_n 1, 1) := by decide +kernel
theorem dL_cell_8 : decode cL_cell 8 = .ok (.iaload, 1) := by decide +kernel
theorem dL_cell_9 : decode cL_cell 9 = .ok (.goto 11, 3) := by decide +kernel
theorem dL_cell_12 : decode cL_cell 12 = .ok (.ldc 7, 2) := by decide +kernel
theorem dL_cell_14 : decode cL_cell 14 = .ok (.iload_n 1, 1) := by decide +kernel
theorem dL_cell_15 : decode cL_cell 15 = .ok (.imul, 1) := by decide +kernel
theorem dL_cell_16 : decode cL_cell 16 = .ok (.sipush 389, 3) := by decide +kernel
theorem dL_cell_19 : decode cL_cell 19 = .ok (.iadd, 1) := by decide +kernel
theorem dL_cell_20 : decode cL_cell 20 = .ok (.ireturn, 1) := by decide +kernel
theorem tw_c7 : Cond.constant RL 7 (Int32.ofInt (4570009)) ∈ TW := tw_in (List.mem_of_getElem? (i := 486) (by decide +kernel)) (by decide +kernel)
theorem cell_end {n : Nat} {r : Int} {s : Sto} (hr : -2147483648 ≤ r ∧ r < 2147483648) : Go (SL n) M_La_cell (fI (fun r s' => s' = s ∧ -2147483648 ≤ r ∧ r < 2147483648)) 0 0 20 [(0, .ref 2000)] [iV r] s := by
  exact g_iret dL_cell_20 rfl rfl (by decide) ⟨_, rfl, rfl, hr⟩
/-- the script's cell or a number made of the place: some int -/
theorem k_La_cell {n : Nat} {x2 : Int} {s : Sto} (hx : 0 ≤ x2 ∧ x2 < 400) : K_La_cell n 2000 x2 s (fun r s' => s' = s ∧ -2147483648 ≤ r ∧ r < 2147483648) := by
  refine Sp.body (by decide +kernel) (Nat.le_of_ble_eq_true rfl) ?_
  show Go (SL n) M_La_cell (fI _) 0 0 0 [(0, .ref 2000), (1, iV x2)] [] s
  intro p lc e u m args below meth c D cA ad H locs ls A Z X hP hS hl
  obtain ⟨L, xs, h1, h2, h3, h4⟩ := X.2.2.2.2.2.2.2.2.2.2.1
  have e9 : Int32.ofNat L = Int32.ofInt (L : Int) := (Int32.ofInt_eq_ofNat (n := L)).symm
  have hr : (-2147483648 ≤ (L : Int) ∧ (L : Int) < 2147483648) ∧ -2147483648 ≤ x2 ∧ x2 < 2147483648 := by omega
  refine lv_iload_n X.1 X.2.1 dL_cell_0 rfl (lget_at hl (v := iV x2) rfl) ?_
  refine lv_aload_n X.1 X.2.1 dL_cell_1 rfl (lget_at hl (v := .ref 2000) rfl) ?_
  refine va_slen X.1 X.2.1 h1 h3 h4 hS dL_cell_2 ?_
  rw [e9]
  refine lv_icmp_ge X.1 X.2.1 dL_cell_3 (tgt := 12) (by decide) (fun q => ?_) (fun q => ?_)
  · have k : Go (SL n) M_La_cell (fI (fun r s' => s' = s ∧ -2147483648 ≤ r ∧ r < 2147483648)) 0 0 12 [(0, .ref 2000), (1, iV x2)] [] s := by
      refine g_ldc (npc := 14) (x := 4570009) dL_cell_12 rfl tw_c7 ?_
      refine g_iload_n (npc := 15) dL_cell_14 rfl rfl rfl ?_
      refine g_imul (npc := 16) dL_cell_15 rfl ?_
      refine g_sipush (npc := 19) (x := 389) dL_cell_16 rfl (by decide) ?_
      refine g_iadd (npc := 20) dL_cell_19 rfl ?_
      refine Go.lsub [0] rfl ?_
      exact cell_end (by omega)
    exact k p lc e u m args below meth c D cA ad H locs ls A Z X hP hS hl
  · have hlt : x2 < (L : Int) := by
      have := (not_congr (i32_le hr)).mp q
      omega
    obtain ⟨a1, a2⟩ := i32_ix (i := x2) (n := L) ⟨hx.1, hlt⟩ (by omega)
    refine lv_aload_n X.1 X.2.1 dL_cell_6 rfl (lget_at hl (v := .ref 2000) rfl) ?_
    refine lv_iload_n X.1 X.2.1 dL_cell_7 rfl (lget_at hl (v := iV x2) rfl) ?_
    refine va_sld X.1 X.2.1 h1 h3 h4 hS a1 dL_cell_8 ?_
    have hv : ∀ v : Int32, -2147483648 ≤ v.toInt ∧ v.toInt < 2147483648 := fun v => by
      have := Int32.le_toInt v
      have := Int32.toInt_lt v
      omega
    generalize xs (Int32.ofInt x2).toNatClampNeg = v
    have k : Go (SL n) M_La_cell (fI (fun r s' => s' = s ∧ -2147483648 ≤ r ∧ r < 2147483648)) 0 0 9 [(0, .ref 2000), (1, iV x2)] [iV v.toInt] s := by
      refine g_goto (npc := 20) dL_cell_9 (by decide) ?_
      refine Go.lsub [0] rfl ?_
      exact cell_end (hv v)
    have := k p lc e u m args below meth c D cA ad H locs ls A Z X hP hS hl
    have ev : ts ad [iV v.toInt] = [.int v] := by
      show [Value.int (Int32.ofInt v.toInt)] = _
      rw [i32_inv]
    rw [ev] at this
    exact this
theorem dL_law_0 : decode cL_law 0 = .ok (.new 10, 3) := by decide +kernel
theorem dL_law_3 : decode cL_law 3 = .ok (.dup, 1) := by decide +kernel
theorem dL_law_4 : decode cL_law 4 = .ok (.invokespecial 131, 3) := by decide +kernel
set_option maxHeartbeats 4000000 in
set_option maxRecDepth 20000 in
/-- the law from its entry, out of what the constructor does and a walk from behind it -/
theorem start_open {p : Program} {e : Env} {s : State} {m : MethodId} {below : List Frame} {meth : Method} {c : Code} (l : Launch) {b L : Nat} {xs : Nat → Int32} (hL : L ≤ 260) (C0 : lw_At p s m meth c b L xs)
    {Q1 Q2 : Sto → Prop} (i1 : K_Gr_clear 0 2 iC_s0 Q1) (i2 : ∀ s1, Q1 s1 → K_Gr_append 0 0 1 s1 (fun s2 => Q2 s2)) (k : ∀ σ, Q2 σ → Go (SL 0) M_La_law (fI (fun r _ => r = 1)) 190 3560 7 [(0, .ref 2000)] [.ref 0] σ) :
    W p l e room_1 s m #[Value.ref b] below meth c s.heap [] 0 0 (lw_Z below #[Value.ref b] s) (entryFrame m ([Value.ref b] : List Value).toArray 13) := by
  obtain ⟨hx, hb, hr, hml, hown, hts, hX, hbl, hlk, hgv⟩ := C0
  obtain ⟨hN, hAO⟩ := st_NW hts
  obtain ⟨D, cA, hK⟩ := st_K hts
  have htw : ∀ v ∈ TW, v.before #[Value.ref b] s = true := fun v hv => hts v (List.mem_filter.mp hv).1
  have hl := lv_entry ([.ref b]) (n := 13) (Nat.le_of_ble_eq_true rfl)
  rw [lg_entry_eq]
  generalize (lg_sl ([.ref b]) ++ List.replicate (13 - (lg_sl ([.ref b])).length) Slot.unset).toArray = ls at hl ⊢
  have hl : lv_has ls 13 [(0, .ref b)] := hl
  have hGood : ∀ (y : MethodName) (cy : ByteArray) (maxL : Nat), Cond.code y cy maxL none ∈ TW → GoodIn TW (Cond.code y cy maxL none :: TW) := fun y cy maxL h1 w hw => by
    have : w ∈ TW := by
      rcases List.mem_cons.mp hw with rfl | h
      · exact h1
      · exact h
    exact ⟨this, good_of_word (List.mem_filter.mp this).2⟩
  have hKn1 := hK.1 9 _ rfl
  refine W.newcK hx hb (index := 10) hown (hts (Cond.classLink R_law 10 RX10) (List.mem_of_getElem? (i := 43) (by decide +kernel))) (hts (Cond.instantiable RX10 12) (List.mem_of_getElem? (i := 44) (by decide +kernel))) (hts (Cond.initialized RX10) (List.mem_of_getElem? (i := 31) (by decide +kernel))) rfl dL_law_0 (by decide) (by decide) hKn1.2.1 rfl fun H1 kC hkC e1 z1 o1 => ?_
  have hB1 := adOf_B s.heap.size (fun _ => b)
  have hb20 : adOf s.heap.size (fun _ => b) 2000 = b := rfl
  generalize adOf s.heap.size (fun _ => b) = adx at hB1 hb20
  have hX1 : XS adx (fun q => s.heap.size ≤ q) s s.heap := ⟨L, xs, by rw [hb20]; exact hX, hL, by rw [hb20]; exact hbl, by rw [hb20]; omega⟩
  have hP1 : va_P D vwCl (wc dl1 adx cA) H1 := by
    intro k q hk
    rw [wc_at] at hk
    have hk0 : k < 1 := by
      cases hd : dl1[k]? with
      | none => rw [hd] at hk; cases hk
      | some _ => exact (List.getElem?_eq_some_iff.mp hd).1
    rw [show k = 0 by omega] at hk
    cases hk
    refine ⟨_, rfl, ?_⟩
    rw [hB1 0 (by decide)]
    exact (u_born tyX10 htw inw_X10 hKn1 hkC e1 tyX10_ok).to (show ∀ k, k < 12 → defaultValue (tyX10 k) = vp_V (List.replicate 12 Value.null) k from by decide)
  have hS1 : va_S (fun q => s.heap.size ≤ q) s.heap H1 [] := ⟨by omega, fun x h1 _ => o1 x h1, fun _ h => by cases h⟩
  refine lv_dup hx hb dL_law_3 rfl ?_
  show W p l e room_1 s m #[Value.ref b] below meth c H1 [] 1 12 (lw_Z below #[Value.ref b] s) (F0 m 4 ls [.ref s.heap.size, .ref s.heap.size])
  have hr1 := va_runI (meth := meth) (cells := 1) (slots := 12) (locs := []) (g := F0 m 4 ls [.ref s.heap.size, .ref s.heap.size]) (As := []) (rest := [.ref s.heap.size]) (index := 131) (b := s.heap.size) (below := below) (e := e) (R := room_1) (H := H1) ⟨hx, hb, hml, hown, htw⟩ (n_Cg_init i1 i2 l D cA adx s.heap.size) (cwI 0 htw (hGood _ _ _ (tw_in (List.mem_of_getElem? (i := 47) (by decide +kernel)) (by decide +kernel))) rfl rfl rfl (hts (Cond.initialized RX10) (List.mem_of_getElem? (i := 31) (by decide +kernel))) (hts (Cond.methodLink R_law 131 yX10_init) (List.mem_of_getElem? (i := 45) (by decide +kernel))) (hts (Cond.instanceMethod yX10_init) (List.mem_of_getElem? (i := 46) (by decide +kernel))) rfl ⟨by decide, by decide, by decide +kernel⟩ ⟨by decide, by decide⟩) ⟨fb_pC, fun U hU hW => ⟨by show _ = (ts adx [.ref 0]).toArray; show (#[Value.ref s.heap.size] : Array Value) = #[.ref (adx 0)]; rw [hB1 0 (by decide)]; rfl, by rw [hU]; exact z1, by rw [hU]; exact hP1, va_K.moved hW.alike hK, ⟨hN.warm hW, hAO.warm hW⟩, hB1, by rw [hU]; exact hX1.tr hW hS1.1 (fun a h1 h2 => hS1.2.1 a h1 h2) (fun h => h)⟩⟩ rfl rfl (by rw [hl.1]) rfl (Nat.le_of_ble_eq_true rfl) dL_law_4 ⟨by decide, by decide⟩
  intro T hT Y
  obtain ⟨v, st₀, t, T1, L1, h0, Y1, hL1, e11, e12, ⟨⟨hv, ⟨j9, hsz, -⟩, w9, ⟨σx, hσx, rfl⟩, hPx⟩, hz2, hk2⟩, stp1⟩ := hr1 T hT Y
  have hv' : v = none := Outcome.returned.inj hv
  subst hv'
  rw [h0] at hz2 hk2
  generalize hH2 : T1.heap = H2 at *
  have hPx2 : va_P D vwCl (wd (SL 0) adx cA σx) H2 := by rw [e11]; exact hPx
  have hS2 : va_S (fun q => s.heap.size ≤ q) s.heap H2 L1 := ⟨Nat.le_trans hS1.1 (by rw [e11]; exact hz2), fun q h1 h2 => by rw [e11, hk2 q (Nat.lt_of_lt_of_le h1 hS1.1) h2]; exact hS1.2.1 q h1 h2, fun q hq => hL1 q hq⟩
  suffices hrest : W p l e room_1 s m #[Value.ref b] below meth c H2 L1 190 3560 (lw_Z below #[Value.ref b] s) (F0 m 7 ls [.ref s.heap.size]) by
    obtain ⟨t2, a1, b1⟩ := hrest T1 hH2 Y1
    exact ⟨t2, stp1 t2 a1, b1⟩
  clear stp1 Y1 e12 hz2 hk2 hsz hv Y hT hr1
  have hDx : DJ (SL 0) adx := fun i j hi hj e => by
    have hi' : i < 190 := hi
    have hj' : j < 190 := hj
    rw [hB1 i (by omega), hB1 j (by omega)] at e
    omega
  have h := k σx hσx p l e s m #[Value.ref b] below meth c D cA adx H2 L1 ls (fun q => s.heap.size ≤ q) (lw_Z below #[Value.ref b] s) ⟨hx, hb, hr, hml, hown, htw, hlk, hK, hDx, hN, hX1, fun k hk => ?_, fun q hq => hq, ?_⟩ hPx2 hS2 ?_
  · have e0 : ts adx [.ref 0] = [.ref s.heap.size] := by
      show [Value.ref (adx 0)] = _
      rw [hB1 0 (by decide)]
      rfl
    rw [e0] at h
    exact h
  · have hk' : k < 190 := hk
    rw [hB1 k (by omega)]
    omega
  · intro H locs ls pc cs ss r s' hF hP hS hret hc
    obtain ⟨x, rfl, hx1⟩ := hF
    subst hx1
    refine W.widen hc.1 hc.2 ?_
    refine va_forget (fun q hq => hS.2.2 q hq) ?_
    rcases hret with ⟨h, -, -⟩ | ⟨x, ty, h, hd, -, -⟩ | ⟨x, h, -, -⟩
    · cases h
    · exact lw_ret hx hb hr hlk hd
    · cases h
  · show lv_has ls 13 [(0, .ref (adx 2000))]
    rw [hb20]
    exact hl
