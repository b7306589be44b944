/-! the law's start: what the Statement gives, the two objects, the loop -/
theorem st_NW {args : Array Value} {s : State} (hts : ∀ w ∈ lw_tbl, w.before args s = true) : NW s ∧ AO s := by
  refine ⟨fun q hq => ?_, (ao_vm rfl).trans (hts (Cond.arrayOver (.array .int)) (List.mem_of_getElem? (i := 98) (by decide +kernel))), (ao_vm rfl).trans (hts (Cond.arrayOver (.array .long)) (List.mem_of_getElem? (i := 239) (by decide +kernel)))⟩
  have hm : Cond.methodLinkNest q.1 q.2.1 q.2.2.1 q.2.2.2 ∈ lw_tbl := (show ∀ q ∈ nestM, Cond.methodLinkNest q.1 q.2.1 q.2.2.1 q.2.2.2 ∈ lw_tbl from by decide +kernel) q hq
  exact va_Nw.of rfl (hts _ hm)
theorem st_K {args : Array Value} {s : State} (hts : ∀ w ∈ lw_tbl, w.before args s = true) : ∃ (D : va_G) (cA : Nat → ClassId), va_K D vwCl (tysOf cA) s := by
  have htw : ∀ v ∈ TW, v.before args s = true := fun v hv => hts v (List.mem_filter.mp hv).1
  have u0 := u_known (C := RX0) (T := TX0) (N := 3) htw inw_X0 (hts (Cond.instantiable RX0 3) (List.mem_of_getElem? (i := 199) (by decide +kernel)))
  have u1 := u_known (C := RX1) (T := TX1) (N := 3) htw inw_X1 (hts (Cond.instantiable RX1 3) (List.mem_of_getElem? (i := 216) (by decide +kernel)))
  have u2 := u_known (C := RX2) (T := TX2) (N := 8) htw inw_X2 (hts (Cond.instantiable RX2 8) (List.mem_of_getElem? (i := 92) (by decide +kernel)))
  have u3 := u_known (C := RX3) (T := TX3) (N := 3) htw inw_X3 (hts (Cond.instantiable RX3 3) (List.mem_of_getElem? (i := 166) (by decide +kernel)))
  have u4 := u_known (C := RX4) (T := TX4) (N := 4) htw inw_X4 (hts (Cond.instantiable RX4 4) (List.mem_of_getElem? (i := 276) (by decide +kernel)))
  have u5 := u_known (C := RX5) (T := TX5) (N := 5) htw inw_X5 (hts (Cond.instantiable RX5 5) (List.mem_of_getElem? (i := 233) (by decide +kernel)))
  have u6 := u_known (C := RX7) (T := TX7) (N := 2) htw inw_X7 (hts (Cond.instantiable RX7 2) (List.mem_of_getElem? (i := 184) (by decide +kernel)))
  have u7 := u_known (C := RX8) (T := TX8) (N := 2) htw inw_X8 (hts (Cond.instantiable RX8 2) (List.mem_of_getElem? (i := 151) (by decide +kernel)))
  have u8 := u_known (C := RX9) (T := TX9) (N := 3) htw inw_X9 (hts (Cond.instantiable RX9 3) (List.mem_of_getElem? (i := 260) (by decide +kernel)))
  have u9 := u_known (C := RX10) (T := TX10) (N := 12) htw inw_X10 (hts (Cond.instantiable RX10 12) (List.mem_of_getElem? (i := 84) (by decide +kernel)))
  have u10 := u_known (C := RX11) (T := TX11) (N := 24) htw inw_X11 (hts (Cond.instantiable RX11 24) (List.mem_of_getElem? (i := 891) (by decide +kernel)))
  have hc : ∀ c : Nat, ∃ z : ClassId × (Nat → Nat), ∀ q, vwCl[c]? = some q → u_Kn s q.1 q.2.1 q.2.2 z.1 z.2 := by
    intro c
    cases hq : vwCl[c]? with
    | none => exact ⟨(0, fun _ => 0), fun q e => by cases e⟩
    | some q0 =>
      have hlt : c < 11 := (List.getElem?_eq_some_iff.mp hq).1
      rcases (show c = 0 ∨ c = 1 ∨ c = 2 ∨ c = 3 ∨ c = 4 ∨ c = 5 ∨ c = 6 ∨ c = 7 ∨ c = 8 ∨ c = 9 ∨ c = 10 from by omega) with rfl | rfl | rfl | rfl | rfl | rfl | rfl | rfl | rfl | rfl | rfl
      · obtain ⟨z1, z2, hz⟩ := u0
        cases hq
        exact ⟨(z1, z2), fun q' e => by cases e; exact hz⟩
      · obtain ⟨z1, z2, hz⟩ := u1
        cases hq
        exact ⟨(z1, z2), fun q' e => by cases e; exact hz⟩
      · obtain ⟨z1, z2, hz⟩ := u2
        cases hq
        exact ⟨(z1, z2), fun q' e => by cases e; exact hz⟩
      · obtain ⟨z1, z2, hz⟩ := u3
        cases hq
        exact ⟨(z1, z2), fun q' e => by cases e; exact hz⟩
      · obtain ⟨z1, z2, hz⟩ := u4
        cases hq
        exact ⟨(z1, z2), fun q' e => by cases e; exact hz⟩
      · obtain ⟨z1, z2, hz⟩ := u5
        cases hq
        exact ⟨(z1, z2), fun q' e => by cases e; exact hz⟩
      · obtain ⟨z1, z2, hz⟩ := u6
        cases hq
        exact ⟨(z1, z2), fun q' e => by cases e; exact hz⟩
      · obtain ⟨z1, z2, hz⟩ := u7
        cases hq
        exact ⟨(z1, z2), fun q' e => by cases e; exact hz⟩
      · obtain ⟨z1, z2, hz⟩ := u8
        cases hq
        exact ⟨(z1, z2), fun q' e => by cases e; exact hz⟩
      · obtain ⟨z1, z2, hz⟩ := u9
        cases hq
        exact ⟨(z1, z2), fun q' e => by cases e; exact hz⟩
      · obtain ⟨z1, z2, hz⟩ := u10
        cases hq
        exact ⟨(z1, z2), fun q' e => by cases e; exact hz⟩
  obtain ⟨f, hf⟩ := Classical.axiomOfChoice hc
  have prim : ∀ ty : FieldType, Cond.arrayClass ty ∈ lw_tbl → ∃ cA : ClassId, ArrOfT s cA ty ∧ s.vm.findClass ("[" ++ ty.toString) = some cA := by
    intro ty h
    obtain ⟨c, k, comp, h1, h2, h3⟩ := Cond.arrayClass_spec (args := args) (first := s) (o := none) (s := s) (idx := []) (type := ty) (hts _ h)
    exact ⟨c, fun n z => ⟨fun k h => (by cases h), k, h2, comp, h3⟩, h1⟩
  have arrs : ∀ ty : FieldType, Cond.arrayOver (.array ty) ∈ lw_tbl → ∃ cA : ClassId, ArrOfT s cA (.array ty) ∧ s.vm.findClass ("[" ++ (FieldType.array ty).toString) = some cA := by
    intro ty h
    obtain ⟨comp, c, k, h1, h2, h3, h4⟩ := Cond.arrayOver_specA (args := args) (first := s) (o := none) (s := s) (idx := []) (t := ty) (hts _ h)
    exact ⟨c, fun n z => ⟨fun k h => (by cases h), k, h2, comp, h3⟩, h4⟩
  obtain ⟨c1, a1, b1⟩ := prim .int (List.mem_of_getElem? (i := 149) (by decide +kernel))
  obtain ⟨c2, a2, b2⟩ := prim .long (List.mem_of_getElem? (i := 258) (by decide +kernel))
  obtain ⟨c3, a3, b3⟩ := prim .char (List.mem_of_getElem? (i := 164) (by decide +kernel))
  obtain ⟨c4, a4, b4⟩ := prim .boolean (List.mem_of_getElem? (i := 197) (by decide +kernel))
  obtain ⟨c5, a5, b5⟩ := arrs .int (List.mem_of_getElem? (i := 98) (by decide +kernel))
  obtain ⟨c6, a6, b6⟩ := arrs .long (List.mem_of_getElem? (i := 239) (by decide +kernel))
  refine ⟨(fun c => (f c).1, fun c => (f c).2), fun i => if i = 1 then c1 else if i = 2 then c2 else if i = 3 then c3 else if i = 4 then c4 else if i = 5 then c5 else c6, fun c q hq => hf c q hq, fun k q hk => ?_⟩
  have hlt : k < 6 := (List.getElem?_eq_some_iff.mp hk).1
  rcases (show k = 0 ∨ k = 1 ∨ k = 2 ∨ k = 3 ∨ k = 4 ∨ k = 5 from by omega) with rfl | rfl | rfl | rfl | rfl | rfl
  · cases hk; exact ⟨a1, b1⟩
  · cases hk; exact ⟨a2, b2⟩
  · cases hk; exact ⟨a3, b3⟩
  · cases hk; exact ⟨a4, b4⟩
  · cases hk; exact ⟨a5, b5⟩
  · cases hk; exact ⟨a6, b6⟩
def st_tm (i : Nat) : Term := .string "ChipGame$Shapes" (strT.getD i (0, "")).1
theorem st_XS {args : Array Value} {s : State} (hts : ∀ w ∈ lw_tbl, w.before args s = true) (hgv : (Jvm.Cond.and given_1 narrow_1).before args s = true) : ∃ kp : Nat → Nat, ∀ b0 : Nat, XS (adOf b0 kp) (fun q => s.heap.size ≤ q) s s.heap := by
  have hs := flat_of_before _ hgv
  have hA : ∀ a : Nat, a < s.heap.size → ¬ (fun q => s.heap.size ≤ q) a := fun a h => Nat.not_le.mpr h
  obtain ⟨adK, adV, hS, hE⟩ := vk_Sof (N := 6) (tm := st_tm) (len := strL) (byt := strB) (A := fun q => s.heap.size ≤ q) (args := args) (s := s) (by decide)
    (fun i hi => hs _ ((show ∀ i, i < 6 → Cond.exactly (st_tm i) "java/lang/String" ∈ flatC (Jvm.Cond.and given_1 narrow_1) from by decide +kernel) i hi))
    (fun i hi => hs _ ((show ∀ i, i < 6 → Cond.eq (.field (st_tm i) "java/lang/String" "coder" "B") (.int 0) ∈ flatC (Jvm.Cond.and given_1 narrow_1) from by decide +kernel) i hi))
    (fun i hi => hs _ ((show ∀ i, i < 6 → Cond.arrayOf (.field (st_tm i) "java/lang/String" "value" "[B") .byte ∈ flatC (Jvm.Cond.and given_1 narrow_1) from by decide +kernel) i hi))
    (fun i hi => hs _ ((show ∀ i, i < 6 → Cond.eq (.length (.field (st_tm i) "java/lang/String" "value" "[B")) (.int (Int32.ofNat (strL.getD i 0))) ∈ flatC (Jvm.Cond.and given_1 narrow_1) from by decide +kernel) i hi))
    (fun i hi j hj => hs _ ((show ∀ i, i < 6 → ∀ j, j < strL.getD i 0 → Cond.eq (.elem (.field (st_tm i) "java/lang/String" "value" "[B") (.int (Int32.ofNat j))) (.int ((strB.getD i []).getD j 0)) ∈ flatC (Jvm.Cond.and given_1 narrow_1) from by decide +kernel) i hi j hj))
    (fun i j hi hj hij => ((show ∀ i, i < 6 → ∀ j, j < 6 → i ≠ j → Cond.not (Cond.eq (st_tm i) (st_tm j)) ∈ flatC (Jvm.Cond.and given_1 narrow_1) ∨ Cond.not (Cond.eq (st_tm j) (st_tm i)) ∈ flatC (Jvm.Cond.and given_1 narrow_1) from by decide +kernel) i hi j hj hij).elim (fun h => Or.inl (hs _ h)) (fun h => Or.inr (hs _ h)))
    hA
  obtain ⟨tL, e1, h1⟩ := va_Tof (args := args) (s := s) (tm := .static "ChipGame$Shapes" "LEAST" "[I") (ty := .int) (N := 5) (f := fun j => .int (leastL.getD j 0)) (A := fun q => s.heap.size ≤ q) (by decide) (hs _ (by decide +kernel)) (va_eqt (hs (Cond.eq (.length (.static "ChipGame$Shapes" "LEAST" "[I")) (.int (Int32.ofNat 5))) (by decide +kernel)))
    (fun j hj => va_eqt (hs _ ((show ∀ j, j < 5 → Cond.eq (.elem (.static "ChipGame$Shapes" "LEAST" "[I") (.int (Int32.ofNat j))) (.int (leastL.getD j 0)) ∈ flatC (Jvm.Cond.and given_1 narrow_1) from by decide +kernel) j hj))) hA
  obtain ⟨tM, e2, h2⟩ := va_Tof (args := args) (s := s) (tm := .static "ChipGame$Shapes" "MOST" "[I") (ty := .int) (N := 5) (f := fun j => .int (mostL.getD j 0)) (A := fun q => s.heap.size ≤ q) (by decide) (hs _ (by decide +kernel)) (va_eqt (hs (Cond.eq (.length (.static "ChipGame$Shapes" "MOST" "[I")) (.int (Int32.ofNat 5))) (by decide +kernel)))
    (fun j hj => va_eqt (hs _ ((show ∀ j, j < 5 → Cond.eq (.elem (.static "ChipGame$Shapes" "MOST" "[I") (.int (Int32.ofNat j))) (.int (mostL.getD j 0)) ∈ flatC (Jvm.Cond.and given_1 narrow_1) from by decide +kernel) j hj))) hA
  have z1 := va_Zof (hts (Cond.laysStatic "ChipGame$Shapes" "LEAST" "[I") (List.mem_of_getElem? (i := 482) (by decide +kernel))) (hts (Cond.initialized "ChipGame$Shapes") (List.mem_of_getElem? (i := 76) (by decide +kernel))) e1 hA
  have z2 := va_Zof (hts (Cond.laysStatic "ChipGame$Shapes" "MOST" "[I") (List.mem_of_getElem? (i := 484) (by decide +kernel))) (hts (Cond.initialized "ChipGame$Shapes") (List.mem_of_getElem? (i := 76) (by decide +kernel))) e2 hA
  have z3 := va_Zof (hts (Cond.laysStatic "java/lang/String" "COMPACT_STRINGS" "Z") (List.mem_of_getElem? (i := 435) (by decide +kernel))) (hts (Cond.initialized "java/lang/String") (List.mem_of_getElem? (i := 77) (by decide +kernel))) (va_eqt (hs (Cond.eq (.static "java/lang/String" "COMPACT_STRINGS" "Z") (.int 1)) (by decide +kernel))) hA
  have z4 := va_Zqof (hts (Cond.laysStatic "jdk/internal/util/Preconditions" "SIOOBE_FORMATTER" "Ljava/util/function/BiFunction;") (List.mem_of_getElem? (i := 451) (by decide +kernel))) (hts (Cond.initialized "jdk/internal/util/Preconditions") (List.mem_of_getElem? (i := 79) (by decide +kernel))) (hs (Cond.isRef (.static "jdk/internal/util/Preconditions" "SIOOBE_FORMATTER" "Ljava/util/function/BiFunction;")) (by decide +kernel)) hA
  obtain ⟨tF, z4⟩ : ∃ tF : Nat, va_Z "jdk/internal/util/Preconditions" "SIOOBE_FORMATTER" "Ljava/util/function/BiFunction;" .null (fun q => s.heap.size ≤ q) s s.heap ∨ va_Z "jdk/internal/util/Preconditions" "SIOOBE_FORMATTER" "Ljava/util/function/BiFunction;" (.ref tF) (fun q => s.heap.size ≤ q) s s.heap := by
    rcases z4 with h | ⟨t, h⟩
    · exact ⟨0, Or.inl h⟩
    · exact ⟨t, Or.inr h⟩
  refine ⟨fun k => if k < 1010 then adK (k - 1000) else if k < 1020 then adV (k - 1010) else if k = 1020 then tL else if k = 1021 then tM else tF, fun b0 => ?_⟩
  generalize hkp : (fun k => if k < 1010 then adK (k - 1000) else if k < 1020 then adV (k - 1010) else if k = 1020 then tL else if k = 1021 then tM else tF) = kp
  have eK : ∀ i, i < 6 → adOf b0 kp (1000 + i) = adK i := fun i hi => by
    rw [← hkp]
    show (if 1000 + i < 1000 then _ else (if 1000 + i < 1010 then adK (1000 + i - 1000) else _)) = _
    rw [if_neg (by omega), if_pos (by omega), Nat.add_sub_cancel_left]
  have eV : ∀ i, i < 6 → adOf b0 kp (1010 + i) = adV i := fun i hi => by
    rw [← hkp]
    show (if 1010 + i < 1000 then _ else (if 1010 + i < 1010 then _ else (if 1010 + i < 1020 then adV (1010 + i - 1010) else _))) = _
    rw [if_neg (by omega), if_neg (by omega), if_pos (by omega), Nat.add_sub_cancel_left]
  have e20 : adOf b0 kp 1020 = tL := by rw [← hkp]; rfl
  have e21 : adOf b0 kp 1021 = tM := by rw [← hkp]; rfl
  have e30 : adOf b0 kp 1030 = tF := by rw [← hkp]; rfl
  refine ⟨⟨⟨fun i hi => ?_, fun i j hi hj e => ?_⟩, by rw [e20]; exact z1, by rw [e20]; exact h1, by rw [e21]; exact z2, by rw [e21]; exact h2, z3, by rw [e30]; exact z4⟩, fun i q hq => ?_⟩
  · show va_O _ (adOf b0 kp (1000 + i)) _ _ _ ∧ va_OF _ _ _ _ (adOf b0 kp (1000 + i)) _ _ _ ∧ va_OF _ _ _ (.ref (adOf b0 kp (1010 + i))) (adOf b0 kp (1000 + i)) _ _ _ ∧ va_T .byte (adOf b0 kp (1010 + i)) _ _ _ _ _
    rw [eK i hi, eV i hi]
    exact hS.1 i hi
  · have e' : adOf b0 kp (1000 + i) = adOf b0 kp (1000 + j) := e
    rw [eK i hi, eK j hj] at e'
    exact hS.2 i j hi hj e'
  · have hi : i < 6 := (List.getElem?_eq_some_iff.mp hq).1
    rw [eK i hi]
    have hm : Cond.stringRef "ChipGame$Shapes" q.1 q.2 ∈ lw_tbl := (show ∀ q ∈ strT, Cond.stringRef "ChipGame$Shapes" q.1 q.2 ∈ lw_tbl from by decide +kernel) q (List.mem_of_getElem? hq)
    have hq1 : st_tm i = .string "ChipGame$Shapes" q.1 := by
      unfold st_tm
      rw [List.getD_eq_getElem?_getD, hq]
      rfl
    have h9 := hE i hi
    rw [hq1] at h9
    exact vk_R.of (hts _ hm) h9
theorem dL_law_0 : decode cL_law 0 = .ok (.new 7, 3) := by decide +kernel
theorem dL_law_3 : decode cL_law 3 = .ok (.dup, 1) := by decide +kernel
theorem dL_law_4 : decode cL_law 4 = .ok (.invokespecial 9, 3) := by decide +kernel
theorem dL_law_7 : decode cL_law 7 = .ok (.astore_n 1, 1) := by decide +kernel
theorem dL_law_8 : decode cL_law 8 = .ok (.new 10, 3) := by decide +kernel
theorem dL_law_11 : decode cL_law 11 = .ok (.dup, 1) := by decide +kernel
theorem dL_law_12 : decode cL_law 12 = .ok (.invokespecial 12, 3) := by decide +kernel
theorem dL_law_15 : decode cL_law 15 = .ok (.astore_n 2, 1) := by decide +kernel
theorem dL_law_16 : decode cL_law 16 = .ok (.iconst 0, 1) := by decide +kernel
theorem dL_law_17 : decode cL_law 17 = .ok (.istore_n 3, 1) := by decide +kernel
set_option maxHeartbeats 4000000 in
set_option maxRecDepth 20000 in
/-- the law from its entry, out of what the constructors and each call do -/
theorem start_open {p : Program} {e : Env} {s : State} {m : MethodId} {below : List Frame} {meth : Method} {c : Code} (l : Launch) {b L : Nat} {xs : Nat → Int32} (K : Nat) (Rel : Nat → Sto → Sto → Prop) (hK9 : K < 700000000) (hL : L ≤ 3 * K + 2) (hL2 : L < 2147480000) (C0 : lw_At p s m meth c b L xs)
    {Q1 Q2 R1 R2 : Sto → Prop} (i1 : K_Gr_clear 2 iC_s0 Q1) (i2 : ∀ s1, Q1 s1 → K_Gr_append 0 1 s1 (fun s2 => Q2 s2)) (i3 : K_Mo_begin 2 iM_s0 R1) (i4 : ∀ s1, R1 s1 → K_Mo_join 0 1 s1 (fun s2 => R2 s2)) (hinit : ∀ x y, Q2 x → R2 y → Rel 0 x y) (hmono : ∀ k x y, k < K → Rel k x y → Rel (k + 1) x y)
    (o_reset : ∀ (k : Nat) (x y : Sto) (a1 : Int), k < K → Rel k x y → (-2147483648 ≤ a1 ∧ a1 < 2147483648) → ∃ Q : Int → Sto → Prop, K_Cg_reset a1 x Q ∧ ∀ r x', Q r x' → ∃ Q2 : Int → Sto → Prop, K_Mo_reset a1 y Q2 ∧ ∀ r2 y', Q2 r2 y' → r = r2 ∧ Rel (k + 1) x' y')
    (o_addEdge : ∀ (k : Nat) (x y : Sto) (a1 : Int) (a2 : Int), k < K → Rel k x y → (-2147483648 ≤ a1 ∧ a1 < 2147483648) → (-2147483648 ≤ a2 ∧ a2 < 2147483648) → ∃ Q : Int → Sto → Prop, K_Cg_addEdge a1 a2 x Q ∧ ∀ r x', Q r x' → ∃ Q2 : Int → Sto → Prop, K_Mo_addEdge a1 a2 y Q2 ∧ ∀ r2 y', Q2 r2 y' → r = r2 ∧ Rel (k + 1) x' y')
    (o_removeEdge : ∀ (k : Nat) (x y : Sto) (a1 : Int), k < K → Rel k x y → (-2147483648 ≤ a1 ∧ a1 < 2147483648) → ∃ Q : Int → Sto → Prop, K_Cg_removeEdge a1 x Q ∧ ∀ r x', Q r x' → ∃ Q2 : Int → Sto → Prop, K_Mo_removeEdge a1 y Q2 ∧ ∀ r2 y', Q2 r2 y' → r = r2 ∧ Rel (k + 1) x' y')
    (o_setSink : ∀ (k : Nat) (x y : Sto) (a1 : Int), k < K → Rel k x y → (-2147483648 ≤ a1 ∧ a1 < 2147483648) → ∃ Q : Int → Sto → Prop, K_Cg_setSink a1 x Q ∧ ∀ r x', Q r x' → ∃ Q2 : Int → Sto → Prop, K_Mo_setSink a1 y Q2 ∧ ∀ r2 y', Q2 r2 y' → r = r2 ∧ Rel (k + 1) x' y')
    (o_type : ∀ (k : Nat) (x y : Sto) (a1 : Int), k < K → Rel k x y → (0 ≤ a1 ∧ a1 < 65536) → ∃ Q : Int → Sto → Prop, K_Cg_type a1 x Q ∧ ∀ r x', Q r x' → ∃ Q2 : Int → Sto → Prop, K_Mo_type a1 y Q2 ∧ ∀ r2 y', Q2 r2 y' → r = r2 ∧ Rel (k + 1) x' y')
    (o_clearText : ∀ (k : Nat) (x y : Sto), k < K → Rel k x y → ∃ Q : Int → Sto → Prop, K_Cg_clearText x Q ∧ ∀ r x', Q r x' → ∃ Q2 : Int → Sto → Prop, K_Mo_clearText y Q2 ∧ ∀ r2 y', Q2 r2 y' → r = r2 ∧ Rel (k + 1) x' y')
    (o_readGraph : ∀ (k : Nat) (x y : Sto), k < K → Rel k x y → ∃ Q : Int → Sto → Prop, K_Cg_readGraph x Q ∧ ∀ r x', Q r x' → ∃ Q2 : Int → Sto → Prop, K_Mo_readGraph y Q2 ∧ ∀ r2 y', Q2 r2 y' → r = r2 ∧ Rel (k + 1) x' y')
    (o_value : ∀ (k : Nat) (x y : Sto) (a1 : Int), k < K → Rel k x y → (-2147483648 ≤ a1 ∧ a1 < 2147483648) → ∃ Q : Int → Sto → Prop, K_Cg_value a1 x Q ∧ ∀ r x', Q r x' → ∃ Q2 : Int → Sto → Prop, K_Mo_value a1 y Q2 ∧ ∀ r2 y', Q2 r2 y' → r = r2 ∧ Rel (k + 1) x' y')
    (o_degree : ∀ (k : Nat) (x y : Sto) (a1 : Int), k < K → Rel k x y → (-2147483648 ≤ a1 ∧ a1 < 2147483648) → ∃ Q : Int → Sto → Prop, K_Cg_degree a1 x Q ∧ ∀ r x', Q r x' → ∃ Q2 : Int → Sto → Prop, K_Mo_degree a1 y Q2 ∧ ∀ r2 y', Q2 r2 y' → r = r2 ∧ Rel (k + 1) x' y')
    (o_edge : ∀ (k : Nat) (x y : Sto) (a1 : Int) (a2 : Int), k < K → Rel k x y → (-2147483648 ≤ a1 ∧ a1 < 2147483648) → (a2 = 0 ∨ a2 = 1) → ∃ Q : Int → Sto → Prop, K_Cg_edge a1 a2 x Q ∧ ∀ r x', Q r x' → ∃ Q2 : Int → Sto → Prop, K_Mo_edge a1 a2 y Q2 ∧ ∀ r2 y', Q2 r2 y' → r = r2 ∧ Rel (k + 1) x' y')
    (o_setChips : ∀ (k : Nat) (x y : Sto) (a1 : Int) (a2 : Int), k < K → Rel k x y → (-2147483648 ≤ a1 ∧ a1 < 2147483648) → (-2147483648 ≤ a2 ∧ a2 < 2147483648) → ∃ Q : Int → Sto → Prop, K_Cg_setChips a1 a2 x Q ∧ ∀ r x', Q r x' → ∃ Q2 : Int → Sto → Prop, K_Mo_setChips a1 a2 y Q2 ∧ ∀ r2 y', Q2 r2 y' → r = r2 ∧ Rel (k + 1) x' y')
    (o_chips : ∀ (k : Nat) (x y : Sto) (a1 : Int), k < K → Rel k x y → (-2147483648 ≤ a1 ∧ a1 < 2147483648) → ∃ Q : Int → Sto → Prop, K_Cg_chips a1 x Q ∧ ∀ r x', Q r x' → ∃ Q2 : Int → Sto → Prop, K_Mo_chips a1 y Q2 ∧ ∀ r2 y', Q2 r2 y' → r = r2 ∧ Rel (k + 1) x' y')
    (o_fire : ∀ (k : Nat) (x y : Sto) (a1 : Int), k < K → Rel k x y → (-2147483648 ≤ a1 ∧ a1 < 2147483648) → ∃ Q : Int → Sto → Prop, K_Cg_fire a1 x Q ∧ ∀ r x', Q r x' → ∃ Q2 : Int → Sto → Prop, K_Mo_fire a1 y Q2 ∧ ∀ r2 y', Q2 r2 y' → r = r2 ∧ Rel (k + 1) x' y')
    (o_stabilize : ∀ (k : Nat) (x y : Sto), k < K → Rel k x y → ∃ Q : Int → Sto → Prop, K_Cg_stabilize x Q ∧ ∀ r x', Q r x' → ∃ Q2 : Int → Sto → Prop, K_Mo_stabilize y Q2 ∧ ∀ r2 y', Q2 r2 y' → r = r2 ∧ Rel (k + 1) x' y')
    (o_firings : ∀ (k : Nat) (x y : Sto) (a1 : Int), k < K → Rel k x y → (-2147483648 ≤ a1 ∧ a1 < 2147483648) → ∃ Q : Int → Sto → Prop, K_Cg_firings a1 x Q ∧ ∀ r x', Q r x' → ∃ Q2 : Int → Sto → Prop, K_Mo_firings a1 y Q2 ∧ ∀ r2 y', Q2 r2 y' → r = r2 ∧ Rel (k + 1) x' y')
    (o_reduce : ∀ (k : Nat) (x y : Sto), k < K → Rel k x y → ∃ Q : Int → Sto → Prop, K_Cg_reduce x Q ∧ ∀ r x', Q r x' → ∃ Q2 : Int → Sto → Prop, K_Mo_reduce y Q2 ∧ ∀ r2 y', Q2 r2 y' → r = r2 ∧ Rel (k + 1) x' y')
    (o_makeRecurrent : ∀ (k : Nat) (x y : Sto), k < K → Rel k x y → ∃ Q : Int → Sto → Prop, K_Cg_makeRecurrent x Q ∧ ∀ r x', Q r x' → ∃ Q2 : Int → Sto → Prop, K_Mo_makeRecurrent y Q2 ∧ ∀ r2 y', Q2 r2 y' → r = r2 ∧ Rel (k + 1) x' y')
    (o_kind : ∀ (k : Nat) (x y : Sto), k < K → Rel k x y → ∃ Q : Int → Sto → Prop, K_Cg_kind x Q ∧ ∀ r x', Q r x' → ∃ Q2 : Int → Sto → Prop, K_Mo_kind y Q2 ∧ ∀ r2 y', Q2 r2 y' → r = r2 ∧ Rel (k + 1) x' y')
    (o_burnt : ∀ (k : Nat) (x y : Sto) (a1 : Int), k < K → Rel k x y → (-2147483648 ≤ a1 ∧ a1 < 2147483648) → ∃ Q : Int → Sto → Prop, K_Cg_burnt a1 x Q ∧ ∀ r x', Q r x' → ∃ Q2 : Int → Sto → Prop, K_Mo_burnt a1 y Q2 ∧ ∀ r2 y', Q2 r2 y' → r = r2 ∧ Rel (k + 1) x' y')
    (o_undo : ∀ (k : Nat) (x y : Sto), k < K → Rel k x y → ∃ Q : Int → Sto → Prop, K_Cg_undo x Q ∧ ∀ r x', Q r x' → ∃ Q2 : Int → Sto → Prop, K_Mo_undo y Q2 ∧ ∀ r2 y', Q2 r2 y' → r = r2 ∧ Rel (k + 1) x' y')
    (o_keep : ∀ (k : Nat) (x y : Sto) (a1 : Int), k < K → Rel k x y → (-2147483648 ≤ a1 ∧ a1 < 2147483648) → ∃ Q : Int → Sto → Prop, K_Cg_keep a1 x Q ∧ ∀ r x', Q r x' → ∃ Q2 : Int → Sto → Prop, K_Mo_keep a1 y Q2 ∧ ∀ r2 y', Q2 r2 y' → r = r2 ∧ Rel (k + 1) x' y')
    (o_load : ∀ (k : Nat) (x y : Sto) (a1 : Int), k < K → Rel k x y → (-2147483648 ≤ a1 ∧ a1 < 2147483648) → ∃ Q : Int → Sto → Prop, K_Cg_load a1 x Q ∧ ∀ r x', Q r x' → ∃ Q2 : Int → Sto → Prop, K_Mo_load a1 y Q2 ∧ ∀ r2 y', Q2 r2 y' → r = r2 ∧ Rel (k + 1) x' y')
    (o_add : ∀ (k : Nat) (x y : Sto) (a1 : Int), k < K → Rel k x y → (-2147483648 ≤ a1 ∧ a1 < 2147483648) → ∃ Q : Int → Sto → Prop, K_Cg_add a1 x Q ∧ ∀ r x', Q r x' → ∃ Q2 : Int → Sto → Prop, K_Mo_add a1 y Q2 ∧ ∀ r2 y', Q2 r2 y' → r = r2 ∧ Rel (k + 1) x' y')
    (o_isSameClass : ∀ (k : Nat) (x y : Sto) (a1 : Int), k < K → Rel k x y → (-2147483648 ≤ a1 ∧ a1 < 2147483648) → ∃ Q : Int → Sto → Prop, K_Cg_isSameClass a1 x Q ∧ ∀ r x', Q r x' → ∃ Q2 : Int → Sto → Prop, K_Mo_isSameClass a1 y Q2 ∧ ∀ r2 y', Q2 r2 y' → r = r2 ∧ Rel (k + 1) x' y')
    (o_treeCount : ∀ (k : Nat) (x y : Sto), k < K → Rel k x y → ∃ Q : Int → Sto → Prop, K_Cg_treeCount x Q ∧ ∀ r x', Q r x' → ∃ Q2 : Int → Sto → Prop, K_Mo_treeCount y Q2 ∧ ∀ r2 y', Q2 r2 y' → r = r2 ∧ Rel (k + 1) x' y')
    (o_identity : ∀ (k : Nat) (x y : Sto) (a1 : Int), k < K → Rel k x y → (-2147483648 ≤ a1 ∧ a1 < 2147483648) → ∃ Q : Int → Sto → Prop, K_Cg_identity a1 x Q ∧ ∀ r x', Q r x' → ∃ Q2 : Int → Sto → Prop, K_Mo_identity a1 y Q2 ∧ ∀ r2 y', Q2 r2 y' → r = r2 ∧ Rel (k + 1) x' y')
    (o_order : ∀ (k : Nat) (x y : Sto), k < K → Rel k x y → ∃ Q : Int → Sto → Prop, K_Cg_order x Q ∧ ∀ r x', Q r x' → ∃ Q2 : Int → Sto → Prop, K_Mo_order y Q2 ∧ ∀ r2 y', Q2 r2 y' → r = r2 ∧ Rel (k + 1) x' y')
    (o_factor : ∀ (k : Nat) (x y : Sto) (a1 : Int), k < K → Rel k x y → (-2147483648 ≤ a1 ∧ a1 < 2147483648) → ∃ Q : Int → Sto → Prop, K_Cg_factor a1 x Q ∧ ∀ r x', Q r x' → ∃ Q2 : Int → Sto → Prop, K_Mo_factor a1 y Q2 ∧ ∀ r2 y', Q2 r2 y' → r = r2 ∧ Rel (k + 1) x' y')
    (o_level : ∀ (k : Nat) (x y : Sto), k < K → Rel k x y → ∃ Q : Int → Sto → Prop, K_Cg_level x Q ∧ ∀ r x', Q r x' → ∃ Q2 : Int → Sto → Prop, K_Mo_level y Q2 ∧ ∀ r2 y', Q2 r2 y' → r = r2 ∧ Rel (k + 1) x' y')
    (o_levelCount : ∀ (k : Nat) (x y : Sto) (a1 : Int), k < K → Rel k x y → (-2147483648 ≤ a1 ∧ a1 < 2147483648) → ∃ Q : Int → Sto → Prop, K_Cg_levelCount a1 x Q ∧ ∀ r x', Q r x' → ∃ Q2 : Int → Sto → Prop, K_Mo_levelCount a1 y Q2 ∧ ∀ r2 y', Q2 r2 y' → r = r2 ∧ Rel (k + 1) x' y')
    (o_tree : ∀ (k : Nat) (x y : Sto), k < K → Rel k x y → ∃ Q : Int → Sto → Prop, K_Cg_tree x Q ∧ ∀ r x', Q r x' → ∃ Q2 : Int → Sto → Prop, K_Mo_tree y Q2 ∧ ∀ r2 y', Q2 r2 y' → r = r2 ∧ Rel (k + 1) x' y')
    (o_takeTree : ∀ (k : Nat) (x y : Sto) (a1 : Int), k < K → Rel k x y → (-2147483648 ≤ a1 ∧ a1 < 2147483648) → ∃ Q : Int → Sto → Prop, K_Cg_takeTree a1 x Q ∧ ∀ r x', Q r x' → ∃ Q2 : Int → Sto → Prop, K_Mo_takeTree a1 y Q2 ∧ ∀ r2 y', Q2 r2 y' → r = r2 ∧ Rel (k + 1) x' y')
    (o_treeAt : ∀ (k : Nat) (x y : Sto) (a1 : Int), k < K → Rel k x y → (-2147483648 ≤ a1 ∧ a1 < 2147483648) → ∃ Q : Int → Sto → Prop, K_Cg_treeAt a1 x Q ∧ ∀ r x', Q r x' → ∃ Q2 : Int → Sto → Prop, K_Mo_treeAt a1 y Q2 ∧ ∀ r2 y', Q2 r2 y' → r = r2 ∧ Rel (k + 1) x' y') :
    W p l e room_1 s m #[Value.ref b] below meth c s.heap [] 0 0 (lw_Z below #[Value.ref b] s) (entryFrame m ([Value.ref b] : List Value).toArray 4) := by
  have hloop := law_loop (b := b) (L := L) (xs := xs) K Rel hK9 hL hL2 hmono o_reset o_addEdge o_removeEdge o_setSink o_type o_clearText o_readGraph o_value o_degree o_edge o_setChips o_chips o_fire o_stabilize o_firings o_reduce o_makeRecurrent o_kind o_burnt o_undo o_keep o_load o_add o_isSameClass o_treeCount o_identity o_order o_factor o_level o_levelCount o_tree o_takeTree o_treeAt K 0
  have C1 := C0
  obtain ⟨hx, hb, hr, hml, hown, hts, hX, hbl, hlk, hgv⟩ := C0
  obtain ⟨hN, hAO⟩ := st_NW hts
  obtain ⟨D, cA, hK⟩ := st_K hts
  obtain ⟨kp, hXS⟩ := st_XS hts hgv
  have htw : ∀ v ∈ TW, v.before #[Value.ref b] s = true := fun v hv => hts v (List.mem_filter.mp hv).1
  have hl := lv_entry ([.ref b]) (n := 4) (Nat.le_of_ble_eq_true rfl)
  rw [lg_entry_eq]
  generalize (lg_sl ([.ref b]) ++ List.replicate (4 - (lg_sl ([.ref b])).length) Slot.unset).toArray = ls at hl ⊢
  have hl : lv_has ls 4 [(0, .ref b)] := hl
  have hGood : ∀ (y : MethodName) (cy : ByteArray) (maxL : Nat), Cond.code y cy maxL none ∈ TW → GoodIn TW (Cond.code y cy maxL none :: TW) := fun y cy maxL h1 w hw => by
    have : w ∈ TW := by
      rcases List.mem_cons.mp hw with rfl | h
      · exact h1
      · exact h
    exact ⟨this, good_of_word (List.mem_filter.mp this).2⟩
  -- the class's object
  have hKn1 := hK.1 9 _ rfl
  refine W.newcK hx hb (index := 7) hown (hts (Cond.classLink R_law 7 RX10) (List.mem_of_getElem? (i := 83) (by decide +kernel))) (hts (Cond.instantiable RX10 12) (List.mem_of_getElem? (i := 84) (by decide +kernel))) (hts (Cond.initialized RX10) (List.mem_of_getElem? (i := 65) (by decide +kernel))) rfl dL_law_0 (by decide) (by decide) hKn1.2.1 rfl fun H1 kC hkC e1 z1 o1 => ?_
  have hB1 := adOf_B s.heap.size kp
  generalize hadx : adOf s.heap.size kp = adx at hB1
  have hX1 : XS adx (fun q => s.heap.size ≤ q) s s.heap := by rw [← hadx]; exact hXS _
  have hP1 : va_P D vwCl (wc dl1 adx cA) H1 := by
    intro k q hk
    rw [wc_at] at hk
    have hk0 : k < 1 := by
      cases hd : dl1[k]? with
      | none => rw [hd] at hk; cases hk
      | some _ => exact (List.getElem?_eq_some_iff.mp hd).1
    rw [show k = 0 by omega] at hk
    cases hk
    refine ⟨_, rfl, ?_⟩
    rw [hB1 0 (by decide)]
    exact (u_born tyX10 htw inw_X10 hKn1 hkC e1 tyX10_ok).to (show ∀ k, k < 12 → defaultValue (tyX10 k) = vp_V (List.replicate 12 Value.null) k from by decide)
  have hS1 : va_S (fun q => s.heap.size ≤ q) s.heap H1 [] := ⟨by omega, fun x h1 _ => o1 x h1, fun _ h => by cases h⟩
  refine lv_dup hx hb dL_law_3 rfl ?_
  show W p l e room_1 s m #[Value.ref b] below meth c H1 [] 1 12 (lw_Z below #[Value.ref b] s) (F0 m 4 ls [.ref s.heap.size, .ref s.heap.size])
  have hr1 := va_runI (meth := meth) (cells := 1) (slots := 12) (locs := []) (g := F0 m 4 ls [.ref s.heap.size, .ref s.heap.size]) (As := []) (rest := [.ref s.heap.size]) (index := 9) (b := s.heap.size) (below := below) (e := e) (R := room_1) (H := H1) ⟨hx, hb, hml, hown, htw⟩ (n_Cg_init i1 i2 l D cA adx s.heap.size) (cwI 0 htw (hGood _ _ _ (tw_in (List.mem_of_getElem? (i := 87) (by decide +kernel)) (by decide +kernel))) rfl rfl rfl (hts (Cond.initialized RX10) (List.mem_of_getElem? (i := 65) (by decide +kernel))) (hts (Cond.methodLink R_law 9 yX10_init) (List.mem_of_getElem? (i := 85) (by decide +kernel))) (hts (Cond.instanceMethod yX10_init) (List.mem_of_getElem? (i := 86) (by decide +kernel))) rfl ⟨by decide, by decide, by decide +kernel⟩ ⟨by decide, by decide⟩) ⟨fb_pC, fun U hU hW => ⟨by show _ = (ts adx [.ref 0]).toArray; show (#[Value.ref s.heap.size] : Array Value) = #[.ref (adx 0)]; rw [hB1 0 (by decide)]; rfl, by rw [hU]; exact z1, by rw [hU]; exact hP1, va_K.moved hW.alike hK, ⟨hN.warm hW, hAO.warm hW⟩, hB1, by rw [hU]; exact hX1.tr hW (fun a h1 h2 => hS1.2.1 a h1 h2) (fun _ h => h)⟩⟩ rfl rfl hl.1 rfl (lv_room (Nat.le_of_ble_eq_true rfl)) dL_law_4 ⟨by decide, by decide⟩
  intro T hT Y
  obtain ⟨v, st₀, t, T1, L1, h0, Y1, hL1, e11, e12, ⟨⟨hv, ⟨j9, hsz, -⟩, w9, ⟨σx, hσx, rfl⟩, hPx⟩, hz2, hk2⟩, stp1⟩ := hr1 T hT Y
  have hv' : v = none := Outcome.returned.inj hv
  subst hv'
  rw [h0] at hz2 hk2
  generalize hH2 : T1.heap = H2 at *
  have hPx2 : va_P D vwCl (wd SC adx cA σx) H2 := by rw [e11]; exact hPx
  have hS2 : va_S (fun q => s.heap.size ≤ q) s.heap H2 L1 := ⟨Nat.le_trans hS1.1 (by rw [e11]; exact hz2), fun q h1 h2 => by rw [e11, hk2 q (Nat.lt_of_lt_of_le h1 hS1.1) h2]; exact hS1.2.1 q h1 h2, fun q hq => hL1 q hq⟩
  suffices hrest : W p l e room_1 s m #[Value.ref b] below meth c H2 L1 190 3560 (lw_Z below #[Value.ref b] s) (F0 m 7 ls [.ref s.heap.size]) by
    obtain ⟨t2, a1, b1⟩ := hrest T1 hH2 Y1
    exact ⟨t2, stp1 t2 a1, b1⟩
  clear stp1 Y1 e12 hz2 hk2 hsz hv Y hT hr1
  refine lv_astore_n (lv' := [(1, .ref s.heap.size), (0, .ref b)]) hx hb dL_law_7 rfl hl (by decide) rfl (fun ls hl => ?_)
  -- the reference's object
  have hKn2 := hK.1 10 _ rfl
  refine W.newcK hx hb (index := 10) hown (hts (Cond.classLink R_law 10 RX11) (List.mem_of_getElem? (i := 890) (by decide +kernel))) (hts (Cond.instantiable RX11 24) (List.mem_of_getElem? (i := 891) (by decide +kernel))) (hts (Cond.initialized RX11) (List.mem_of_getElem? (i := 75) (by decide +kernel))) rfl dL_law_8 (by decide) (by decide) hKn2.2.1 rfl fun H3 kC2 hkC2 e3 z3 o3 => ?_
  have hb2 : s.heap.size ≤ H2.size := hS2.1
  have hB2 := adOf_B H2.size kp
  generalize hadm : adOf H2.size kp = adm at hB2
  have hX2 : XS adm (fun q => s.heap.size ≤ q) s s.heap := by rw [← hadm]; exact hXS _
  have hP3 : va_P D vwCl (wc dl77 adm cA) H3 := by
    intro k q hk
    rw [wc_at] at hk
    have hk0 : k < 1 := by
      cases hd : dl77[k]? with
      | none => rw [hd] at hk; cases hk
      | some _ => exact (List.getElem?_eq_some_iff.mp hd).1
    rw [show k = 0 by omega] at hk
    cases hk
    refine ⟨_, rfl, ?_⟩
    rw [hB2 0 (by decide)]
    exact (u_born tyX11 htw inw_X11 hKn2 hkC2 e3 tyX11_ok).to (show ∀ k, k < 24 → defaultValue (tyX11 k) = vp_V ([.int 0, .int 0, .int 0, .null, .null, .null, .null, .null, .int 0, .null, .null, .int 0, .null, .null, .null, .null, .null, .null, .null, .null, .null, .int 0, .null, .null] : List Value) k from by decide)
  have hPx3 : va_P D vwCl (wd SC adx cA σx) H3 := hPx2.kept (fun k q hk => o3 q.1 ((hPx2 k q hk).lt))
  have hS3 : va_S (fun q => s.heap.size ≤ q) s.heap H3 L1 := ⟨by omega, fun x h1 h2 => (o3 x (by omega)).trans (hS2.2.1 x h1 h2), hS2.2.2⟩
  have hx2 : ∀ q, AW SC adx q → q < H2.size := fun q hq => by
    obtain ⟨k, hk, rfl⟩ := hq
    exact (hPx2 k _ (wd_at hk)).lt
  refine lv_dup hx hb dL_law_11 rfl ?_
  show W p l e room_1 s m #[Value.ref b] below meth c H3 L1 191 3584 (lw_Z below #[Value.ref b] s) (F0 m 12 ls [.ref H2.size, .ref H2.size])
  have hr2 := va_runI (meth := meth) (cells := 191) (slots := 3584) (locs := L1) (g := F0 m 12 ls [.ref H2.size, .ref H2.size]) (As := []) (rest := [.ref H2.size]) (index := 12) (b := H2.size) (below := below) (e := e) (R := room_1) (H := H3) ⟨hx, hb, hml, hown, htw⟩ (n_Mo_init i3 i4 l D cA adm H2.size) (cwI 0 htw (hGood _ _ _ (tw_in (List.mem_of_getElem? (i := 894) (by decide +kernel)) (by decide +kernel))) rfl rfl rfl (hts (Cond.initialized RX11) (List.mem_of_getElem? (i := 75) (by decide +kernel))) (hts (Cond.methodLink R_law 12 yX11_init) (List.mem_of_getElem? (i := 892) (by decide +kernel))) (hts (Cond.instanceMethod yX11_init) (List.mem_of_getElem? (i := 893) (by decide +kernel))) rfl ⟨by decide, by decide, by decide +kernel⟩ ⟨by decide, by decide⟩) ⟨fb_pC, fun U hU hW => ⟨by show _ = (ts adm [.ref 0]).toArray; show (#[Value.ref H2.size] : Array Value) = #[.ref (adm 0)]; rw [hB2 0 (by decide)]; rfl, by rw [hU]; exact z3, by rw [hU]; exact hP3, va_K.moved hW.alike hK, ⟨hN.warm hW, hAO.warm hW⟩, hB2, by rw [hU]; exact hX2.tr hW (fun a h1 h2 => hS3.2.1 a h1 h2) (fun q h => Nat.le_trans hb2 h)⟩⟩ rfl rfl hl.1 rfl (lv_room (Nat.le_of_ble_eq_true rfl)) dL_law_12 ⟨by decide, by decide⟩
  intro T hT Y
  obtain ⟨v, st₀2, t2, T2, L2, h02, Y2, hL2b, e21, e22, ⟨⟨hv, ⟨j92, hsz2, -⟩, w92, ⟨σm, hσm, rfl⟩, hPm⟩, hz22, hk22⟩, stp2⟩ := hr2 T hT Y
  have hv' : v = none := Outcome.returned.inj hv
  subst hv'
  rw [h02] at hz22 hk22
  generalize hH4 : T2.heap = H4 at *
  have hPm4 : va_P D vwCl (wd SM adm cA σm) H4 := by rw [e21]; exact hPm
  have hPx4 : va_P D vwCl (wd SC adx cA σx) H4 := hPx3.kept (fun k q hk => by
    obtain ⟨hk9, rfl⟩ := wd_get hk
    have := hx2 (adx k) ⟨k, hk9, rfl⟩
    rw [e21]
    exact hk22 _ ((hPx3 k _ hk).lt) (Nat.not_le.mpr this))
  have hS4 : va_S (fun q => s.heap.size ≤ q) s.heap H4 (L1 ++ L2) := ⟨Nat.le_trans hS3.1 (by rw [e21]; exact hz22), fun q h1 h2 => by rw [e21, hk22 q (Nat.lt_of_lt_of_le h1 hS3.1) (fun z => h2 (Nat.le_trans hb2 z))]; exact hS3.2.1 q h1 h2, fun q hq => by
    rcases List.mem_append.mp hq with h | h
    · exact hS3.2.2 q h
    · exact Nat.le_trans hb2 (hL2b q h)⟩
  suffices hrest : W p l e room_1 s m #[Value.ref b] below meth c H4 (L1 ++ L2) 209 4008 (lw_Z below #[Value.ref b] s) (F0 m 15 ls [.ref H2.size]) by
    obtain ⟨t3, a1, b1⟩ := hrest T2 hH4 Y2
    exact ⟨t3, stp2 t3 a1, b1⟩
  clear stp2 Y2 e22 hz22 hk22 hsz2 hv Y hT hr2
  refine lv_astore_n (lv' := [(2, .ref H2.size), (1, .ref s.heap.size), (0, .ref b)]) hx hb dL_law_15 rfl hl (by decide) rfl (fun ls hl => ?_)
  refine lv_iconst (v := 0) hx hb dL_law_16 (by decide) ?_
  refine lv_istore_n (lv' := [(3, .int 0), (2, .ref H2.size), (1, .ref s.heap.size), (0, .ref b)]) hx hb dL_law_17 rfl hl (by decide) rfl (fun ls hl => ?_)
  refine W.widen (k := 600000) (n := 7302250) (by decide) (by decide) ?_
  have hax : adx 0 = s.heap.size := (hB1 0 (by decide)).trans (Nat.add_zero _)
  have ham : adm 0 = H2.size := (hB2 0 (by decide)).trans (Nat.add_zero _)
  have hAx : ∀ q, AW SC adx q → s.heap.size ≤ q := fun q hq => by
    obtain ⟨k, hk, rfl⟩ := hq
    have hk' : k < 190 := hk
    rw [hB1 k (by omega)]
    omega
  have hAm : ∀ q, AW SM adm q → H2.size ≤ q := fun q hq => by
    obtain ⟨k, hk, rfl⟩ := hq
    have hk' : k < 19 := hk
    rw [hB2 k (by omega)]
    omega
  have hDx : DJ SC adx := fun i j hi hj e => by
    have hi' : i < 190 := hi
    have hj' : j < 190 := hj
    rw [hB1 i (by omega), hB1 j (by omega)] at e
    omega
  have hDm : DJ SM adm := fun i j hi hj e => by
    have hi' : i < 19 := hi
    have hj' : j < 19 := hj
    rw [hB2 i (by omega), hB2 j (by omega)] at e
    omega
  refine hloop σx σm (by omega) (hinit _ _ hσx hσm) p l e s m below meth c D cA adx adm H4 (L1 ++ L2) ls ⟨C1, hK, hN, hX1, hX2, hDx, hDm, hAx, fun q h => Nat.le_trans hb2 (hAm q h), fun q h h' => ?_⟩ hPx4 hPm4 hS4 ?_
  · have h1 := hx2 q h
    have h2 := hAm q h'
    omega
  · show lv_has ls 4 [(0, .ref b), (1, .ref (adx 0)), (2, .ref (adm 0)), (3, .int (Int32.ofInt (3 * ((0 : Nat) : Int))))]
    rw [hax, ham]
    exact lv_sub hl [3, 2, 1, 0] rfl
