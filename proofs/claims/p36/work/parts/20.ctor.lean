/-! CORE 5a: a field is written; the heap keeps its size -/
section W5
variable {p : Program} {l : Launch} {e : Env} {R : Room} {s : State} {m : MethodId} {args : Array Value} {below : List Frame} {meth : Method} {c : Code} {H : Heap} {locs : List Loc} {cells slots : Nat} {Q : State → Prop}
variable {cc : ByteArray} {pc : Nat} {ls : Array Slot} {rest : List Value} {D : va_G} {cl : List vw_C} {A : Nat → Prop} {a : Nat} {tys : List (ClassId × FieldType)} {ws : va_W} {H0 : Heap}
theorem w_put (hexec : p.tables.exec = Jvm.exec) (hb : c.code = cc) {own C : String} {T : u_T} {N ci index : Nat} {Ts : List Cond} (hts : ∀ w ∈ Ts, w.before args s = true) (hin : ∀ w ∈ u_ws C T N, w ∈ Ts) (ty0 : Nat → FieldType) (hty : ∀ k, k < N → parseFieldDescriptor (T k).2.2.1 = some (ty0 k)) (hnm : ∀ a, a < N → ∀ b, b < N → a ≠ b → (T a).2.1 ≠ (T b).2.1) (hown : s.vm.findClass own = some m.cls) (hK : va_K D cl tys s) (hP : va_P D cl ws H) (hD : va_D A ws) (hS0 : va_S A H0 H locs) (q0 : Nat) {fs : List Value} (he : ws[q0]? = some (a, .inr (ci, fs))) (hc : cl[ci]? = some (C, T, N)) (k : Nat) (hk : k < N) (hlink : (Cond.fieldLink own index C (T k).2.1 (T k).2.2.1).before args s = true) (hC : (T k).1 = C) (hinit : (T k).2.2.2 = true → meth.name = "<init>" ∧ C = own) {ty : FieldType} {v : Value} (hd : parseFieldDescriptor (T k).2.2.1 = some ty) (hn : narrow ty v = v) (hfit : fits ty v = true) (hl : k < fs.length)
    (hdg : decode cc pc = .ok (.putfield index, 3)) (kk : ∀ (H1 : Heap) (locs1 : List Loc), va_P D cl (ws.set q0 (a, .inr (ci, fs.set k v))) H1 → H1.size = H.size → va_S A H0 H1 locs1 → W p l e R s m args below meth c H1 locs1 cells slots Q (F0 m (pc + 3) ls rest)) : W p l e R s m args below meth c H locs cells slots Q (F0 m pc ls (v :: .ref a :: rest)) := by
  have hap := va_apart (own := own) hts hin ty0 hty hnm hK hc
  obtain ⟨r, h1, cell, q1, q2, q3, q4⟩ := hP q0 _ he
  have hr : r = (C, T, N) := Option.some.inj (h1.symm.trans hc)
  subst hr
  obtain ⟨hS, hfc, kC, hkC, hkind⟩ := hK.1 ci _ hc
  obtain ⟨cf, kf, fi, f, hi, hsl⟩ := hS k hk
  have hi2 : s.fieldFound? C (T k).2.1 (T k).2.2.1 = some (cf, kf, fi, f) := by rw [← hC]; exact hi
  have hlay := hts _ (hin _ (u_in_lay hk))
  have hst := (u_facts hfc hkC (u_lays hts hin hk) hi).1
  unfold u_lay at hlay
  by_cases hfin : (T k).2.2.2 = true
  · rw [if_pos hfin] at hlay
    obtain ⟨hinm, hCo⟩ := hinit hfin
    have hcf : m.cls = cf := by
      obtain ⟨_, _, c', _, _, _, -, -, hf', -, -, -, hown2, -⟩ := Cond.laysFinal_spec hlay
      have e1 : c' = cf := by have := hi.symm.trans hf'; simp at this; exact this.1.symm
      rw [hC, hCo] at hown2
      rw [← e1]; exact Option.some.inj (hown.symm.trans hown2)
    have h6 := u_fits hfc hkC hkind (Or.inr hlay) hi hd hn hfit
    refine W.putFinK hexec hb hown hlink hi2 hst hcf hinm (by rw [q2]; exact h6) q1 q3 (by rw [hsl]; exact k2_hasslot (q4 k hk)) rfl rfl hdg fun H' e1 e2 e3 => ?_
    rw [hsl] at e1 ⊢
    exact kk H' _ (hP.set hD he ⟨_, hc, t_OB.to (V := updV (vp_V fs) k v) ⟨_, e1, q2, q3, t_set q4 hap hk v⟩ (fun j _ => vp_updV_set hl v j)⟩ e3) e2 (hS0.put e2 e3 (hD.2 q0 _ he))
  · rw [if_neg hfin] at hlay
    have h6 := u_store hfc hkC hkind hlay hi hd hn hfit
    refine W.putK hexec hb (f := f) ⟨hown, hlink, ⟨_, _, _, hi2⟩, hst⟩ (by rw [q2]; exact h6) q1 q3 (by rw [hsl]; exact k2_hasslot (q4 k hk)) rfl rfl hdg fun H' e1 e2 e3 => ?_
    rw [hsl] at e1 ⊢
    exact kk H' _ (hP.set hD he ⟨_, hc, t_OB.to (V := updV (vp_V fs) k v) ⟨_, e1, q2, q3, t_set q4 hap hk v⟩ (fun j _ => vp_updV_set hl v j)⟩ e3) e2 (hS0.put e2 e3 (hD.2 q0 _ he))
end W5
/-! CORE 5: constructors: cells made one behind another from an address b on; a cell's description is (kind, length or class, fields) -/
abbrev Dc : Type := Nat × Nat × List Value
def adOf (b : Nat) (kp : Nat → Nat) : Nat → Nat := fun k => if k < 1000 then b + k else kp k
def Bs (b : Nat) (ad : Nat → Nat) : Prop := ∀ k, k < 1000 → ad k = b + k
theorem adOf_B (b : Nat) (kp : Nat → Nat) : Bs b (adOf b kp) := fun _ h => if_pos h
def eR (ad : Nat → Nat) (n : Nat) (vs : List Value) : Nat → Option Nat := match vs with
  | [.ref r] => fun i => if i < n then some (ad (r + i)) else none
  | _ => fun _ => none
def eC (ad : Nat → Nat) (cA : Nat → ClassId) (d : Dc) : va_E :=
  if d.1 = 0 then .inr (d.2.1, d.2.2.map (tv ad))
  else if d.1 = 2 then .inl (cA 2, d.2.1, .inr (.inl (fun _ => 0)))
  else if d.1 = 5 then .inl (cA 5, d.2.1, .inr (.inr (.inr (.inr (eR ad d.2.1 d.2.2)))))
  else if d.1 = 6 then .inl (cA 6, d.2.1, .inr (.inr (.inr (.inr (eR ad d.2.1 d.2.2)))))
  else .inl (cA d.1, d.2.1, .inl (fun _ => 0))
def wc (Ds : List Dc) (ad : Nat → Nat) (cA : Nat → ClassId) : va_W := Ds.mapIdx (fun k d => (ad k, eC ad cA d))
theorem wc_at (Ds : List Dc) (ad : Nat → Nat) (cA : Nat → ClassId) (k : Nat) : (wc Ds ad cA)[k]? = Ds[k]?.map (fun d => (ad k, eC ad cA d)) := by simp [wc]
theorem wc_push (Ds : List Dc) (d : Dc) (ad : Nat → Nat) (cA : Nat → ClassId) : wc (Ds ++ [d]) ad cA = wc Ds ad cA ++ [(ad Ds.length, eC ad cA d)] := by
  simp [wc, List.mapIdx_append]
theorem wc_set (Ds : List Dc) (k : Nat) (d : Dc) (ad : Nat → Nat) (cA : Nat → ClassId) : (wc Ds ad cA).set k (ad k, eC ad cA d) = wc (Ds.set k d) ad cA := by
  apply List.ext_getElem?
  intro j
  rw [wc_at]
  by_cases hj : k = j
  · subst hj
    by_cases hl : k < Ds.length
    · rw [List.getElem?_set_self (by simpa [wc] using hl), List.getElem?_set_self hl]
      rfl
    · rw [List.getElem?_eq_none (by simp [wc]; omega), List.getElem?_eq_none (by simp; omega)]
      rfl
  · rw [List.getElem?_set_ne hj, List.getElem?_set_ne hj, wc_at]
theorem wc_D {b : Nat} {ad : Nat → Nat} {cA : Nat → ClassId} {Ds : List Dc} (hB : Bs b ad) (hl : Ds.length ≤ 1000) : va_D (fun q => b ≤ q) (wc Ds ad cA) := by
  have key : ∀ (k : Nat) (q : Nat × va_E), (wc Ds ad cA)[k]? = some q → k < 1000 ∧ q.1 = b + k := by
    intro k q h
    rw [wc_at] at h
    cases hd : Ds[k]? with
    | none => rw [hd] at h; cases h
    | some d =>
      rw [hd] at h
      have := (List.getElem?_eq_some_iff.mp hd).1
      have hk : k < 1000 := by omega
      cases h
      exact ⟨hk, hB k hk⟩
  refine ⟨fun i j p q hi hj e => ?_, fun k q hk => ?_⟩
  · have h1 := (key i p hi).2
    have h2 := (key j q hj).2
    omega
  · have := (key k q hk).2
    show b ≤ q.1
    omega
theorem ao_vm {ty : FieldType} {args args' : Array Value} {u U : State} (e : u.vm = U.vm) : (Cond.arrayOver ty).before args u = (Cond.arrayOver ty).before args' U := by
  unfold Cond.before Cond.holds
  simp only [Cond.value, e]
def AO (U : State) : Prop := (Cond.arrayOver (.array .int)).before #[] U = true ∧ (Cond.arrayOver (.array .long)).before #[] U = true
theorem AO.warm {s U : State} (hW : s.WarmedH U.vm) (h : AO s) : AO U := ⟨(ao_vm (u := U) (U := s.setVm U.vm) rfl).trans ((Cond.arrayOver_setVmC hW.alike _).trans h.1), (ao_vm (u := U) (U := s.setVm U.vm) rfl).trans ((Cond.arrayOver_setVmC hW.alike _).trans h.2)⟩
theorem AO.same {u U : State} (e : u.vm = U.vm) (h : AO u) : AO U := ⟨(ao_vm e.symm).trans h.1, (ao_vm e.symm).trans h.2⟩
def Cc (M : Mth) (p : Program) (u : State) (m : MethodId) (args : Array Value) (meth : Method) (c : Code) (D : va_G) (cA : Nat → ClassId) (ad : Nat → Nat) (b : Nat) : Prop :=
  p.tables.exec = Jvm.exec ∧ c.code = M.1 ∧ meth.sig.returnType = none ∧ c.maxLocals = M.2.2.1 ∧ u.vm.findClass M.2.1 = some m.cls ∧ (∀ w ∈ TW, w.before args u = true) ∧ meth.locks = false ∧ va_K D vwCl (tysOf cA) u ∧ (NW u ∧ AO u) ∧ meth.name = "<init>" ∧ b ≤ u.heap.size ∧ Bs b ad ∧ XS ad (fun q => b ≤ q) u u.heap
def QC (D : va_G) (b : Nat) (jf : Nat → Prop) (wp : va_W → Prop) : Array Value → State → Outcome → State → Prop := fun _ st oc t => (oc = .returned none ∧ (∃ j, t.heap.size = b + j ∧ jf j) ∧ ∃ w, wp w ∧ va_P D vwCl w t.heap) ∧ va_F (fun q => b ≤ q) st t
def Gc (M : Mth) (jf : Nat → Prop) (Wf : (Nat → Nat) → (Nat → ClassId) → va_W → Prop) (cs ss pc : Nat) (l : List (Nat × Value)) (st : List Value) (j : Nat) (Wc : (Nat → Nat) → (Nat → ClassId) → va_W) : Prop :=
  ∀ (p : Program) (lc : Launch) (e : Env) (u : State) (m : MethodId) (args : Array Value) (below : List Frame) (meth : Method) (c : Code) (D : va_G) (cA : Nat → ClassId) (ad : Nat → Nat) (b : Nat) (H : Heap) (locs : List Loc) (ls : Array Slot),
    Cc M p u m args meth c D cA ad b → H.size = b + j → va_P D vwCl (Wc ad cA) H → va_S (fun q => b ≤ q) u.heap H locs → lv_has ls M.2.2.1 (tl ad l) →
    W p lc e M.2.2.2.2 u m args below meth c H locs cs ss (MQ below (QC D b jf (Wf ad cA)) args u M.2.2.2.2.cells M.2.2.2.2.slots (fun q => b ≤ q)) (F0 m pc ls (ts ad st))
def SpC (y : MethodName) (w : Cond) (R : Room) (as : List Value) (j : Nat) (Wc : (Nat → Nat) → (Nat → ClassId) → va_W) (jf : Nat → Prop) (Wf : (Nat → Nat) → (Nat → ClassId) → va_W → Prop) : Prop :=
  ∀ (l : Launch) (D : va_G) (cA : Nat → ClassId) (ad : Nat → Nat) (b : Nat), Met l y (w :: TW) R (va_Pc (ts ad as) (fun U => U.heap.size = b + j ∧ va_P D vwCl (Wc ad cA) U.heap ∧ va_K D vwCl (tysOf cA) U ∧ (NW U ∧ AO U) ∧ Bs b ad ∧ XS ad (fun q => b ≤ q) U U.heap)) (QC D b jf (Wf ad cA)) R.cells R.slots (fun q => b ≤ q)
theorem SpC.body {y : MethodName} {cc : ByteArray} {nL : Nat} {R : Room} {as : List Value} {j : Nat} {jf : Nat → Prop} {Wc : (Nat → Nat) → (Nat → ClassId) → va_W} {Wf : (Nat → Nat) → (Nat → ClassId) → va_W → Prop} (hy : plainName y.cls = true) (hi : y.name = "<init>") (hn : (lg_sl as).length ≤ nL)
    (k : Gc (cc, y.cls, nL, none, R) jf Wf 0 0 0 (lv_args 0 as) [] j Wc) : SpC y (Cond.code y cc nL none) R as j Wc jf Wf := by
  intro l D cA ad b
  refine Met.ofW (cc := cc) (maxL := nL) (ret := none) hy rfl ?_
  intro p e u m args below meth c s₁ B hml hv
  obtain ⟨rfl, hsz, hP, hK, hN, hB, hX⟩ := hv
  have hts : ∀ w ∈ (Cond.code y cc nL none :: TW), w.before (ts ad as).toArray u = true := atoms_spec (ws := Cond.code y cc nL none :: TW) B.pre
  have hown : u.vm.findClass y.cls = some m.cls := findClass_of_methodNamed B.named
  rw [lg_entry_eq]
  have hl := lv_entry (ts ad as) (n := nL) (by rw [lg_ts]; exact hn)
  rw [tl_args] at hl
  exact k p l e u m _ below meth c D cA ad b u.heap [] _ ⟨B.exec, B.bytes, B.returns, hml, hown, fun w hw => hts w (List.mem_cons_of_mem _ hw), B.notSynchronized, hK, hN, (name_of_methodNamed B.named B.method).1.trans hi, by omega, hB, hX⟩ hsz hP va_S.rf hl
theorem c_iconst {M : Mth} {jf : Nat → Prop} {cs ss pc npc j : Nat} {Wc : (Nat → Nat) → (Nat → ClassId) → va_W} {Wf : (Nat → Nat) → (Nat → ClassId) → va_W → Prop} {l : List (Nat × Value)} {st : List Value} {n : Int} (hd : decode M.1 pc = .ok (.iconst n, 1)) (hn : pc + 1 = npc) (k : Gc M jf Wf cs ss npc l (iV n :: st) j Wc) : Gc M jf Wf cs ss pc l st j Wc := by
  subst hn
  intro p lc e u m args below meth c D cA ad b H locs ls X hz hP hS hl
  obtain ⟨hx, hb, hr, hml, hown, hts, hlk, hK, hN, hin, hbu, hB, hXS⟩ := X
  exact lv_iconst hx hb hd rfl (k p lc e u m args below meth c D cA ad b H locs ls ⟨hx, hb, hr, hml, hown, hts, hlk, hK, hN, hin, hbu, hB, hXS⟩ hz hP hS hl)
theorem c_bipush {M : Mth} {jf : Nat → Prop} {cs ss pc npc j : Nat} {Wc : (Nat → Nat) → (Nat → ClassId) → va_W} {Wf : (Nat → Nat) → (Nat → ClassId) → va_W → Prop} {l : List (Nat × Value)} {st : List Value} {n x : Int} (hd : decode M.1 pc = .ok (.bipush n, 2)) (hn : pc + 2 = npc) (hv : (Int8.ofInt n).toInt32 = Int32.ofInt x) (k : Gc M jf Wf cs ss npc l (iV x :: st) j Wc) : Gc M jf Wf cs ss pc l st j Wc := by
  subst hn
  intro p lc e u m args below meth c D cA ad b H locs ls X hz hP hS hl
  obtain ⟨hx, hb, hr, hml, hown, hts, hlk, hK, hN, hin, hbu, hB, hXS⟩ := X
  exact lv_bipush hx hb hd hv (k p lc e u m args below meth c D cA ad b H locs ls ⟨hx, hb, hr, hml, hown, hts, hlk, hK, hN, hin, hbu, hB, hXS⟩ hz hP hS hl)
theorem c_sipush {M : Mth} {jf : Nat → Prop} {cs ss pc npc j : Nat} {Wc : (Nat → Nat) → (Nat → ClassId) → va_W} {Wf : (Nat → Nat) → (Nat → ClassId) → va_W → Prop} {l : List (Nat × Value)} {st : List Value} {n x : Int} (hd : decode M.1 pc = .ok (.sipush n, 3)) (hn : pc + 3 = npc) (hv : (Int16.ofInt n).toInt32 = Int32.ofInt x) (k : Gc M jf Wf cs ss npc l (iV x :: st) j Wc) : Gc M jf Wf cs ss pc l st j Wc := by
  subst hn
  intro p lc e u m args below meth c D cA ad b H locs ls X hz hP hS hl
  obtain ⟨hx, hb, hr, hml, hown, hts, hlk, hK, hN, hin, hbu, hB, hXS⟩ := X
  exact lv_sipush hx hb hd hv (k p lc e u m args below meth c D cA ad b H locs ls ⟨hx, hb, hr, hml, hown, hts, hlk, hK, hN, hin, hbu, hB, hXS⟩ hz hP hS hl)
theorem c_aload_n {M : Mth} {jf : Nat → Prop} {cs ss pc npc j : Nat} {Wc : (Nat → Nat) → (Nat → ClassId) → va_W} {Wf : (Nat → Nat) → (Nat → ClassId) → va_W → Prop} {l : List (Nat × Value)} {st : List Value} {q : Fin 4} {i x : Nat} (hd : decode M.1 pc = .ok (.aload_n q, 1)) (hn : pc + 1 = npc) (hi : (q : Nat) = i) (hg : lget l i = some (.ref x)) (k : Gc M jf Wf cs ss npc l (.ref x :: st) j Wc) : Gc M jf Wf cs ss pc l st j Wc := by
  subst hn
  intro p lc e u m args below meth c D cA ad b H locs ls X hz hP hS hl
  obtain ⟨hx, hb, hr, hml, hown, hts, hlk, hK, hN, hin, hbu, hB, hXS⟩ := X
  exact lv_aload_n hx hb hd hi (lget_at hl hg) (k p lc e u m args below meth c D cA ad b H locs ls ⟨hx, hb, hr, hml, hown, hts, hlk, hK, hN, hin, hbu, hB, hXS⟩ hz hP hS hl)
theorem c_dup {M : Mth} {jf : Nat → Prop} {cs ss pc npc j : Nat} {Wc : (Nat → Nat) → (Nat → ClassId) → va_W} {Wf : (Nat → Nat) → (Nat → ClassId) → va_W → Prop} {l : List (Nat × Value)} {st : List Value} {v : Value} (hd : decode M.1 pc = .ok (.dup, 1)) (hn : pc + 1 = npc) (hc : v.category = 1) (k : Gc M jf Wf cs ss npc l (v :: v :: st) j Wc) : Gc M jf Wf cs ss pc l (v :: st) j Wc := by
  subst hn
  intro p lc e u m args below meth c D cA ad b H locs ls X hz hP hS hl
  obtain ⟨hx, hb, hr, hml, hown, hts, hlk, hK, hN, hin, hbu, hB, hXS⟩ := X
  exact lv_dup hx hb hd (by rw [tv_cat]; exact hc) (k p lc e u m args below meth c D cA ad b H locs ls ⟨hx, hb, hr, hml, hown, hts, hlk, hK, hN, hin, hbu, hB, hXS⟩ hz hP hS hl)
theorem c_obj {M : Mth} {jf : Nat → Prop} {cs ss pc npc j : Nat} {Wc : (Nat → Nat) → (Nat → ClassId) → va_W} {Wf : (Nat → Nat) → (Nat → ClassId) → va_W → Prop} {l : List (Nat × Value)} {st : List Value} {idx x : Nat} (hd : decode M.1 pc = .ok (.invokespecial idx, 3)) (hn : pc + 3 = npc) (hw : Cond.methodLink M.2.1 idx Lib.objectInit ∈ TW ∧ Cond.instanceMethod Lib.objectInit ∈ TW ∧ Cond.code Lib.objectInit ⟨#[0xb1]⟩ 1 none ∈ TW) (hR : 1 ≤ M.2.2.2.2.frames ∧ (st.map fun v => v.category).sum + 12 ≤ M.2.2.2.2.locals) (k : Gc M jf Wf cs ss npc l st j Wc) : Gc M jf Wf cs ss pc l (.ref x :: st) j Wc := by
  subst hn
  intro p lc e u m args below meth c D cA ad b H locs ls X hz hP hS hl
  obtain ⟨hx, hb, hr, hml, hown, hts, hlk, hK, hN, hin, hbu, hB, hXS⟩ := X
  refine W.objInit hx hb hown (hts _ hw.1) (hts _ hw.2.1) (hts _ hw.2.2) rfl (hl.1.trans hml.symm) rfl hd hR.1 (by show 2 * 0 + ((ts ad st).map fun v => v.category).sum + 12 ≤ _; rw [ts_cat]; omega) (k p lc e u m args below meth c D cA ad b H locs ls ⟨hx, hb, hr, hml, hown, hts, hlk, hK, hN, hin, hbu, hB, hXS⟩ hz hP hS hl)
theorem c_ret {M : Mth} {jf : Nat → Prop} {cs ss pc j : Nat} {Wc : (Nat → Nat) → (Nat → ClassId) → va_W} {Wf : (Nat → Nat) → (Nat → ClassId) → va_W → Prop} {l : List (Nat × Value)} (hd : decode M.1 pc = .ok (.return_, 1)) (hj : jf j) (hW : ∀ ad cA, Wf ad cA (Wc ad cA)) (hc : cs ≤ M.2.2.2.2.cells ∧ ss ≤ M.2.2.2.2.slots) : Gc M jf Wf cs ss pc l [] j Wc := by
  intro p lc e u m args below meth c D cA ad b H locs ls X hz hP hS hl
  obtain ⟨hx, hb, hr, hml, hown, hts, hlk, hK, hN, hin, hbu, hB, hXS⟩ := X
  refine W.widen hc.1 hc.2 ?_
  exact W.vret hx hb hr (fun t ht hW2 => ⟨⟨rfl, ⟨j, by rw [ht]; exact hz, hj⟩, _, hW ad cA, by rw [ht]; exact hP⟩, hS.F ht⟩) hS.2.2 hd hlk
theorem c_new {M : Mth} {jf : Nat → Prop} {cs ss pc npc j : Nat} {Wf : (Nat → Nat) → (Nat → ClassId) → va_W → Prop} {Ds : List Dc} {l : List (Nat × Value)} {st : List Value} {C : String} {T : u_T} {N idx ci : Nat} {fs : List Value} (hd : decode M.1 pc = .ok (.new idx, 3)) (hn : pc + 3 = npc) (hw : Cond.classLink M.2.1 idx C ∈ TW ∧ Cond.instantiable C N ∈ TW ∧ Cond.initialized C ∈ TW) (hcl : vwCl[ci]? = some (C, T, N)) (hws : ∀ w ∈ u_ws C T N, w ∈ TW) (ty : Nat → FieldType) (hty : ∀ k, k < N → parseFieldDescriptor (T k).2.2.1 = some (ty k)) (hfs : ∀ i, i < N → defaultValue (ty i) = vp_V fs i) (hfs2 : ∀ ad : Nat → Nat, fs.map (tv ad) = fs) (hj : Ds.length = j) (hlt : j < 1000) (hR : cs + 1 ≤ M.2.2.2.2.cells ∧ ss + N ≤ M.2.2.2.2.slots)
    (k : Gc M jf Wf (cs + 1) (ss + N) npc l (.ref j :: st) (j + 1) (wc (Ds ++ [(0, ci, fs)]))) : Gc M jf Wf cs ss pc l st j (wc Ds) := by
  subst hn hj
  intro p lc e u m args below meth c D cA ad b H locs ls X hz hP hS hl
  obtain ⟨hx, hb, hr, hml, hown, hts, hlk, hK, hN, hin, hbu, hB, hXS⟩ := X
  have hKn := hK.1 ci _ hcl
  refine W.newcK hx hb hown (hts _ hw.1) (hts _ hw.2.1) (hts _ hw.2.2) rfl hd hR.1 hR.2 hKn.2.1 hz fun H1 kC hkC e1 z1 o1 => ?_
  have hk : ∀ (k : Nat) (x : Nat × va_E), (wc Ds ad cA)[k]? = some x → H1[x.1]? = H[x.1]? := fun k x hx => o1 x.1 (by have := (hP k x hx).lt; omega)
  have hP1 : va_P D vwCl (wc (Ds ++ [(0, ci, fs)]) ad cA) H1 := by
    rw [wc_push]
    refine (hP.kept hk).app (fun k x hx => ?_)
    have hz : k < 1 := (List.getElem?_eq_some_iff.mp hx).1
    rw [show k = 0 by omega] at hx
    cases hx
    refine ⟨_, hcl, ?_⟩
    have := (u_born ty hts hws hKn hkC e1 hty).to hfs
    rw [hB _ hlt]
    show t_OB _ _ _ _ _ (vp_V (fs.map (tv ad)))
    rw [hfs2]
    exact this
  have := k p lc e u m args below meth c D cA ad b H1 locs ls ⟨hx, hb, hr, hml, hown, hts, hlk, hK, hN, hin, hbu, hB, hXS⟩ (by omega) hP1 ⟨Nat.le_trans hS.1 (by omega), fun x h1 h2 => (o1 x (by have := hS.1; omega)).trans (hS.2.1 x h1 h2), hS.2.2⟩ hl
  have e9 : ts ad (.ref Ds.length :: st) = .ref (b + Ds.length) :: ts ad st := by
    show Value.ref (ad Ds.length) :: _ = _
    rw [hB _ hlt]
    rfl
  rw [e9] at this
  exact this
theorem c_newI {M : Mth} {jf : Nat → Prop} {cs ss pc npc j : Nat} {Wf : (Nat → Nat) → (Nat → ClassId) → va_W → Prop} {Ds : List Dc} {l : List (Nat × Value)} {st : List Value} {n : Nat} (hd : decode M.1 pc = .ok (.newarray .int, 2)) (hn : pc + 2 = npc) (hw : Cond.arrayClass .int ∈ TW) (hnn : n < 10000) (hj : Ds.length = j) (hlt : j < 1000) (hR : cs + 1 ≤ M.2.2.2.2.cells ∧ ss + n ≤ M.2.2.2.2.slots)
    (k : Gc M jf Wf (cs + 1) (ss + n) npc l (.ref j :: st) (j + 1) (wc (Ds ++ [(1, n, [])]))) : Gc M jf Wf cs ss pc l (iV (n : Int) :: st) j (wc Ds) := by
  subst hn hj
  intro p lc e u m args below meth c D cA ad b H locs ls X hz hP hS hl
  obtain ⟨hx, hb, hr, hml, hown, hts, hlk, hK, hN, hin, hbu, hB, hXS⟩ := X
  have en : (Int32.ofInt (n : Int)).toInt = (n : Int) := ofInt_toInt32 (by omega)
  have en2 : (Int32.ofInt (n : Int)).toNatClampNeg = n := by show (Int32.ofInt (n : Int)).toInt.toNat = n; rw [en]; omega
  refine va_newaK (N := n) hx hb (atype := .int) (hts _ hw) rfl hd rfl (by rw [Int32.lt_iff_toInt_lt, en]; show ¬ (n : Int) < 0; omega) en2 (by show n * 4 ≤ 536870912; omega) hR.1 hR.2 hz fun H1 cA' e1 z1 o1 hAr hNm => ?_
  have hcA : cA' = cA 1 := by
    have h9 : u.vm.findClass ("[" ++ (FieldType.int).toString) = some (cA 1) := (hK.2 0 _ rfl).2
    exact Option.some.inj (hNm.symm.trans h9)
  subst hcA
  have hk : ∀ (k : Nat) (x : Nat × va_E), (wc Ds ad cA)[k]? = some x → H1[x.1]? = H[x.1]? := fun k x hx => o1 x.1 (by have := (hP k x hx).lt; omega)
  have hP1 : va_P D vwCl (wc (Ds ++ [(1, n, [])]) ad cA) H1 := by
    rw [wc_push]
    refine (hP.kept hk).app (fun k x hx => ?_)
    have hz : k < 1 := (List.getElem?_eq_some_iff.mp hx).1
    rw [show k = 0 by omega] at hx
    cases hx
    show H1[ad Ds.length]? = some (vp_cell (cA 1) (n, .inl (fun _ => 0)))
    rw [hB _ hlt, e1]
    rfl
  have := k p lc e u m args below meth c D cA ad b H1 locs ls ⟨hx, hb, hr, hml, hown, hts, hlk, hK, hN, hin, hbu, hB, hXS⟩ (by omega) hP1 ⟨Nat.le_trans hS.1 (by omega), fun x h1 h2 => (o1 x (by have := hS.1; omega)).trans (hS.2.1 x h1 h2), hS.2.2⟩ hl
  have e9 : ts ad (.ref Ds.length :: st) = .ref (b + Ds.length) :: ts ad st := by
    show Value.ref (ad Ds.length) :: _ = _
    rw [hB _ hlt]
    rfl
  rw [e9] at this
  exact this
theorem c_newJ {M : Mth} {jf : Nat → Prop} {cs ss pc npc j : Nat} {Wf : (Nat → Nat) → (Nat → ClassId) → va_W → Prop} {Ds : List Dc} {l : List (Nat × Value)} {st : List Value} {n : Nat} (hd : decode M.1 pc = .ok (.newarray .long, 2)) (hn : pc + 2 = npc) (hw : Cond.arrayClass .long ∈ TW) (hnn : n < 10000) (hj : Ds.length = j) (hlt : j < 1000) (hR : cs + 1 ≤ M.2.2.2.2.cells ∧ ss + n ≤ M.2.2.2.2.slots)
    (k : Gc M jf Wf (cs + 1) (ss + n) npc l (.ref j :: st) (j + 1) (wc (Ds ++ [(2, n, [])]))) : Gc M jf Wf cs ss pc l (iV (n : Int) :: st) j (wc Ds) := by
  subst hn hj
  intro p lc e u m args below meth c D cA ad b H locs ls X hz hP hS hl
  obtain ⟨hx, hb, hr, hml, hown, hts, hlk, hK, hN, hin, hbu, hB, hXS⟩ := X
  have en : (Int32.ofInt (n : Int)).toInt = (n : Int) := ofInt_toInt32 (by omega)
  have en2 : (Int32.ofInt (n : Int)).toNatClampNeg = n := by show (Int32.ofInt (n : Int)).toInt.toNat = n; rw [en]; omega
  refine va_newaK (N := n) hx hb (atype := .long) (hts _ hw) rfl hd rfl (by rw [Int32.lt_iff_toInt_lt, en]; show ¬ (n : Int) < 0; omega) en2 (by show n * 8 ≤ 536870912; omega) hR.1 hR.2 hz fun H1 cA' e1 z1 o1 hAr hNm => ?_
  have hcA : cA' = cA 2 := by
    have h9 : u.vm.findClass ("[" ++ (FieldType.long).toString) = some (cA 2) := (hK.2 1 _ rfl).2
    exact Option.some.inj (hNm.symm.trans h9)
  subst hcA
  have hk : ∀ (k : Nat) (x : Nat × va_E), (wc Ds ad cA)[k]? = some x → H1[x.1]? = H[x.1]? := fun k x hx => o1 x.1 (by have := (hP k x hx).lt; omega)
  have hP1 : va_P D vwCl (wc (Ds ++ [(2, n, [])]) ad cA) H1 := by
    rw [wc_push]
    refine (hP.kept hk).app (fun k x hx => ?_)
    have hz : k < 1 := (List.getElem?_eq_some_iff.mp hx).1
    rw [show k = 0 by omega] at hx
    cases hx
    show H1[ad Ds.length]? = some (vp_cell (cA 2) (n, .inr (.inl (fun _ => 0))))
    rw [hB _ hlt, e1]
    rfl
  have := k p lc e u m args below meth c D cA ad b H1 locs ls ⟨hx, hb, hr, hml, hown, hts, hlk, hK, hN, hin, hbu, hB, hXS⟩ (by omega) hP1 ⟨Nat.le_trans hS.1 (by omega), fun x h1 h2 => (o1 x (by have := hS.1; omega)).trans (hS.2.1 x h1 h2), hS.2.2⟩ hl
  have e9 : ts ad (.ref Ds.length :: st) = .ref (b + Ds.length) :: ts ad st := by
    show Value.ref (ad Ds.length) :: _ = _
    rw [hB _ hlt]
    rfl
  rw [e9] at this
  exact this
theorem c_newC {M : Mth} {jf : Nat → Prop} {cs ss pc npc j : Nat} {Wf : (Nat → Nat) → (Nat → ClassId) → va_W → Prop} {Ds : List Dc} {l : List (Nat × Value)} {st : List Value} {n : Nat} (hd : decode M.1 pc = .ok (.newarray .char, 2)) (hn : pc + 2 = npc) (hw : Cond.arrayClass .char ∈ TW) (hnn : n < 10000) (hj : Ds.length = j) (hlt : j < 1000) (hR : cs + 1 ≤ M.2.2.2.2.cells ∧ ss + n ≤ M.2.2.2.2.slots)
    (k : Gc M jf Wf (cs + 1) (ss + n) npc l (.ref j :: st) (j + 1) (wc (Ds ++ [(3, n, [])]))) : Gc M jf Wf cs ss pc l (iV (n : Int) :: st) j (wc Ds) := by
  subst hn hj
  intro p lc e u m args below meth c D cA ad b H locs ls X hz hP hS hl
  obtain ⟨hx, hb, hr, hml, hown, hts, hlk, hK, hN, hin, hbu, hB, hXS⟩ := X
  have en : (Int32.ofInt (n : Int)).toInt = (n : Int) := ofInt_toInt32 (by omega)
  have en2 : (Int32.ofInt (n : Int)).toNatClampNeg = n := by show (Int32.ofInt (n : Int)).toInt.toNat = n; rw [en]; omega
  refine va_newaK (N := n) hx hb (atype := .char) (hts _ hw) rfl hd rfl (by rw [Int32.lt_iff_toInt_lt, en]; show ¬ (n : Int) < 0; omega) en2 (by show n * 2 ≤ 536870912; omega) hR.1 hR.2 hz fun H1 cA' e1 z1 o1 hAr hNm => ?_
  have hcA : cA' = cA 3 := by
    have h9 : u.vm.findClass ("[" ++ (FieldType.char).toString) = some (cA 3) := (hK.2 2 _ rfl).2
    exact Option.some.inj (hNm.symm.trans h9)
  subst hcA
  have hk : ∀ (k : Nat) (x : Nat × va_E), (wc Ds ad cA)[k]? = some x → H1[x.1]? = H[x.1]? := fun k x hx => o1 x.1 (by have := (hP k x hx).lt; omega)
  have hP1 : va_P D vwCl (wc (Ds ++ [(3, n, [])]) ad cA) H1 := by
    rw [wc_push]
    refine (hP.kept hk).app (fun k x hx => ?_)
    have hz : k < 1 := (List.getElem?_eq_some_iff.mp hx).1
    rw [show k = 0 by omega] at hx
    cases hx
    show H1[ad Ds.length]? = some (vp_cell (cA 3) (n, .inl (fun _ => 0)))
    rw [hB _ hlt, e1]
    rfl
  have := k p lc e u m args below meth c D cA ad b H1 locs ls ⟨hx, hb, hr, hml, hown, hts, hlk, hK, hN, hin, hbu, hB, hXS⟩ (by omega) hP1 ⟨Nat.le_trans hS.1 (by omega), fun x h1 h2 => (o1 x (by have := hS.1; omega)).trans (hS.2.1 x h1 h2), hS.2.2⟩ hl
  have e9 : ts ad (.ref Ds.length :: st) = .ref (b + Ds.length) :: ts ad st := by
    show Value.ref (ad Ds.length) :: _ = _
    rw [hB _ hlt]
    rfl
  rw [e9] at this
  exact this
theorem c_newZ {M : Mth} {jf : Nat → Prop} {cs ss pc npc j : Nat} {Wf : (Nat → Nat) → (Nat → ClassId) → va_W → Prop} {Ds : List Dc} {l : List (Nat × Value)} {st : List Value} {n : Nat} (hd : decode M.1 pc = .ok (.newarray .boolean, 2)) (hn : pc + 2 = npc) (hw : Cond.arrayClass .boolean ∈ TW) (hnn : n < 10000) (hj : Ds.length = j) (hlt : j < 1000) (hR : cs + 1 ≤ M.2.2.2.2.cells ∧ ss + n ≤ M.2.2.2.2.slots)
    (k : Gc M jf Wf (cs + 1) (ss + n) npc l (.ref j :: st) (j + 1) (wc (Ds ++ [(4, n, [])]))) : Gc M jf Wf cs ss pc l (iV (n : Int) :: st) j (wc Ds) := by
  subst hn hj
  intro p lc e u m args below meth c D cA ad b H locs ls X hz hP hS hl
  obtain ⟨hx, hb, hr, hml, hown, hts, hlk, hK, hN, hin, hbu, hB, hXS⟩ := X
  have en : (Int32.ofInt (n : Int)).toInt = (n : Int) := ofInt_toInt32 (by omega)
  have en2 : (Int32.ofInt (n : Int)).toNatClampNeg = n := by show (Int32.ofInt (n : Int)).toInt.toNat = n; rw [en]; omega
  refine va_newaK (N := n) hx hb (atype := .boolean) (hts _ hw) rfl hd rfl (by rw [Int32.lt_iff_toInt_lt, en]; show ¬ (n : Int) < 0; omega) en2 (by show n * 1 ≤ 536870912; omega) hR.1 hR.2 hz fun H1 cA' e1 z1 o1 hAr hNm => ?_
  have hcA : cA' = cA 4 := by
    have h9 : u.vm.findClass ("[" ++ (FieldType.boolean).toString) = some (cA 4) := (hK.2 3 _ rfl).2
    exact Option.some.inj (hNm.symm.trans h9)
  subst hcA
  have hk : ∀ (k : Nat) (x : Nat × va_E), (wc Ds ad cA)[k]? = some x → H1[x.1]? = H[x.1]? := fun k x hx => o1 x.1 (by have := (hP k x hx).lt; omega)
  have hP1 : va_P D vwCl (wc (Ds ++ [(4, n, [])]) ad cA) H1 := by
    rw [wc_push]
    refine (hP.kept hk).app (fun k x hx => ?_)
    have hz : k < 1 := (List.getElem?_eq_some_iff.mp hx).1
    rw [show k = 0 by omega] at hx
    cases hx
    show H1[ad Ds.length]? = some (vp_cell (cA 4) (n, .inl (fun _ => 0)))
    rw [hB _ hlt, e1]
    rfl
  have := k p lc e u m args below meth c D cA ad b H1 locs ls ⟨hx, hb, hr, hml, hown, hts, hlk, hK, hN, hin, hbu, hB, hXS⟩ (by omega) hP1 ⟨Nat.le_trans hS.1 (by omega), fun x h1 h2 => (o1 x (by have := hS.1; omega)).trans (hS.2.1 x h1 h2), hS.2.2⟩ hl
  have e9 : ts ad (.ref Ds.length :: st) = .ref (b + Ds.length) :: ts ad st := by
    show Value.ref (ad Ds.length) :: _ = _
    rw [hB _ hlt]
    rfl
  rw [e9] at this
  exact this
theorem c_putF {M : Mth} {jf : Nat → Prop} {cs ss pc npc j : Nat} {Wf : (Nat → Nat) → (Nat → ClassId) → va_W → Prop} {Ds : List Dc} {l : List (Nat × Value)} {st : List Value} {C : String} {T : u_T} {N idx f k ci : Nat} {v : Value} {fs : List Value} (ty0 : Nat → FieldType) (hd : decode M.1 pc = .ok (.putfield idx, 3)) (hn : pc + 3 = npc) (hk : Ds[k]? = some (0, ci, fs)) (hk2 : k < 1000) (hl1 : Ds.length ≤ 1000) (hcl : vwCl[ci]? = some (C, T, N)) (hws : ∀ w ∈ u_ws C T N, w ∈ TW) (hty : ∀ k, k < N → parseFieldDescriptor (T k).2.2.1 = some (ty0 k)) (hnm : ∀ a, a < N → ∀ b, b < N → a ≠ b → (T a).2.1 ≠ (T b).2.1) (hf : f < N) (hlink : Cond.fieldLink M.2.1 idx C (T f).2.1 (T f).2.2.1 ∈ TW) (hC : (T f).1 = C) (hown2 : C = M.2.1) (hv : ∀ ad : Nat → Nat, narrow (ty0 f) (tv ad v) = tv ad v ∧ fits (ty0 f) (tv ad v) = true) (hl2 : f < fs.length)
    (k' : Gc M jf Wf cs ss npc l st j (wc (Ds.set k (0, ci, fs.set f v)))) : Gc M jf Wf cs ss pc l (v :: .ref k :: st) j (wc Ds) := by
  subst hn
  intro p lc e9 u m args below meth c D cA ad b H locs ls X hz hP hS hl
  obtain ⟨hx, hb, hr, hml, hown, hts, hlk, hK, hN, hin, hbu, hB, hXS⟩ := X
  have ha : (wc Ds ad cA)[k]? = some (ad k, .inr (ci, fs.map (tv ad))) := by rw [wc_at, hk]; rfl
  have hD : va_D (fun q => b ≤ q) (wc Ds ad cA) := wc_D hB hl1
  refine w_put hx hb hts hws ty0 hty hnm hown hK hP hD hS k ha hcl f hf (hts _ hlink) hC (fun _ => ⟨hin, hown2⟩) (hty f hf) (hv ad).1 (hv ad).2 (by simpa using hl2) hd (fun H1 locs1 hP1 hz1 hS1 => ?_)
  have e : (wc Ds ad cA).set k (ad k, .inr (ci, (fs.map (tv ad)).set f (tv ad v))) = wc (Ds.set k (0, ci, fs.set f v)) ad cA := by
    rw [← wc_set]
    have e2 : (fs.map (tv ad)).set f (tv ad v) = (fs.set f v).map (tv ad) := (List.map_set ..).symm
    rw [e2]
    rfl
  rw [e] at hP1
  exact k' p lc e9 u m args below meth c D cA ad b H1 locs1 ls ⟨hx, hb, hr, hml, hown, hts, hlk, hK, hN, hin, hbu, hB, hXS⟩ (hz1.trans hz) hP1 hS1 hl
theorem c_get {M : Mth} {jf : Nat → Prop} {cs ss pc npc j : Nat} {Wf : (Nat → Nat) → (Nat → ClassId) → va_W → Prop} {Ds : List Dc} {l : List (Nat × Value)} {st : List Value} {C : String} {T : u_T} {N idx f k ci : Nat} {v : Value} {fs : List Value} (hd : decode M.1 pc = .ok (.getfield idx, 3)) (hn : pc + 3 = npc) (hk : Ds[k]? = some (0, ci, fs)) (hcl : vwCl[ci]? = some (C, T, N)) (hws : ∀ w ∈ u_ws C T N, w ∈ TW) (hf : f < N) (hlink : Cond.fieldLink M.2.1 idx C (T f).2.1 (T f).2.2.1 ∈ TW) (hC : (T f).1 = C) (hv : fs[f]? = some v)
    (k' : Gc M jf Wf cs ss npc l (v :: st) j (wc Ds)) : Gc M jf Wf cs ss pc l (.ref k :: st) j (wc Ds) := by
  subst hn
  intro p lc e u m args below meth c D cA ad b H locs ls X hz hP hS hl
  obtain ⟨hx, hb, hr, hml, hown, hts, hlk, hK, hN, hin, hbu, hB, hXS⟩ := X
  have ha : (wc Ds ad cA)[k]? = some (ad k, .inr (ci, fs.map (tv ad))) := by rw [wc_at, hk]; rfl
  exact va_get hx hb hts hws hown hK hP k ha hcl f hf (hts _ hlink) (fun x hx => by rw [hC] at hx; exact hx) (v := tv ad v) (by rw [List.getElem?_map, hv]; rfl) hd (k' p lc e u m args below meth c D cA ad b H locs ls ⟨hx, hb, hr, hml, hown, hts, hlk, hK, hN, hin, hbu, hB, hXS⟩ hz hP hS hl)
theorem fb_pC {D : va_G} {cA : Nat → ClassId} {ad : Nat → Nat} {b j : Nat} {av : List Value} {w : va_W} : FrameBlind (va_Pc av (fun U => U.heap.size = b + j ∧ va_P D vwCl w U.heap ∧ va_K D vwCl (tysOf cA) U ∧ (NW U ∧ AO U) ∧ Bs b ad ∧ XS ad (fun q => b ≤ q) U U.heap)) := by
  intro a U g mk q
  obtain ⟨q1, q2, q3, q4, q5, q6, q7⟩ := q
  exact ⟨q1, q2, q3, va_K.moved (u := U) (U := U.calling g mk a) (Vm.Alike.refl U.vm) q4, ⟨NW.same rfl q5.1, AO.same rfl q5.2⟩, q6, XS.same (u := U) (U := U.calling g mk a) rfl q7⟩
theorem c_run {M : Mth} {jf : Nat → Prop} {cs ss pc j2 mc ms : Nat} {Wf : (Nat → Nat) → (Nat → ClassId) → va_W → Prop} {W2 : (Nat → Nat) → (Nat → ClassId) → va_W} {l : List (Nat × Value)} {st0 : List Value} (st : List Value) {p : Program} {lc : Launch} {e : Env} {u : State} {m : MethodId} {args : Array Value} {below : List Frame} {meth : Method} {c : Code} {D : va_G} {cA : Nat → ClassId} {ad : Nat → Nat} {b : Nat} {H : Heap} {locs : List Loc} {ls : Array Slot} {a : Array Value}
    (hr : va_Run p lc e M.2.2.2.2 u m args below meth c H locs cs ss mc ms (F0 m pc ls st0) (ts ad st) (QC D b (fun x => x = j2) (fun w => w = W2 ad cA) a) (fun q => b ≤ q)) (X : Cc M p u m args meth c D cA ad b) (hS : va_S (fun q => b ≤ q) u.heap H locs) (hl : lv_has ls M.2.2.1 (tl ad l)) (k : Gc M jf Wf (cs + mc) (ss + ms) (pc + 3) l st j2 W2) :
    W p lc e M.2.2.2.2 u m args below meth c H locs cs ss (MQ below (QC D b jf (Wf ad cA)) args u M.2.2.2.2.cells M.2.2.2.2.slots (fun q => b ≤ q)) (F0 m pc ls st0) := by
  intro T hT Y
  obtain ⟨v, st₀, t, T', L, h0, X', hL, e1, e2, ⟨⟨hv, ⟨j9, hsz, rfl⟩, w9, rfl, hb⟩, hz, hk⟩, stp⟩ := hr T hT Y
  have hv' : v = none := Outcome.returned.inj hv
  subst hv'
  rw [h0] at hz hk
  have hP' : va_P D vwCl (W2 ad cA) T'.heap := by rw [e1]; exact hb
  have hS' : va_S (fun q => b ≤ q) u.heap T'.heap (locs ++ L) := ⟨Nat.le_trans hS.1 (by rw [e1]; exact hz), fun q h1 h2 => by rw [e1, hk q (Nat.lt_of_lt_of_le h1 hS.1) h2]; exact hS.2.1 q h1 h2, fun q hq => by
    rcases List.mem_append.mp hq with h | h
    · exact hS.2.2 q h
    · exact hL q h⟩
  obtain ⟨t2, a1, b1⟩ := k p lc e u m args below meth c D cA ad b T'.heap (locs ++ L) ls X (by rw [e1]; exact hsz) hP' hS' hl T' rfl X'
  exact ⟨t2, stp t2 a1, b1⟩
theorem c_callN {M : Mth} {jf : Nat → Prop} {cs ss pc npc j j2 idx n k maxL : Nat} {Wf : (Nat → Nat) → (Nat → ClassId) → va_W → Prop} {Wc W2 : (Nat → Nat) → (Nat → ClassId) → va_W} {l : List (Nat × Value)} {st0 st : List Value} {y : MethodName} {cy : ByteArray} {R2 : Room} {as : List Value}
    (hd : decode M.1 pc = .ok (.invokespecial idx, 3)) (hn : pc + 3 = npc) (hst : st0 = as.reverse ++ .ref k :: st) (hw : (M.2.1, idx, y, "ChipGame") ∈ nestM ∧ Cond.initialized y.cls ∈ TW ∧ Cond.instanceMethod y ∈ TW ∧ Cond.code y cy maxL none ∈ TW) (hy : y.cls ≠ "java/lang/invoke/MethodHandle" ∧ y.cls ≠ "java/lang/invoke/VarHandle" ∧ (parseMethodDescriptor y.desc).map (fun d => d.parameters.length) = some n) (hi : y.name = "<init>") (hlen : as.length = n) (hcat : (st.map (fun v => v.category)).sum ≤ 8) (hR : R2.frames + 1 ≤ M.2.2.2.2.frames ∧ 8 + (maxL + 11) + R2.locals ≤ M.2.2.2.2.locals) (hR2 : cs + R2.cells ≤ M.2.2.2.2.cells ∧ ss + R2.slots ≤ M.2.2.2.2.slots)
    (hS9 : SpC y (Cond.code y cy maxL none) R2 (.ref k :: as) j Wc (fun x => x = j2) (fun ad cA w => w = W2 ad cA)) (k' : Gc M jf Wf (cs + R2.cells) (ss + R2.slots) npc l st j2 W2) : Gc M jf Wf cs ss pc l st0 j Wc := by
  subst hn hst
  intro p lc e u m args below meth c D cA ad b H locs ls X hz hP hS hl
  obtain ⟨hx, hb, hr, hml, hown, hts, hlk, hK, hN, hin, hbu, hB, hXS⟩ := X
  obtain ⟨w1, w2, w3, w4⟩ := hw
  obtain ⟨w5, w6, w7⟩ := hy
  have hG : GoodIn TW (Cond.code y cy maxL none :: TW) := fun w hw => by
    have : w ∈ TW := by
      rcases List.mem_cons.mp hw with rfl | h
      · exact w4
      · exact h
    exact ⟨this, good_of_word (List.mem_filter.mp this).2⟩
  have hrev : ts ad (as.reverse ++ .ref k :: st) = (ts ad as).reverse ++ .ref (ad k) :: ts ad st := by simp [ts, tv]
  rw [hrev]
  refine c_run st (va_runIN (As := ts ad as) (rest := ts ad st) ⟨hx, hb, hml, hown, hts⟩ (hS9 lc D cA ad b) (⟨va_cnB n hts hG rfl rfl rfl (hN.1 _ w1) (hts _ w2) ⟨w5, w6, w7⟩ hR, hi, hts _ w3⟩) ⟨fb_pC, ?_⟩ rfl (by simp [ts, hlen]) hl.1 rfl (lv_room (by rw [ts_cat]; exact hcat)) hd hR2) ⟨hx, hb, hr, hml, hown, hts, hlk, hK, hN, hin, hbu, hB, hXS⟩ hS hl k'
  exact fun U hU hW => ⟨rfl, by rw [hU]; exact hz, by rw [hU]; exact hP, va_K.moved hW.alike hK, ⟨hN.1.warm hW, hN.2.warm hW⟩, hB, by rw [hU]; exact hXS.tr hW hS.1 (fun a h1 h2 => hS.2.1 a h1 h2) (fun h => h)⟩
theorem c_callI {M : Mth} {jf : Nat → Prop} {cs ss pc npc j j2 idx n k maxL : Nat} {Wf : (Nat → Nat) → (Nat → ClassId) → va_W → Prop} {Wc W2 : (Nat → Nat) → (Nat → ClassId) → va_W} {l : List (Nat × Value)} {st0 st : List Value} {y : MethodName} {cy : ByteArray} {R2 : Room} {as : List Value}
    (hd : decode M.1 pc = .ok (.invokespecial idx, 3)) (hn : pc + 3 = npc) (hst : st0 = as.reverse ++ .ref k :: st) (hw : Cond.methodLink M.2.1 idx y ∈ TW ∧ Cond.initialized y.cls ∈ TW ∧ Cond.instanceMethod y ∈ TW ∧ Cond.code y cy maxL none ∈ TW) (hy : y.cls ≠ "java/lang/invoke/MethodHandle" ∧ y.cls ≠ "java/lang/invoke/VarHandle" ∧ (parseMethodDescriptor y.desc).map (fun d => d.parameters.length) = some n) (hi : y.name = "<init>") (hlen : as.length = n) (hcat : (st.map (fun v => v.category)).sum ≤ 8) (hR : R2.frames + 1 ≤ M.2.2.2.2.frames ∧ 8 + (maxL + 11) + R2.locals ≤ M.2.2.2.2.locals) (hR2 : cs + R2.cells ≤ M.2.2.2.2.cells ∧ ss + R2.slots ≤ M.2.2.2.2.slots)
    (hS9 : SpC y (Cond.code y cy maxL none) R2 (.ref k :: as) j Wc (fun x => x = j2) (fun ad cA w => w = W2 ad cA)) (k' : Gc M jf Wf (cs + R2.cells) (ss + R2.slots) npc l st j2 W2) : Gc M jf Wf cs ss pc l st0 j Wc := by
  subst hn hst
  intro p lc e u m args below meth c D cA ad b H locs ls X hz hP hS hl
  obtain ⟨hx, hb, hr, hml, hown, hts, hlk, hK, hN, hin, hbu, hB, hXS⟩ := X
  obtain ⟨w1, w2, w3, w4⟩ := hw
  obtain ⟨w5, w6, w7⟩ := hy
  have hG : GoodIn TW (Cond.code y cy maxL none :: TW) := fun w hw => by
    have : w ∈ TW := by
      rcases List.mem_cons.mp hw with rfl | h
      · exact w4
      · exact h
    exact ⟨this, good_of_word (List.mem_filter.mp this).2⟩
  have hrev : ts ad (as.reverse ++ .ref k :: st) = (ts ad as).reverse ++ .ref (ad k) :: ts ad st := by simp [ts, tv]
  rw [hrev]
  refine c_run st (va_runI (As := ts ad as) (rest := ts ad st) ⟨hx, hb, hml, hown, hts⟩ (hS9 lc D cA ad b) (cwI n hts hG rfl rfl rfl (hts _ w2) (hts _ w1) (hts _ w3) hi ⟨w5, w6, w7⟩ hR) ⟨fb_pC, ?_⟩ rfl (by simp [ts, hlen]) hl.1 rfl (lv_room (by rw [ts_cat]; exact hcat)) hd hR2) ⟨hx, hb, hr, hml, hown, hts, hlk, hK, hN, hin, hbu, hB, hXS⟩ hS hl k'
  exact fun U hU hW => ⟨rfl, by rw [hU]; exact hz, by rw [hU]; exact hP, va_K.moved hW.alike hK, ⟨hN.1.warm hW, hN.2.warm hW⟩, hB, by rw [hU]; exact hXS.tr hW hS.1 (fun a h1 h2 => hS.2.1 a h1 h2) (fun h => h)⟩
theorem c_sp {M : Mth} {jf : Nat → Prop} {cs ss pc npc j idx n k maxL : Nat} {Wf : (Nat → Nat) → (Nat → ClassId) → va_W → Prop} {l : List (Nat × Value)} {st0 st : List Value} {S : Shp} {s : Sto} {G : Sto → Prop} {C : String} {y : MethodName} {cy : ByteArray} {R2 : Room} {as : List Value} {q : vw_C}
    (hd : decode M.1 pc = .ok (.invokevirtual idx, 3)) (hn : pc + 3 = npc) (hst : st0 = as.reverse ++ .ref k :: st) (hnc : nc S ≤ 1000) (hk : k < nc S ∧ kd S k = 0) (hcl : vwCl[ci S k]? = some q) (hq : q.1 = C) (hw : okV M idx C y cy maxL none n) (hlen : as.length = n) (hcat : (st.map (fun v => v.category)).sum ≤ 8) (hR0 : R2.cells = 0 ∧ R2.slots = 0) (hR : R2.frames + 1 ≤ M.2.2.2.2.frames ∧ 8 + (maxL + 11) + R2.locals ≤ M.2.2.2.2.locals) (hcs : cs ≤ M.2.2.2.2.cells ∧ ss ≤ M.2.2.2.2.slots)
    (hS9 : Sp S y (Cond.code y cy maxL none) R2 (.ref k :: as) s (fun r s' => r = none ∧ G s')) (k' : ∀ s', G s' → ∀ j', Gc M jf Wf cs ss npc l st j' (fun ad cA => wd S ad cA s')) : Gc M jf Wf cs ss pc l st0 j (fun ad cA => wd S ad cA s) := by
  subst hn hst hq
  intro p lc e u m args below meth c D cA ad b H locs ls X hz hP hS hl
  obtain ⟨hx, hb, hr, hml, hown, hts, hlk, hK, hN, hin, hbu, hB, hXS⟩ := X
  obtain ⟨⟨w1, w2, w3, w4, w5⟩, w6, w7, w8, w9⟩ := hw
  have hG : GoodIn TW (wsV M.2.1 idx q.1 y (Cond.code y cy maxL none :: TW)) := fun w hw => by
    have : w ∈ TW := by
      rcases List.mem_append.mp hw with h | h
      · simp only [List.mem_cons, List.not_mem_nil, or_false] at h
        rcases h with rfl | rfl | rfl | rfl <;> assumption
      · rcases List.mem_cons.mp h with rfl | h
        · exact w5
        · exact h
    exact ⟨this, good_of_word (List.mem_filter.mp this).2⟩
  have hAW : ∀ x, AW S ad x → b ≤ x := fun x hx => by
    obtain ⟨i, hi, rfl⟩ := hx
    rw [hB i (by omega)]
    omega
  have hDJ : DJ S ad := fun i i' hi hi' e => by
    rw [hB i (by omega), hB i' (by omega)] at e
    omega
  have ha : (wd S ad cA s)[k]? = some (ad k, .inr (ci S k, (List.range (ln S k)).map (fV S ad s k))) := by
    rw [wd_at hk.1]
    simp [cE, hk.2]
  have hrev : ts ad (as.reverse ++ .ref k :: st) = (ts ad as).reverse ++ .ref (ad k) :: ts ad st := by simp [ts, tv]
  rw [hrev]
  have hr9 : va_Run p lc e M.2.2.2.2 u m args below meth c H locs cs ss 0 0 (F0 m pc ls ((ts ad as).reverse ++ .ref (ad k) :: ts ad st)) (ts ad st) (QQ S D cA ad H.size (fun r s' => r = none ∧ G s') (Value.ref (ad k) :: ts ad as).toArray) (fun x => AW S ad x ∨ H.size ≤ x) := by
    refine va_runV (As := ts ad as) (rest := ts ad st) ⟨hx, hb, hml, hown, hts⟩ (by have h9 := hS9 lc D cA ad H.size; rw [hR0.1, hR0.2] at h9; exact h9) (cwV n hts hG rfl hR0.1 hR0.2 ⟨w6, w7, w8, w9⟩ hR) ⟨fb_pc, va_recv hK hP hcl ha, ?_⟩ rfl (by simp [ts, hlen]) hl.1 rfl (lv_room (by rw [ts_cat]; exact hcat)) hd hcs
    exact fun U hU hW => ⟨rfl, by rw [hU]; exact hP, va_K.moved hW.alike hK, hDJ, hN.1.warm hW, by rw [hU]; exact hXS.tr hW hS.1 (fun a h1 h2 => hS.2.1 a h1 h2) (fun h => h.elim (hAW _) (fun h => Nat.le_trans (Nat.le_trans hbu hS.1) h)), by rw [hU]⟩
  intro T hT Y
  obtain ⟨v, st₀, t, T', L, h0, X', hL, e1, e2, ⟨⟨r, s', hv, ⟨hp0, hp⟩, hbb⟩, hz2, hk2⟩, stp⟩ := hr9 T hT Y
  subst hp0
  have hv' : v = none := Outcome.returned.inj hv
  subst hv'
  rw [h0] at hz2 hk2
  have hP' : va_P D vwCl (wd S ad cA s') T'.heap := by rw [e1]; exact hbb
  have hS' : va_S (fun q => b ≤ q) u.heap T'.heap (locs ++ L) := ⟨Nat.le_trans hS.1 (by rw [e1]; exact hz2), fun q h1 h2 => by rw [e1, hk2 q (Nat.lt_of_lt_of_le h1 hS.1) (fun z => h2 (z.elim (hAW _) (fun h => Nat.le_trans (Nat.le_trans hbu hS.1) h)))]; exact hS.2.1 q h1 h2, fun q hq => by
    rcases List.mem_append.mp hq with h | h
    · exact hS.2.2 q h
    · exact (hL q h).elim (hAW _) (fun h => Nat.le_trans (Nat.le_trans hbu hS.1) h)⟩
  have hsz : T'.heap.size = b + (T'.heap.size - b) := by have := hbu; have := hS'.1; omega
  obtain ⟨t2, a1, b1⟩ := k' s' hp (T'.heap.size - b) p lc e u m args below meth c D cA ad b T'.heap (locs ++ L) ls ⟨hx, hb, hr, hml, hown, hts, hlk, hK, hN, hin, hbu, hB, hXS⟩ hsz hP' hS' hl T' rfl X'
  exact ⟨t2, stp t2 a1, b1⟩
/-! a list of descriptions as the world of a store -/
def dOf (S : Shp) (s : Sto) (k : Nat) : Dc :=
  if kd S k = 0 then (0, ci S k, (List.range (ln S k)).map (fun i => match fr S k i with | some j => .ref j | none => iV (s k i)))
  else if kd S k = 5 ∨ kd S k = 6 then (kd S k, ln S k, [.ref (k + 1)])
  else (kd S k, ln S k, [])
theorem dOf_cell {S : Shp} {s : Sto} {k : Nat} {ad : Nat → Nat} {cA : Nat → ClassId} (h0 : kd S k ≠ 0 → ∀ i, s k i = 0) (h5 : kd S k = 5 ∨ kd S k = 6 → ∀ i, fr S k i = if i < ln S k then some (k + 1 + i) else none) : eC ad cA (dOf S s k) = cE S ad cA s k := by
  by_cases e0 : kd S k = 0
  · have e : dOf S s k = (0, ci S k, (List.range (ln S k)).map (fun i => match fr S k i with | some j => .ref j | none => iV (s k i))) := if_pos e0
    rw [e]
    have e2 : ((List.range (ln S k)).map (fun i => match fr S k i with | some j => Value.ref j | none => iV (s k i))).map (tv ad) = (List.range (ln S k)).map (fV S ad s k) := by
      rw [List.map_map]
      apply List.map_congr_left
      intro i _
      show tv ad (match fr S k i with | some j => Value.ref j | none => iV (s k i)) = fV S ad s k i
      unfold fV
      cases fr S k i <;> rfl
    show Sum.inr (ci S k, ((List.range (ln S k)).map (fun i => match fr S k i with | some j => Value.ref j | none => iV (s k i))).map (tv ad)) = _
    rw [e2]
    simp [cE, e0]
  · have hz := h0 e0
    by_cases e5 : kd S k = 5 ∨ kd S k = 6
    · have hf := h5 e5
      have e : dOf S s k = (kd S k, ln S k, [.ref (k + 1)]) := (if_neg e0).trans (if_pos e5)
      rw [e]
      have e2 : eR ad (ln S k) [.ref (k + 1)] = fun i => (fr S k i).map ad := by
        funext i
        show (if i < ln S k then some (ad (k + 1 + i)) else none) = _
        rw [hf i]
        split <;> rfl
      rcases e5 with h | h <;> simp [eC, cE, h, e2]
    · have e : dOf S s k = (kd S k, ln S k, []) := (if_neg e0).trans (if_neg e5)
      rw [e]
      have n5 : kd S k ≠ 5 := fun q => e5 (Or.inl q)
      have n6 : kd S k ≠ 6 := fun q => e5 (Or.inr q)
      by_cases e2 : kd S k = 2
      · simp [eC, cE, e2, hz]
      · simp [eC, cE, e0, e2, n5, n6, hz]
theorem dOf_wd {S : Shp} {s : Sto} {ad : Nat → Nat} {cA : Nat → ClassId} (h0 : ∀ k, k < nc S → kd S k ≠ 0 → ∀ i, s k i = 0) (h5 : ∀ k, k < nc S → kd S k = 5 ∨ kd S k = 6 → ∀ i, fr S k i = if i < ln S k then some (k + 1 + i) else none) : wc ((List.range (nc S)).map (dOf S s)) ad cA = wd S ad cA s := by
  apply List.ext_getElem?
  intro k
  rw [wc_at]
  by_cases hk : k < nc S
  · rw [wd_at hk, List.getElem?_map, List.getElem?_range hk]
    show some (ad k, eC ad cA (dOf S s k)) = _
    rw [dOf_cell (h0 k hk) (h5 k hk)]
  · simp [wd, hk]
