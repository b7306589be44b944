/-! one call on fresh objects: the law's road for a script of three -/
theorem nat_suc (j : Nat) : ((j : Int) + 1) = ((j + 1 : Nat) : Int) := by omega
theorem fs_fresh : ∀ n j : Nat, j + n = 5 → H_Tx_findShape_2 (fun r s' => r = -1 ∧ s' = tof tC) (j : Int) (tof tC) := by
  have hz : tof tC 15 0 = 0 := by decide +kernel
  intro n
  induction n with
  | zero =>
    intro j hj
    exact b_Tx_findShape_2 (by omega) (fun _ => ⟨rfl, rfl⟩) (fun h => absurd h (by omega))
  | succ n ih =>
    intro j hj
    refine b_Tx_findShape_2 (by omega) (fun h => absurd h (by omega)) (fun _ => ⟨fun r s' => r = 0 ∧ s' = tof tC, ?_, fun r s2 q => ?_⟩)
    · refine e_Tx_isNameAndSign (i := (j : Int).toNat) (by omega) (by rw [hz]; decide) (fun _ => ⟨rfl, rfl⟩) (fun e => ?_)
      rw [hz] at e
      omega
    · obtain ⟨rfl, rfl⟩ := q
      refine ⟨by decide, fun _ => ?_, fun c => absurd rfl c⟩
      rw [nat_suc]
      exact ih (j + 1) (by omega)
theorem rg_fresh : K_Cg_readGraph (tof tC) (fun r _ => r = -10006) := by
  refine e_Cg_readGraph ⟨fun r s' => r = -1 ∧ s' = tof tC, e_Tx_findShape (fs_fresh 5 0 rfl), fun r s q => ?_⟩
  obtain ⟨rfl, rfl⟩ := q
  refine ⟨fun r s' => r = -1 ∧ s' = tof tC, xs_Tx_lastDigit (fu := 100) (show x_Tx_lastDigit 100 tC = some (-1, tC) by decide +kernel) ⟨rfl, rfl⟩, fun r s q => ?_⟩
  obtain ⟨rfl, rfl⟩ := q
  refine ⟨fun r s' => r = 0 ∧ s' = tof tC, k_Sh_allows (by decide) (by decide) (fun c => absurd c.1 (by decide)) (fun _ => ⟨rfl, rfl⟩), fun r s q => ?_⟩
  obtain ⟨rfl, rfl⟩ := q
  exact ⟨by decide, fun c => absurd rfl c, fun _ => rfl⟩
theorem iC_tab : iC_s0 = tof tC0 := by
  have h : ∀ k, k < 190 → tC0.getD k [] = if k = 1 then 2 :: List.replicate 7 0 else List.replicate (ln SC k) 0 := by decide +kernel
  have hl : tC0.length = 190 := by decide +kernel
  funext k i
  unfold iC_s0 tof
  by_cases c : k < 190
  · rw [h k c]
    by_cases c1 : k = 1
    · rw [if_pos c1]
      cases i with
      | zero => rw [if_pos ⟨c1, rfl⟩]; rfl
      | succ i =>
        rw [if_neg (fun q => absurd q.2 (by omega)), List.getD_cons_succ, List.getD_eq_getElem?_getD, List.getElem?_replicate]
        split <;> rfl
    · rw [if_neg (fun q => c1 q.1), if_neg c1, List.getD_eq_getElem?_getD, List.getElem?_replicate]
      split <;> rfl
  · rw [if_neg (fun q => by omega), show tC0.getD k [] = [] by rw [List.getD_eq_getElem?_getD, List.getElem?_eq_none (by omega)]; rfl]
    rfl
theorem iM_tab : iM_s0 = tof (tbl0 SM) := by
  have h : ∀ k, k < 19 → (tbl0 SM).getD k [] = List.replicate (ln SM k) 0 := by decide +kernel
  have hl : (tbl0 SM).length = 19 := by decide +kernel
  funext k i
  unfold iM_s0 tof
  by_cases c : k < 19
  · rw [h k c, List.getD_eq_getElem?_getD, List.getElem?_replicate]
    split <;> rfl
  · rw [show (tbl0 SM).getD k [] = [] by rw [List.getD_eq_getElem?_getD, List.getElem?_eq_none (by omega)]; rfl]
    rfl
set_option maxRecDepth 20000 in
theorem p1_open {p : Program} {e : Env} {s : State} {m : MethodId} {below : List Frame} {meth : Method} {c : Code} (l : Launch) {b L : Nat} {xs : Nat → Int32} (hL : L ≤ 5) (C0 : lw_At p s m meth c b L xs) :
    W p l e room_1 s m #[Value.ref b] below meth c s.heap [] 0 0 (lw_Z below #[Value.ref b] s) (entryFrame m ([Value.ref b] : List Value).toArray 4) := by
  refine start_open l 1 Fr (by decide) (by omega) (by omega) C0 (Q1 := fun s => s = tof (tb (x_Gr_clear 100 2 tC0))) (Q2 := fun s => s = tof tC) (R1 := fun s => s = tof (tb (x_Mo_begin 100 2 (tbl0 SM)))) (R2 := fun s => s = tof tM) ?_ (fun s1 e1 => ?_) ?_ (fun s1 e1 => ?_) (fun x y hx hy _ => ⟨hx, hy⟩) (fun k x y hk _ z => absurd z (by omega))
    (fun k x y a1 hk hR h0 => by obtain ⟨rfl, rfl⟩ := hR (by omega); exact ob (t_reset a1 h0) (fun r t e => xs_Cg_reset e rfl) (fun r t e => xs_Mo_reset e rfl))
    (fun k x y a1 a2 hk hR h0 h1 => by obtain ⟨rfl, rfl⟩ := hR (by omega); exact ob (t_addEdge a1 a2 h0 h1) (fun r t e => xs_Cg_addEdge e rfl) (fun r t e => xs_Mo_addEdge e rfl))
    (fun k x y a1 hk hR h0 => by obtain ⟨rfl, rfl⟩ := hR (by omega); exact ob (t_removeEdge a1 h0) (fun r t e => xs_Cg_removeEdge e rfl) (fun r t e => xs_Mo_removeEdge e rfl))
    (fun k x y a1 hk hR h0 => by obtain ⟨rfl, rfl⟩ := hR (by omega); exact ob (t_setSink a1 h0) (fun r t e => xs_Cg_setSink e rfl) (fun r t e => xs_Mo_setSink e rfl))
    (fun k x y a1 hk hR h0 => by obtain ⟨rfl, rfl⟩ := hR (by omega); exact ob (t_type a1 h0) (fun r t e => xs_Cg_type e rfl) (fun r t e => xs_Mo_type e rfl))
    (fun k x y hk hR => by obtain ⟨rfl, rfl⟩ := hR (by omega); exact ob (t_clearText) (fun r t e => xs_Cg_clearText e rfl) (fun r t e => xs_Mo_clearText e rfl))
    (fun k x y hk hR => by obtain ⟨rfl, rfl⟩ := hR (by omega); obtain ⟨t, ht⟩ := (show ∃ t, x_Mo_readGraph 100 tM = some (-10006, t) from ⟨_, (show x_Mo_readGraph 100 tM = some (-10006, tb (x_Mo_readGraph 100 tM)) by decide +kernel)⟩); exact ⟨_, rg_fresh, fun r x' q => ⟨fun r' _ => r' = -10006, xs_Mo_readGraph ht rfl, fun r2 y' q2 => ⟨q.trans q2.symm, fun z => absurd z (by omega)⟩⟩⟩)
    (fun k x y a1 hk hR h0 => by obtain ⟨rfl, rfl⟩ := hR (by omega); exact ob (t_value a1 h0) (fun r t e => xs_Cg_value e rfl) (fun r t e => xs_Mo_value e rfl))
    (fun k x y a1 hk hR h0 => by obtain ⟨rfl, rfl⟩ := hR (by omega); exact ob (t_degree a1 h0) (fun r t e => xs_Cg_degree e rfl) (fun r t e => xs_Mo_degree e rfl))
    (fun k x y a1 a2 hk hR h0 h1 => by obtain ⟨rfl, rfl⟩ := hR (by omega); exact ob (t_edge a1 a2 h0 h1) (fun r t e => xs_Cg_edge e rfl) (fun r t e => xs_Mo_edge e rfl))
    (fun k x y a1 a2 hk hR h0 h1 => by obtain ⟨rfl, rfl⟩ := hR (by omega); exact ob (t_setChips a1 a2 h0 h1) (fun r t e => xs_Cg_setChips e rfl) (fun r t e => xs_Mo_setChips e rfl))
    (fun k x y a1 hk hR h0 => by obtain ⟨rfl, rfl⟩ := hR (by omega); exact ob (t_chips a1 h0) (fun r t e => xs_Cg_chips e rfl) (fun r t e => xs_Mo_chips e rfl))
    (fun k x y a1 hk hR h0 => by obtain ⟨rfl, rfl⟩ := hR (by omega); exact ob (t_fire a1 h0) (fun r t e => xs_Cg_fire e rfl) (fun r t e => xs_Mo_fire e rfl))
    (fun k x y hk hR => by obtain ⟨rfl, rfl⟩ := hR (by omega); exact ob (t_stabilize) (fun r t e => xs_Cg_stabilize e rfl) (fun r t e => xs_Mo_stabilize e rfl))
    (fun k x y a1 hk hR h0 => by obtain ⟨rfl, rfl⟩ := hR (by omega); exact ob (t_firings a1 h0) (fun r t e => xs_Cg_firings e rfl) (fun r t e => xs_Mo_firings e rfl))
    (fun k x y hk hR => by obtain ⟨rfl, rfl⟩ := hR (by omega); exact ob (t_reduce) (fun r t e => xs_Cg_reduce e rfl) (fun r t e => xs_Mo_reduce e rfl))
    (fun k x y hk hR => by obtain ⟨rfl, rfl⟩ := hR (by omega); exact ob (t_makeRecurrent) (fun r t e => xs_Cg_makeRecurrent e rfl) (fun r t e => xs_Mo_makeRecurrent e rfl))
    (fun k x y hk hR => by obtain ⟨rfl, rfl⟩ := hR (by omega); exact ob (t_kind) (fun r t e => xs_Cg_kind e rfl) (fun r t e => xs_Mo_kind e rfl))
    (fun k x y a1 hk hR h0 => by obtain ⟨rfl, rfl⟩ := hR (by omega); exact ob (t_burnt a1 h0) (fun r t e => xs_Cg_burnt e rfl) (fun r t e => xs_Mo_burnt e rfl))
    (fun k x y hk hR => by obtain ⟨rfl, rfl⟩ := hR (by omega); exact ob (t_undo) (fun r t e => xs_Cg_undo e rfl) (fun r t e => xs_Mo_undo e rfl))
    (fun k x y a1 hk hR h0 => by obtain ⟨rfl, rfl⟩ := hR (by omega); exact ob (t_keep a1 h0) (fun r t e => xs_Cg_keep e rfl) (fun r t e => xs_Mo_keep e rfl))
    (fun k x y a1 hk hR h0 => by obtain ⟨rfl, rfl⟩ := hR (by omega); exact ob (t_load a1 h0) (fun r t e => xs_Cg_load e rfl) (fun r t e => xs_Mo_load e rfl))
    (fun k x y a1 hk hR h0 => by obtain ⟨rfl, rfl⟩ := hR (by omega); exact ob (t_add a1 h0) (fun r t e => xs_Cg_add e rfl) (fun r t e => xs_Mo_add e rfl))
    (fun k x y a1 hk hR h0 => by obtain ⟨rfl, rfl⟩ := hR (by omega); exact ob (t_isSameClass a1 h0) (fun r t e => xs_Cg_isSameClass e rfl) (fun r t e => xs_Mo_isSameClass e rfl))
    (fun k x y hk hR => by obtain ⟨rfl, rfl⟩ := hR (by omega); exact ob (t_treeCount) (fun r t e => xs_Cg_treeCount e rfl) (fun r t e => xs_Mo_treeCount e rfl))
    (fun k x y a1 hk hR h0 => by obtain ⟨rfl, rfl⟩ := hR (by omega); exact ob (t_identity a1 h0) (fun r t e => xs_Cg_identity e rfl) (fun r t e => xs_Mo_identity e rfl))
    (fun k x y hk hR => by obtain ⟨rfl, rfl⟩ := hR (by omega); exact ob (t_order) (fun r t e => xs_Cg_order e rfl) (fun r t e => xs_Mo_order e rfl))
    (fun k x y a1 hk hR h0 => by obtain ⟨rfl, rfl⟩ := hR (by omega); exact ob (t_factor a1 h0) (fun r t e => xs_Cg_factor e rfl) (fun r t e => xs_Mo_factor e rfl))
    (fun k x y hk hR => by obtain ⟨rfl, rfl⟩ := hR (by omega); exact ob (t_level) (fun r t e => xs_Cg_level e rfl) (fun r t e => xs_Mo_level e rfl))
    (fun k x y a1 hk hR h0 => by obtain ⟨rfl, rfl⟩ := hR (by omega); exact ob (t_levelCount a1 h0) (fun r t e => xs_Cg_levelCount e rfl) (fun r t e => xs_Mo_levelCount e rfl))
    (fun k x y hk hR => by obtain ⟨rfl, rfl⟩ := hR (by omega); exact ob (t_tree) (fun r t e => xs_Cg_tree e rfl) (fun r t e => xs_Mo_tree e rfl))
    (fun k x y a1 hk hR h0 => by obtain ⟨rfl, rfl⟩ := hR (by omega); exact ob (t_takeTree a1 h0) (fun r t e => xs_Cg_takeTree e rfl) (fun r t e => xs_Mo_takeTree e rfl))
    (fun k x y a1 hk hR h0 => by obtain ⟨rfl, rfl⟩ := hR (by omega); exact ob (t_treeAt a1 h0) (fun r t e => xs_Cg_treeAt e rfl) (fun r t e => xs_Mo_treeAt e rfl))
  · rw [iC_tab]
    exact xs_Gr_clear (fu := 100) (r := 0) (show x_Gr_clear 100 2 tC0 = some (0, tb (x_Gr_clear 100 2 tC0)) by decide +kernel) rfl
  · subst e1
    exact xs_Gr_append (fu := 100) (r := 0) (show x_Gr_append 100 0 1 (tb (x_Gr_clear 100 2 tC0)) = some (0, tC) by decide +kernel) rfl
  · rw [iM_tab]
    exact xs_Mo_begin (fu := 100) (r := 0) (show x_Mo_begin 100 2 (tbl0 SM) = some (0, tb (x_Mo_begin 100 2 (tbl0 SM))) by decide +kernel) rfl
  · subst e1
    exact xs_Mo_join (fu := 100) (r := 0) (show x_Mo_join 100 0 1 (tb (x_Mo_begin 100 2 (tbl0 SM))) = some (0, tM) by decide +kernel) rfl
