/-! calls that are refused; same class -/
theorem q_stabilize_no {n : Nat} {b a s : Sto} (hC : ¬ Conn b) (hb : OK b) (E : Eqv b s) (hi : Ah a s) : K_Cg_stabilize n s (fun r s' => Eqv b s' ∧ Ah a s' ∧ r = -10003) := by
  refine e_Cg_stabilize ⟨_, k_conn hb E hi, ?_⟩
  rintro _ s1 ⟨E1, hi1, rfl⟩
  rw [ind_f hC]
  exact ⟨by decide, fun z => absurd rfl z, fun _ => ⟨E1, hi1, rfl⟩⟩
theorem q_reduce_no {n : Nat} {b a s : Sto} (hC : ¬ Conn b) (hb : OK b) (E : Eqv b s) (hi : Ah a s) : K_Cg_reduce n s (fun r s' => Eqv b s' ∧ Ah a s' ∧ r = -10003) := by
  refine e_Cg_reduce ⟨_, k_conn hb E hi, ?_⟩
  rintro _ s1 ⟨E1, hi1, rfl⟩
  rw [ind_f hC]
  exact ⟨by decide, fun z => absurd rfl z, fun _ => ⟨E1, hi1, rfl⟩⟩
theorem q_makeRecurrent_no {n : Nat} {b a s : Sto} (hC : ¬ Conn b) (hb : OK b) (E : Eqv b s) (hi : Ah a s) : K_Cg_makeRecurrent n s (fun r s' => Eqv b s' ∧ Ah a s' ∧ r = -10003) := by
  refine e_Cg_makeRecurrent ⟨_, k_conn hb E hi, ?_⟩
  rintro _ s1 ⟨E1, hi1, rfl⟩
  rw [ind_f hC]
  exact ⟨by decide, fun z => absurd rfl z, fun _ => ⟨E1, hi1, rfl⟩⟩
theorem k_span {n : Nat} {b a s : Sto} {x : Int} (hR : R32 x) (hb : OK b) (E : Eqv b s) (hi : Ah a s) : K_Gr_isSpanningTree n x s (fun r s' => Eqv b s' ∧ Ah a s' ∧ (r = 1 ∧ (0 ≤ x ∧ SpT b x.toNat) ∨ r = 0 ∧ ¬ (0 ≤ x ∧ SpT b x.toNat))) := by
  have hs := E.ok hb
  have h := k_Gr_isSpanningTree (n := n) hs.1 hs.2.1 hR
  refine Sp.mono ?_ h
  rintro r s' ⟨y, rfl, f, g⟩
  have g3 : ∀ k i, 1 ≤ k → k ≤ 3 → s k i = b k i := fun k i h1 h2 => E.g k i h1 (by omega)
  rw [SpT.of g3] at g
  exact ⟨y, rfl, E.sc (fun k i hk => f k i (by omega)), hi.sc (fun k i hk => f k i (by omega)), g⟩
theorem q_takeTree_no {n : Nat} {b a s : Sto} {x : Int} (hR : R32 x) (hx : ¬ (0 ≤ x ∧ SpT b x.toNat)) (hb : OK b) (E : Eqv b s) (hi : Ah a s) : K_Cg_takeTree n x s (fun r s' => Eqv b s' ∧ Ah a s' ∧ r = -10002) := by
  refine e_Cg_takeTree ⟨_, k_span hR hb E hi, ?_⟩
  rintro r s1 ⟨E1, hi1, g⟩
  have g1 := g.resolve_left (fun z => hx z.2)
  exact ⟨by omega, fun z => absurd g1.1 z, fun _ => ⟨E1, hi1, rfl⟩⟩
theorem q_reset_no {n : Nat} {b a s : Sto} {x : Int} (hR : R32 x) (hx : x < 2 ∨ 8 < x) (hb : OK b) (E : Eqv b s) (hi : Ah a s) : K_Cg_reset n x s (fun r s' => Eqv b s' ∧ Ah a s' ∧ r = -10002) := by
  unfold R32 at hR
  exact e_Cg_reset ⟨by omega, fun _ => ⟨E, hi, rfl⟩, fun _ => ⟨by omega, fun z => absurd z (by omega), fun _ => ⟨E, hi, rfl⟩⟩⟩
theorem q_addEdge_no {n : Nat} {b a s : Sto} {x y : Int} (hR : R32 x) (hR2 : R32 y) (hx : ¬ (0 ≤ x ∧ x < b 1 0) ∨ ¬ (0 ≤ y ∧ y < b 1 0)) (hb : OK b) (E : Eqv b s) (hi : Ah a s) : K_Cg_addEdge n x y s (fun r s' => Eqv b s' ∧ Ah a s' ∧ r = -10001) := by
  refine e_Cg_addEdge ⟨_, k_node hR hb E hi, ?_⟩
  rintro r s1 ⟨E1, hi1, rfl, f⟩
  refine ⟨by omega, fun _ => ⟨E1, hi1, rfl⟩, fun z => ⟨_, k_node hR2 hb E1 hi1, ?_⟩⟩
  rintro r2 s2 ⟨E2, hi2, rfl, f2⟩
  exact ⟨by omega, fun z => absurd z (by omega), fun _ => ⟨E2, hi2, rfl⟩⟩
theorem q_addEdge_bad {n : Nat} {b a s : Sto} {x : Int} (hx : 0 ≤ x ∧ x < b 1 0) (hb : OK b) (E : Eqv b s) (hi : Ah a s) : K_Cg_addEdge n x x s (fun r s' => Eqv b s' ∧ Ah a s' ∧ r = -10002) := by
  have hR := R_nd hb hx
  have hR2 := hR
  unfold R32 at hR2
  refine e_Cg_addEdge ⟨_, k_node hR hb E hi, ?_⟩
  rintro r s1 ⟨E1, hi1, rfl, f⟩
  refine ⟨by omega, fun z => absurd z (by omega), fun z => ⟨_, k_node hR hb E1 hi1, ?_⟩⟩
  rintro r2 s2 ⟨E2, hi2, rfl, f2⟩
  exact ⟨by omega, fun z => ⟨⟨hR2, hR2⟩, fun z => absurd rfl z, fun _ => ⟨E2, hi2, rfl⟩⟩, fun z => absurd z (by omega)⟩
theorem q_removeEdge_no {n : Nat} {b a s : Sto} {x : Int} (hR : R32 x) (hx : ¬ (0 ≤ x ∧ x < b 1 1)) (hb : OK b) (E : Eqv b s) (hi : Ah a s) : K_Cg_removeEdge n x s (fun r s' => Eqv b s' ∧ Ah a s' ∧ r = -10001) := by
  refine e_Cg_removeEdge ⟨_, k_edge hR hb E hi, ?_⟩
  rintro r s1 ⟨E1, hi1, rfl, f⟩
  exact ⟨by omega, fun z => absurd z (by omega), fun _ => ⟨E1, hi1, rfl⟩⟩
theorem q_setSink_no {n : Nat} {b a s : Sto} {x : Int} (hR : R32 x) (hx : ¬ (0 ≤ x ∧ x < b 1 0)) (hb : OK b) (E : Eqv b s) (hi : Ah a s) : K_Cg_setSink n x s (fun r s' => Eqv b s' ∧ Ah a s' ∧ r = -10001) := by
  refine e_Cg_setSink ⟨_, k_node hR hb E hi, ?_⟩
  rintro r s1 ⟨E1, hi1, rfl, f⟩
  exact ⟨by omega, fun z => absurd z (by omega), fun _ => ⟨E1, hi1, rfl⟩⟩
theorem q_setChips_no {n : Nat} {b a s : Sto} {x y : Int} (hR : R32 x) (hx : ¬ ((0 ≤ x ∧ x < b 1 0) ∧ x ≠ b 1 2)) (hb : OK b) (E : Eqv b s) (hi : Ah a s) : K_Cg_setChips n x y s (fun r s' => Eqv b s' ∧ Ah a s' ∧ r = -10001) := by
  refine e_Cg_setChips ⟨_, k_chipsAt hR hb E hi, ?_⟩
  rintro r s1 ⟨E1, hi1, rfl, f⟩
  exact ⟨by omega, fun z => absurd z (by omega), fun _ => ⟨E1, hi1, rfl⟩⟩
theorem q_setChips_bad {n : Nat} {b a s : Sto} {x y : Int} (hR2 : R32 y) (hx : (0 ≤ x ∧ x < b 1 0) ∧ x ≠ b 1 2) (hy : 1000 < y) (hb : OK b) (E : Eqv b s) (hi : Ah a s) : K_Cg_setChips n x y s (fun r s' => Eqv b s' ∧ Ah a s' ∧ r = -10002) := by
  unfold R32 at hR2
  refine e_Cg_setChips ⟨_, k_chipsAt (R_nd hb hx.1) hb E hi, ?_⟩
  rintro r s1 ⟨E1, hi1, rfl, f⟩
  exact ⟨by omega, fun _ => ⟨by omega, fun z => absurd z (by omega), fun _ => ⟨by omega, fun z => absurd z (by omega), fun _ => ⟨E1, hi1, rfl⟩⟩⟩, fun z => absurd z (by omega)⟩
theorem q_fire_no {n : Nat} {b a s : Sto} {x : Int} (hR : R32 x) (hx : ¬ ((0 ≤ x ∧ x < b 1 0) ∧ x ≠ b 1 2)) (hb : OK b) (E : Eqv b s) (hi : Ah a s) : K_Cg_fire n x s (fun r s' => Eqv b s' ∧ Ah a s' ∧ r = -10001) := by
  refine e_Cg_fire ⟨_, k_chipsAt hR hb E hi, ?_⟩
  rintro r s1 ⟨E1, hi1, rfl, f⟩
  exact ⟨by omega, fun z => absurd z (by omega), fun _ => ⟨E1, hi1, rfl⟩⟩
theorem k_canFire {n : Nat} {b a s : Sto} {x : Int} (hx : 0 ≤ x ∧ x < b 1 0) (hb : OK b) (E : Eqv b s) (hi : Ah a s) : K_Fi_canFire n 187 x s (fun r s' => s' = s ∧ (r = 1 ∧ (x ≠ b 1 2 ∧ 0 < dgr (Jm b) (nN b) x.toNat ∧ dgr (Jm b) (nN b) x.toNat ≤ b 187 x.toNat) ∨ r = 0 ∧ ¬ (x ≠ b 1 2 ∧ 0 < dgr (Jm b) (nN b) x.toNat ∧ dgr (Jm b) (nN b) x.toNat ≤ b 187 x.toNat))) := by
  have hs := E.ok hb
  have h8 := hb.1.1
  obtain ⟨v, rfl⟩ : ∃ v : Nat, x = v := ⟨x.toNat, by omega⟩
  have h := k_Fi_canFire (n := n) (arSL arSC_187) (v := v) hs.1 (by omega) (R_ch hs v (by omega))
  refine Sp.mono ?_ h
  rintro r s' ⟨y, rfl, rfl, g⟩
  rw [E.g 1 0 (by decide) (by decide), E.g 1 2 (by decide) (by decide), E.g 13 v (by decide) (by decide), E.c v, hb.1.Dg (by omega)] at g
  refine ⟨y, rfl, rfl, ?_⟩
  rw [toNat_n]
  rcases g with ⟨g1, g2⟩ | ⟨g1, g2⟩
  · exact Or.inl ⟨g1, g2.2⟩
  · exact Or.inr ⟨g1, fun z => g2 ⟨hx.2, z⟩⟩
theorem q_fire_not {n : Nat} {b a s : Sto} {x : Int} (hx : (0 ≤ x ∧ x < b 1 0) ∧ x ≠ b 1 2) (hd : b 187 x.toNat < dgr (Jm b) (nN b) x.toNat) (hb : OK b) (E : Eqv b s) (hi : Ah a s) : K_Cg_fire n x s (fun r s' => Eqv b s' ∧ Ah a s' ∧ r = -10004) := by
  refine e_Cg_fire ⟨_, k_chipsAt (R_nd hb hx.1) hb E hi, ?_⟩
  rintro r s1 ⟨E1, hi1, rfl, f⟩
  refine ⟨by omega, fun _ => ⟨_, k_canFire hx.1 hb E1 hi1, ?_⟩, fun z => absurd z (by omega)⟩
  rintro r2 s2 ⟨rfl, g⟩
  exact ⟨by omega, fun z => absurd z (by omega), fun _ => ⟨E1, hi1, rfl⟩⟩
theorem k_slot {n : Nat} {b a s : Sto} {x : Int} (hR : R32 x) (hb : OK b) (E : Eqv b s) (hi : Ah a s) : K_Sl_has n x s (fun r s' => Eqv b s' ∧ Ah a s' ∧ s' = s ∧ (r = 1 ∧ 0 ≤ x ∧ x < 3 ∨ r = 0 ∧ ¬ (0 ≤ x ∧ x < 3))) := by
  have h := k_Sl_has (n := n) (s := s) hR
  refine Sp.mono ?_ h
  rintro r s' ⟨y, rfl, rfl, f⟩
  exact ⟨y, rfl, E, hi, rfl, f⟩
theorem k_empty {n : Nat} {b a s : Sto} {x : Int} (hx : 0 ≤ x ∧ x < 3) (hb : OK b) (E : Eqv b s) (hi : Ah a s) : K_Sl_isEmpty n x s (fun r s' => Eqv b s' ∧ Ah a s' ∧ s' = s ∧ (r = 1 ∧ b 32 x.toNat = 0 ∨ r = 0 ∧ b 32 x.toNat = 1)) := by
  have h := k_Sl_isEmpty (n := n) (s := s) (E.ok hb).2.2.2.1 hx
  refine Sp.mono ?_ h
  rintro r s' ⟨y, rfl, rfl, f⟩
  rw [E 32 _ (by omega)] at f
  exact ⟨y, rfl, E, hi, rfl, f⟩
theorem q_keep_no {n : Nat} {b a s : Sto} {x : Int} (hR : R32 x) (hx : ¬ (0 ≤ x ∧ x < 3)) (hb : OK b) (E : Eqv b s) (hi : Ah a s) : K_Cg_keep n x s (fun r s' => Eqv b s' ∧ Ah a s' ∧ r = -10001) := by
  refine e_Cg_keep ⟨_, k_slot hR hb E hi, ?_⟩
  rintro r s1 ⟨E1, hi1, rfl, f⟩
  exact ⟨by omega, fun z => absurd z (by omega), fun _ => ⟨E1, hi1, rfl⟩⟩
theorem q_load_no {n : Nat} {b a s : Sto} {x : Int} (hR : R32 x) (hx : ¬ (0 ≤ x ∧ x < 3)) (hb : OK b) (E : Eqv b s) (hi : Ah a s) : K_Cg_load n x s (fun r s' => Eqv b s' ∧ Ah a s' ∧ r = -10001) := by
  refine e_Cg_load ⟨_, k_slot hR hb E hi, ?_⟩
  rintro r s1 ⟨E1, hi1, rfl, f⟩
  exact ⟨by omega, fun z => absurd z (by omega), fun _ => ⟨E1, hi1, rfl⟩⟩
theorem q_add_no {n : Nat} {b a s : Sto} {x : Int} (hR : R32 x) (hx : ¬ (0 ≤ x ∧ x < 3)) (hb : OK b) (E : Eqv b s) (hi : Ah a s) : K_Cg_add n x s (fun r s' => Eqv b s' ∧ Ah a s' ∧ r = -10001) := by
  refine e_Cg_add ⟨_, k_slot hR hb E hi, ?_⟩
  rintro r s1 ⟨E1, hi1, rfl, f⟩
  exact ⟨by omega, fun z => absurd z (by omega), fun _ => ⟨E1, hi1, rfl⟩⟩
theorem q_same_no {n : Nat} {b a s : Sto} {x : Int} (hR : R32 x) (hx : ¬ (0 ≤ x ∧ x < 3)) (hb : OK b) (E : Eqv b s) (hi : Ah a s) : K_Cg_isSameClass n x s (fun r s' => Eqv b s' ∧ Ah a s' ∧ r = -10001) := by
  refine e_Cg_isSameClass ⟨_, k_slot hR hb E hi, ?_⟩
  rintro r s1 ⟨E1, hi1, rfl, f⟩
  exact ⟨by omega, fun z => absurd z (by omega), fun _ => ⟨E1, hi1, rfl⟩⟩
theorem q_load_emp {n : Nat} {b a s : Sto} {x : Int} (hx : 0 ≤ x ∧ x < 3) (h0 : b 32 x.toNat = 0) (hb : OK b) (E : Eqv b s) (hi : Ah a s) : K_Cg_load n x s (fun r s' => Eqv b s' ∧ Ah a s' ∧ r = -10004) := by
  refine e_Cg_load ⟨_, k_slot (by unfold R32; omega) hb E hi, ?_⟩
  rintro r s1 ⟨E1, hi1, rfl, f⟩
  refine ⟨by omega, fun _ => ⟨_, k_empty hx hb E1 hi1, ?_⟩, fun z => absurd z (by omega)⟩
  rintro r2 s2 ⟨E2, hi2, rfl, g⟩
  exact ⟨by omega, fun z => absurd z (by omega), fun _ => ⟨E2, hi2, rfl⟩⟩
theorem q_add_emp {n : Nat} {b a s : Sto} {x : Int} (hx : 0 ≤ x ∧ x < 3) (h0 : b 32 x.toNat = 0) (hb : OK b) (E : Eqv b s) (hi : Ah a s) : K_Cg_add n x s (fun r s' => Eqv b s' ∧ Ah a s' ∧ r = -10004) := by
  refine e_Cg_add ⟨_, k_slot (by unfold R32; omega) hb E hi, ?_⟩
  rintro r s1 ⟨E1, hi1, rfl, f⟩
  refine ⟨by omega, fun _ => ⟨_, k_empty hx hb E1 hi1, ?_⟩, fun z => absurd z (by omega)⟩
  rintro r2 s2 ⟨E2, hi2, rfl, g⟩
  exact ⟨by omega, fun z => absurd z (by omega), fun _ => ⟨E2, hi2, rfl⟩⟩
theorem q_same_emp {n : Nat} {b a s : Sto} {x : Int} (hx : 0 ≤ x ∧ x < 3) (h0 : b 32 x.toNat = 0) (hb : OK b) (E : Eqv b s) (hi : Ah a s) : K_Cg_isSameClass n x s (fun r s' => Eqv b s' ∧ Ah a s' ∧ r = -10004) := by
  refine e_Cg_isSameClass ⟨_, k_slot (by unfold R32; omega) hb E hi, ?_⟩
  rintro r s1 ⟨E1, hi1, rfl, f⟩
  refine ⟨by omega, fun _ => ⟨_, k_empty hx hb E1 hi1, ?_⟩, fun z => absurd z (by omega)⟩
  rintro r2 s2 ⟨E2, hi2, rfl, g⟩
  exact ⟨by omega, fun z => absurd z (by omega), fun _ => ⟨E2, hi2, rfl⟩⟩
theorem q_undo_no {n : Nat} {b a s : Sto} (h0 : b 17 0 = 0) (hb : OK b) (E : Eqv b s) (hi : Ah a s) : K_Cg_undo n s (fun r s' => Eqv b s' ∧ Ah a s' ∧ r = -10007) := by
  have e := E 17 0 (by omega)
  exact e_Cg_undo ⟨by omega, fun z => absurd (e.trans h0) z, fun _ => ⟨E, hi, rfl⟩⟩
/-- a state that is kept is of the same class -/
theorem q_same {n : Nat} {b a s : Sto} {x : Int} (hx : 0 ≤ x ∧ x < 3) (h1 : b 32 x.toNat = 1) (hc : ChB b (b (34 + x.toNat))) (hC : Conn b) (hq : Cls (Jm b) (nK b) (nN b) (b (34 + x.toNat)) (b 187)) (hb : OK b) (E : Eqv b s) (hi : Ah a s) : K_Cg_isSameClass n x s (fun r s' => Eqv b s' ∧ Ah a s' ∧ r = 1) := by
  have h8 := nN_8 hb
  refine e_Cg_isSameClass ⟨_, k_slot (by unfold R32; omega) hb E hi, ?_⟩
  rintro r s1 ⟨E1, hi1, rfl, f⟩
  refine ⟨by omega, fun _ => ⟨_, k_empty hx hb E1 hi1, ?_⟩, fun z => absurd z (by omega)⟩
  rintro r2 s2 ⟨E2, hi2, rfl, g⟩
  refine ⟨by omega, fun _ => ⟨_, k_conn hb E2 hi2, ?_⟩, fun z => absurd z (by omega)⟩
  rintro _ s3 ⟨E3, hi3, rfl⟩
  rw [ind_t hC]
  refine ⟨by decide, fun _ => ⟨_, k_Cg_copyChips (arSL arSC_187) (arSL arSC_188) (by decide), ?_⟩, fun z => absurd z (by decide)⟩
  rintro s4 rfl
  refine ⟨_, k_Sl_copyTo (arSL arSC_189) (by decide) hx, ?_⟩
  rintro s5 h5
  have v88 : ∀ v, v < 8 → s5 188 v = b 187 v := fun v hv => by rw [h5, wr_ne (by decide), wr_eq, cut_lt hv, E3.c]
  have v89 : ∀ v, v < 8 → s5 189 v = b (34 + x.toNat) v := fun v hv => by rw [h5, wr_eq, cut_lt hv, wr_ne (by omega), E3 _ _ (by omega)]
  have E5 : Eqv b s5 := E3.sc (fun k i hk => by rw [h5, wr_ne (by omega), wr_ne (by omega)])
  have hi5 : Ah a s5 := hi3.sc (fun k i hk => by rw [h5, wr_ne (by omega), wr_ne (by omega)])
  have hs5 := E5.ok hb
  have z88 : ChB s5 (s5 188) := ⟨fun v hv => by rw [v88 v hv]; exact hb.2.2.2.2.1 v hv, fun v hv hz => by rw [v88 v hv]; exact hb.2.2.2.2.2 v hv (by rw [E5.g 1 0 (by decide) (by decide), E5.g 1 2 (by decide) (by decide)] at hz; exact hz)⟩
  refine ⟨_, k_Fi_toRecurrent (arSL arSC_188) (by decide) hs5.1 (E5.conn.mpr hC) z88.ok, ?_⟩
  rintro s6 ⟨w1, w2, w3, w4, w5⟩
  have E6 : Eqv b s6 := E5.sc (fun k i hk => w1 k i (by omega) (by omega) (by omega) (by omega))
  have hi6 : Ah a s6 := hi5.sc (fun k i hk => w1 k i (by omega) (by omega) (by omega) (by omega))
  have hs6 := E6.ok hb
  have u89 : ∀ v, v < 8 → s6 189 v = b (34 + x.toNat) v := fun v hv => by rw [w1 189 v (by decide) (by decide) (by decide) (by decide)]; exact v89 v hv
  have z89 : ChB s6 (s6 189) := ⟨fun v hv => by rw [u89 v hv]; exact hc.1 v hv, fun v hv hz => by rw [u89 v hv]; exact hc.2 v hv (by rw [E6.g 1 0 (by decide) (by decide), E6.g 1 2 (by decide) (by decide)] at hz; exact hz)⟩
  refine ⟨_, k_Fi_toRecurrent (arSL arSC_189) (by decide) hs6.1 (E6.conn.mpr hC) z89.ok, ?_⟩
  rintro s7 ⟨x1, x2, x3, x4, x5⟩
  have E7 : Eqv b s7 := E6.sc (fun k i hk => x1 k i (by omega) (by omega) (by omega) (by omega))
  have hi7 : Ah a s7 := hi6.sc (fun k i hk => x1 k i (by omega) (by omega) (by omega) (by omega))
  have e88 : ∀ v, s7 188 v = s6 188 v := fun v => x1 188 v (by decide) (by decide) (by decide) (by decide)
  refine ⟨_, k_Cg_isEqual (arSL arSC_188) (arSL arSC_189) (fun v hv => by rw [e88]; have := w5 v hv; unfold R32; omega) (fun v hv => by have := x5 v hv; unfold R32; omega), ?_⟩
  rintro r8 s8 ⟨rfl, g8⟩
  have n5 : (s5 1 0).toNat = nN b := E5.N
  have k5 : (s5 1 2).toNat = nK b := E5.K
  have n6 : (s6 1 0).toNat = nN b := E6.N
  have k6 : (s6 1 2).toNat = nK b := E6.K
  rw [n5, k5] at w2 w3
  rw [n6, k6] at x2 x3
  have r1 : Rec (Jm b) (nK b) (nN b) (s6 188) := RecJ (E5.J hb) (fun _ _ => rfl) w2
  have r2 : Rec (Jm b) (nK b) (nN b) (s8 189) := RecJ (E6.J hb) (fun _ _ => rfl) x2
  have q1 : Cls (Jm b) (nK b) (nN b) (b 187) (s6 188) := ClsJ (E5.J hb) (fun v hv _ => v88 v (by omega)) (fun _ _ _ => rfl) w3
  have q2 : Cls (Jm b) (nK b) (nN b) (b (34 + x.toNat)) (s8 189) := ClsJ (E6.J hb) (fun v hv _ => u89 v (by omega)) (fun _ _ _ => rfl) x3
  have eq : ∀ v, v < 8 → s8 188 v = s8 189 v := fun v hv => by
    rw [e88]
    by_cases c : v < nN b ∧ v ≠ nK b
    · exact r1.uniq hb.1.Jnn r2 (q1.symm.trans (hq.symm.trans q2)) c.1 c.2
    · rw [w4 v hv (by rw [E5.g 1 0 (by decide) (by decide), E5.g 1 2 (by decide) (by decide)]; have := hb.1.2.2.1; have := hb.1.1; show (v : Int) = b 1 2 ∨ b 1 0 ≤ v; have c2 : ¬ (v < (b 1 0).toNat ∧ v ≠ (b 1 2).toNat) := c; omega), x4 v hv (by rw [E6.g 1 0 (by decide) (by decide), E6.g 1 2 (by decide) (by decide)]; have := hb.1.2.2.1; have := hb.1.1; show (v : Int) = b 1 2 ∨ b 1 0 ≤ v; have c2 : ¬ (v < (b 1 0).toNat ∧ v ≠ (b 1 2).toNat) := c; omega)]
  refine ⟨by omega, fun z => absurd eq (g8.resolve_left (by omega)).2, fun z => ⟨E7, hi7, rfl⟩⟩
