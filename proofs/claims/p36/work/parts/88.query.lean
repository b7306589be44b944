/-! answers that leave all as it is: nodes, edges, chips, burning -/
theorem k_node {n : Nat} {b a s : Sto} {x : Int} (hx : R32 x) (hb : OK b) (E : Eqv b s) (hi : Ah a s) : K_Gr_hasNode n x s (fun r s' => Eqv b s' ∧ Ah a s' ∧ s' = s ∧ (r = 1 ∧ 0 ≤ x ∧ x < b 1 0 ∨ r = 0 ∧ ¬ (0 ≤ x ∧ x < b 1 0))) := by
  have h := k_Gr_hasNode (n := n) (E.ok hb).1.1 hx
  refine Sp.mono ?_ h
  rintro r s' ⟨x, rfl, rfl, f⟩
  rw [E.g 1 0 (by decide) (by decide)] at f
  exact ⟨x, rfl, E, hi, rfl, f⟩
theorem k_edge {n : Nat} {b a s : Sto} {x : Int} (hx : R32 x) (hb : OK b) (E : Eqv b s) (hi : Ah a s) : K_Gr_hasEdge n x s (fun r s' => Eqv b s' ∧ Ah a s' ∧ s' = s ∧ (r = 1 ∧ 0 ≤ x ∧ x < b 1 1 ∨ r = 0 ∧ ¬ (0 ≤ x ∧ x < b 1 1))) := by
  have h := k_Gr_hasEdge (n := n) (E.ok hb).1.2.1 hx
  refine Sp.mono ?_ h
  rintro r s' ⟨x, rfl, rfl, f⟩
  rw [E.g 1 1 (by decide) (by decide)] at f
  exact ⟨x, rfl, E, hi, rfl, f⟩
theorem k_chipsAt {n : Nat} {b a s : Sto} {x : Int} (hx : R32 x) (hb : OK b) (E : Eqv b s) (hi : Ah a s) : K_Gr_hasChipsAt n x s (fun r s' => Eqv b s' ∧ Ah a s' ∧ s' = s ∧ (r = 1 ∧ (0 ≤ x ∧ x < b 1 0) ∧ x ≠ b 1 2 ∨ r = 0 ∧ ¬ ((0 ≤ x ∧ x < b 1 0) ∧ x ≠ b 1 2))) := by
  have h := k_Gr_hasChipsAt (n := n) (E.ok hb).1 hx
  refine Sp.mono ?_ h
  rintro r s' ⟨x, rfl, rfl, f⟩
  rw [E.g 1 0 (by decide) (by decide), E.g 1 2 (by decide) (by decide)] at f
  exact ⟨x, rfl, E, hi, rfl, f⟩
theorem R_nd {b : Sto} (hb : OK b) {x : Int} (hx : 0 ≤ x ∧ x < b 1 0) : R32 x := by unfold R32; have := hb.1.1; omega
theorem q_degree {n : Nat} {b a s : Sto} {x : Int} (hx : 0 ≤ x ∧ x < b 1 0) (hb : OK b) (E : Eqv b s) (hi : Ah a s) : K_Cg_degree n x s (fun r s' => Eqv b s' ∧ Ah a s' ∧ r = dgr (Jm b) (nN b) x.toNat) := by
  have hR := R_nd hb hx
  have hs := E.ok hb
  refine e_Cg_degree ⟨_, k_node hR hb E hi, ?_⟩
  rintro r s' ⟨E', hi', rfl, f⟩
  refine ⟨by omega, fun z => absurd z (by omega), fun _ => ⟨_, k_Gr_degreeOf hs.1.1 hR, ?_⟩⟩
  rintro r' s'' ⟨rfl, g⟩
  have e := E.g 1 0 (by decide) (by decide)
  rw [(g.resolve_right (by omega)).1, E.g 13 _ (by decide) (by decide)]
  exact ⟨E, hi, hb.1.Dg (by show _ < (b 1 0).toNat; omega)⟩
theorem q_degree_no {n : Nat} {b a s : Sto} {x : Int} (hR : R32 x) (hx : ¬ (0 ≤ x ∧ x < b 1 0)) (hb : OK b) (E : Eqv b s) (hi : Ah a s) : K_Cg_degree n x s (fun r s' => Eqv b s' ∧ Ah a s' ∧ r = -10001) := by
  refine e_Cg_degree ⟨_, k_node hR hb E hi, ?_⟩
  rintro r s' ⟨E', hi', rfl, f⟩
  exact ⟨by omega, fun _ => ⟨E, hi, rfl⟩, fun z => absurd z (by omega)⟩
theorem R_ed {b : Sto} (hb : OK b) {x : Int} (hx : 0 ≤ x ∧ x < b 1 1) : R32 x ∧ x < 20 := by unfold R32; have := hb.1.2.1; omega
theorem q_edge0 {n : Nat} {b a s : Sto} {x : Int} (hx : 0 ≤ x ∧ x < b 1 1) (hb : OK b) (E : Eqv b s) (hi : Ah a s) : K_Cg_edge n x 0 s (fun r s' => Eqv b s' ∧ Ah a s' ∧ r = b 2 x.toNat) := by
  obtain ⟨hR, h20⟩ := R_ed hb hx
  refine e_Cg_edge ⟨_, k_edge hR hb E hi, ?_⟩
  rintro r s' ⟨E', hi', rfl, f⟩
  exact ⟨by omega, fun _ => ⟨by omega, fun _ => ⟨by omega, E, hi, E.g 2 _ (by decide) (by decide)⟩, fun z => absurd rfl z⟩, fun z => absurd z (by omega)⟩
theorem q_edge1 {n : Nat} {b a s : Sto} {x : Int} (hx : 0 ≤ x ∧ x < b 1 1) (hb : OK b) (E : Eqv b s) (hi : Ah a s) : K_Cg_edge n x 1 s (fun r s' => Eqv b s' ∧ Ah a s' ∧ r = b 3 x.toNat) := by
  obtain ⟨hR, h20⟩ := R_ed hb hx
  refine e_Cg_edge ⟨_, k_edge hR hb E hi, ?_⟩
  rintro r s' ⟨E', hi', rfl, f⟩
  exact ⟨by omega, fun _ => ⟨by omega, fun z => absurd z (by decide), fun _ => ⟨by omega, E, hi, E.g 3 _ (by decide) (by decide)⟩⟩, fun z => absurd z (by omega)⟩
theorem q_edge_no {n : Nat} {b a s : Sto} {x y : Int} (hR : R32 x) (hx : ¬ (0 ≤ x ∧ x < b 1 1)) (hb : OK b) (E : Eqv b s) (hi : Ah a s) : K_Cg_edge n x y s (fun r s' => Eqv b s' ∧ Ah a s' ∧ r = -10001) := by
  refine e_Cg_edge ⟨_, k_edge hR hb E hi, ?_⟩
  rintro r s' ⟨E', hi', rfl, f⟩
  exact ⟨by omega, fun z => absurd z (by omega), fun _ => ⟨E, hi, rfl⟩⟩
theorem q_chips {n : Nat} {b a s : Sto} {x : Int} (hx : (0 ≤ x ∧ x < b 1 0) ∧ x ≠ b 1 2) (hb : OK b) (E : Eqv b s) (hi : Ah a s) : K_Cg_chips n x s (fun r s' => Eqv b s' ∧ Ah a s' ∧ r = b 187 x.toNat) := by
  have h8 := hb.1.1
  refine e_Cg_chips ⟨_, k_chipsAt (R_nd hb hx.1) hb E hi, ?_⟩
  rintro r s' ⟨E', hi', rfl, f⟩
  exact ⟨by omega, fun z => absurd z (by omega), fun _ => ⟨by omega, E, hi, E.c _⟩⟩
theorem q_chips_no {n : Nat} {b a s : Sto} {x : Int} (hR : R32 x) (hx : ¬ ((0 ≤ x ∧ x < b 1 0) ∧ x ≠ b 1 2)) (hb : OK b) (E : Eqv b s) (hi : Ah a s) : K_Cg_chips n x s (fun r s' => Eqv b s' ∧ Ah a s' ∧ r = -10001) := by
  refine e_Cg_chips ⟨_, k_chipsAt hR hb E hi, ?_⟩
  rintro r s' ⟨E', hi', rfl, f⟩
  exact ⟨by omega, fun _ => ⟨E, hi, rfl⟩, fun z => absurd z (by omega)⟩
/-- the round in which a node burns, or -1 -/
def bRn (b : Sto) (v : Nat) : Int := rnd (Jm b) (fun v => dgr (Jm b) (nN b) v - b 187 v) (nK b) (nN b) (nN b) v
theorem ch_b {s : Sto} (h : OK s) : ∀ v, v < 8 → -1000000 ≤ s 187 v ∧ s 187 v ≤ 1000000 := fun v hv => by have := ch_R h v hv; omega
theorem q_burnt {n : Nat} {b a s : Sto} {x : Int} (hx : 0 ≤ x ∧ x < b 1 0) (hb : OK b) (E : Eqv b s) (hi : Ah a s) : K_Cg_burnt n x s (fun r s' => Eqv b s' ∧ Ah a s' ∧ r = if bRn b x.toNat = -1 then -10007 else bRn b x.toNat) := by
  have hR := R_nd hb hx
  have hs := E.ok hb
  have h8 := hb.1.1
  have e10 := E.g 1 0 (by decide) (by decide)
  refine e_Cg_burnt ⟨_, k_node hR hb E hi, ?_⟩
  rintro r s' ⟨E', hi', rfl, f⟩
  refine ⟨by omega, fun _ => ⟨_, k_Bu_allBurn (arSL arSC_187) (by decide) hs.1 (ch_b hs), ?_⟩, fun z => absurd z (by omega)⟩
  rintro r1 s1 ⟨g1, g2, g3⟩
  have E1 : Eqv b s1 := E.sc (fun k i hk => g1 k i (by omega) (by omega))
  have hi1 : Ah a s1 := hi.sc (fun k i hk => g1 k i (by omega) (by omega))
  obtain ⟨v, rfl⟩ : ∃ v : Nat, x = v := ⟨x.toNat, by omega⟩
  have rv : s1 38 v = bRn b v := by
    rw [g2 v (by omega)]
    have eN : (s' 1 0).toNat = nN b := E.N
    have eK : (s' 1 2).toNat = nK b := E.K
    rw [eN, eK]
    refine rnd_congr (E.J hb) (fun v hv => ?_) _ _ (by show v < (b 1 0).toNat; omega)
    rw [E.c v, E.g 13 v (by decide) (by decide), hb.1.Dg hv]
  have bd := rnd_bd (Jm b) (fun v => dgr (Jm b) (nN b) v - b 187 v) (nK b) (nN b) (nN b) v
  have bd8 := nN_8 hb
  have bd2 : R32 (s1 38 v) := by
    rw [rv]
    unfold R32 bRn
    omega
  refine ⟨_, k_Bu_hasBurnt (by rw [E1.g 1 0 (by decide) (by decide)]; omega) (by rw [E1.g 1 0 (by decide) (by decide)]; exact hx.2) bd2, ?_⟩
  rintro r2 s2 ⟨rfl, g4⟩
  rw [rv] at g4
  rw [toNat_n, rv]
  refine ⟨by omega, fun z => ⟨E1, hi1, ?_⟩, fun z => ⟨by omega, E1, hi1, ?_⟩⟩
  · rw [if_pos (by omega)]
  · rw [if_neg (by omega)]
theorem q_burnt_no {n : Nat} {b a s : Sto} {x : Int} (hR : R32 x) (hx : ¬ (0 ≤ x ∧ x < b 1 0)) (hb : OK b) (E : Eqv b s) (hi : Ah a s) : K_Cg_burnt n x s (fun r s' => Eqv b s' ∧ Ah a s' ∧ r = -10001) := by
  refine e_Cg_burnt ⟨_, k_node hR hb E hi, ?_⟩
  rintro r s' ⟨E', hi', rfl, f⟩
  exact ⟨by omega, fun z => absurd z (by omega), fun _ => ⟨E, hi, rfl⟩⟩
/-- recurrent, as the machine tells it -/
theorem rec_of {s : Sto} (h : OK s) (hC : Conn s) : (Stb (Jm s) (nK s) (nN s) (s 187) ∧ AllB (Jm s) (fun v => s 13 v - s 187 v) (nK s) (nN s)) ↔ Rec (Jm s) (nK s) (nN s) (s 187) := by
  have h8 := nN_8 h
  have ea : AllB (Jm s) (fun v => s 13 v - s 187 v) (nK s) (nN s) ↔ AllB (Jm s) (fun v => dgr (Jm s) (nN s) v - s 187 v) (nK s) (nN s) := AllB.congr (fun _ _ _ _ => rfl) (fun v hv => by rw [h.1.Dg hv])
  constructor
  · rintro ⟨h1, h2⟩
    exact ⟨fun v hv hk => ⟨(ch_R h v (by omega)).1, h1.con h.1 hC hv hk⟩, ea.mp h2⟩
  · rintro ⟨h1, h2⟩
    exact ⟨fun v hv hk _ => (h1 v hv hk).2, ea.mpr h2⟩
theorem R_ch {s : Sto} (h : OK s) : ∀ v, v < 8 → R32 (s 187 v) := fun v hv => by have := ch_R h v hv; unfold R32; omega
theorem k_rec {n : Nat} {b a s : Sto} (hb : OK b) (E : Eqv b s) (hi : Ah a s) : K_Cg_isRecurrent n s (fun r s' => Eqv b s' ∧ Ah a s' ∧ r = ind (RecB b)) := by
  have hs := E.ok hb
  refine e_Cg_isRecurrent ⟨_, k_Fi_isStable (arSL arSC_187) hs.1 (R_ch hs), ?_⟩
  rintro r s' ⟨rfl, f⟩
  refine ⟨by omega, fun z => ⟨E, hi, (ind_f (fun y => ?_)).symm⟩, fun z => ⟨_, k_conn hb E hi, ?_⟩⟩
  · obtain ⟨y1, y2⟩ := (E.rec hb).mpr y
    exact (f.resolve_left (by omega)).2 ((rec_of hs y1).mpr y2).1
  · rintro _ s1 ⟨E1, hi1, rfl⟩
    have i1 := ind_01 (Conn b)
    have hs1 := E1.ok hb
    refine ⟨by omega, fun y => ⟨E1, hi1, (ind_f (fun w => ?_)).symm⟩, fun y => ⟨_, k_Bu_allBurn (arSL arSC_187) (by decide) hs1.1 (ch_b hs1), ?_⟩⟩
    · rw [ind_t w.1] at y; omega
    · rintro r1 s2 ⟨g1, g2, g3⟩
      have cb : Conn b := Classical.byContradiction fun w => y (ind_f w)
      have E2 : Eqv b s2 := E1.sc (fun k i hk => g1 k i (by omega) (by omega))
      have hi2 : Ah a s2 := hi1.sc (fun k i hk => g1 k i (by omega) (by omega))
      have st : StbB s' := (f.resolve_right (by omega)).2
      have st1 : StbB s1 := (E1.stb hb).mpr ((E.stb hb).mp st)
      have c1 : Conn s1 := E1.conn.mpr cb
      refine ⟨by omega, fun w => ⟨E2, hi2, (ind_f (fun v => ?_)).symm⟩, fun w => ⟨E2, hi2, (ind_t ?_).symm⟩⟩
      · have := (E1.rec hb).mpr v
        exact (g3.resolve_left (by omega)).2 ((rec_of hs1 c1).mpr this.2).2
      · exact (E1.rec hb).mp ⟨c1, (rec_of hs1 c1).mp ⟨st1, (g3.resolve_right (by omega)).2⟩⟩
theorem q_kind {n : Nat} {b a s : Sto} (hb : OK b) (E : Eqv b s) (hi : Ah a s) : K_Cg_kind n s (fun r s' => Eqv b s' ∧ Ah a s' ∧ r = ind (StbB b) + 2 * ind (RecB b) + 4 * ind (SupB b)) := by
  have hs := E.ok hb
  refine e_Cg_kind ⟨_, k_Fi_isStable (arSL arSC_187) hs.1 (R_ch hs), ?_⟩
  rintro r s' ⟨rfl, f⟩
  have f1 : r = ind (StbB b) := by
    rcases f with ⟨rfl, c⟩ | ⟨rfl, c⟩
    · exact (ind_t ((E.stb hb).mp c)).symm
    · exact (ind_f (fun z => c ((E.stb hb).mpr z))).symm
  have i0 := ind_01 (StbB b)
  refine ⟨fun v => v = ind (StbB b), fun v6 h6 => ⟨_, k_rec hb E hi, ?_⟩, by omega, fun z => by omega, fun z => by omega⟩
  rintro _ s1 ⟨E1, hi1, rfl⟩
  have i1 := ind_01 (RecB b)
  refine ⟨fun v => v = ind (StbB b) + 2 * ind (RecB b), fun v16 h16 => ⟨_, k_conn hb E1 hi1, ?_⟩, by omega, fun z => by omega, fun z => by omega⟩
  rintro _ s2 ⟨E2, hi2, rfl⟩
  have i2 := ind_01 (Conn b)
  have hs2 := E2.ok hb
  refine ⟨by omega, fun z => ⟨E2, hi2, ?_⟩, fun z => ⟨_, k_Bu_allBurnBySecondRule (arSL arSC_187) (by decide) hs2.1 (ch_b hs2), ?_⟩⟩
  · rw [ind_f (p := SupB b) (fun w => by rw [ind_t w.1] at z; omega)]; omega
  · rintro r1 s3 ⟨g1, g2, g3⟩
    have cb : Conn b := Classical.byContradiction fun w => z (ind_f w)
    have E3 : Eqv b s3 := E2.sc (fun k i hk => g1 k i (by omega) (by omega))
    have hi3 : Ah a s3 := hi2.sc (fun k i hk => g1 k i (by omega) (by omega))
    have c2 : Conn s2 := E2.conn.mpr cb
    refine ⟨by omega, fun w => ⟨E3, hi3, ?_⟩, fun w => ⟨E3, hi3, ?_⟩⟩
    · rw [ind_f (p := SupB b) (fun v => (g3.resolve_left (by omega)).2 ((E2.sup hb).mpr v).2)]; omega
    · rw [ind_t (p := SupB b) ((E2.sup hb).mp ⟨c2, (g3.resolve_right (by omega)).2⟩)]; omega
