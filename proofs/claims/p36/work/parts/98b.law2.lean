/-! the law itself: the graph is made; the start -/
theorem lw_104 {x3 : Int} (hn : 2 ≤ x3 ∧ x3 ≤ 8) : ∀ (d e : Nat) (x4 : Int) (s : Sto), 14 - e < d → e ≤ 14 → x4 ≤ e → PL x3 x4 s → H_La_law_104 0 190 3560 Ql x3 x4 e s := by
  intro d
  induction d with
  | zero => intro e x4 s hd; omega
  | succ d ih =>
    intro e x4 s hd he h4 P
    have hb := P.1
    have en := P.2.1
    have em := P.2.2.1
    have hmr := hb.1.2.1
    have C0 : 190 + 0 ≤ 600000 ∧ 3560 + 0 ≤ 7302250 := by decide
    refine b_La_law_104 ⟨by omega, fun _ => lw_287 9 0 x4 190 3560 s (by decide) (by decide) (by decide) P, fun hlt => ⟨C0, _, k_La_cell (by omega), ?_⟩⟩
    rintro r1 s1 ⟨rfl, r1a, r1b⟩
    have tail : ∀ (v98 v107 : Int), (0 ≤ v98 ∧ v98 < x3) → (0 ≤ v107 ∧ v107 < x3) → ∀ s', PL x3 x4 s' → ∃ Q129 : Int → Sto → Prop, K_Cg_addEdge 0 v98 v107 s' Q129 ∧ ∀ r132 s131, Q129 r132 s131 → ((r132 = -1 ∨ r132 = -10002) ∧ PL x3 x4 s131) ∨ (r132 = x4 ∧ PL x3 (x4 + 1) s131 ∧ s131 2 x4.toNat = v98 ∧ s131 3 x4.toNat = v107) := fun u v hu hv s' P' => by
      by_cases c : u = v
      · subst c
        refine ⟨_, q_addEdge_bad (b := s') (a := s') (by rw [P'.2.1]; exact hu) P'.1 (Eqv.refl s') (Ah.refl s'), ?_⟩
        rintro _ s2 ⟨E, _, rfl⟩
        exact Or.inl ⟨Or.inr rfl, P'.q E⟩
      · have hm' := P'.2.2.1
        refine ⟨_, u_addEdge (b := s') (a := s') (by rw [P'.2.1]; exact hu) (by rw [P'.2.1]; exact hv) c (by omega) P'.1 (Eqv.refl s') (Ah.refl s'), ?_⟩
        rintro r s2 ⟨_, r2, ok2, ng, g0, g1, g2, g3, g4, _⟩
        rw [hm'] at r2 g3 g4
        exact Or.inr ⟨r2, ⟨ok2, g0.trans P'.2.1, by rw [g1, hm'], ng.2 2 (by decide)⟩, g3, g4⟩
    have mb : 0 ≤ x4 := by omega
    refine ⟨fun v s' => PL x3 x4 s' ∧ (0 ≤ v ∧ v < x3) ∧ ((e : Int) + 1 < x3 → v < (e : Int) + 1), ?_, ⟨by omega, by omega⟩, fun z => ⟨C0, _, la_low (by omega), ?_⟩, fun z => ⟨C0, _, la_low (by omega), ?_⟩⟩
    · rintro v98 s2 ⟨P2, u1, u2⟩
      refine ⟨fun v s' => PL x3 x4 s' ∧ (0 ≤ v ∧ v < x3), ?_, ⟨by omega, by omega⟩, fun z => ⟨C0, _, la_low (by omega), ?_⟩, fun z => ⟨P2, by omega⟩⟩
      · rintro v107 s3 ⟨P3, w1⟩
        refine ⟨fun s' => PL x3 x4 s', fun r s' => ((r = -1 ∨ r = -10002) ∧ PL x3 x4 s') ∨ (r = x4 ∧ PL x3 (x4 + 1) s' ∧ s' 2 x4.toNat = v98 ∧ s' 3 x4.toNat = v107), fun s' P' => ⟨C0, tail v98 v107 u1 w1 s' P'⟩, ?_, ⟨by omega, by omega⟩, fun z => P3, fun z => ⟨C0, _, la_low (by decide), ?_⟩⟩
        · rintro v124 s4 h
          have nat : ((e : Int) + 1) = ((e + 1 : Nat) : Int) := rfl
          refine ⟨fun s' => (v124 < 0 → PL x3 x4 s') ∧ (0 ≤ v124 → PL x3 (x4 + 1) s'), fun s' P' => ⟨by rcases h with ⟨z, _⟩ | ⟨z, _⟩ <;> omega, fun z => ?_, fun z => ?_⟩, by rcases h with ⟨z, _⟩ | ⟨z, _⟩ <;> omega, fun z => ⟨by rcases h with ⟨z, _⟩ | ⟨z, _⟩ <;> omega, fun y => ⟨fun _ => (h.resolve_right (by omega)).2, fun w => absurd w (by omega)⟩, fun y => ⟨by rcases h with ⟨z, _⟩ | ⟨z, _⟩ <;> omega, fun w => ⟨fun _ => (h.resolve_right (by omega)).2, fun w => absurd w (by omega)⟩, fun w => by rcases h with ⟨z, _⟩ | ⟨z, _⟩ <;> omega⟩⟩, fun z => ?_⟩
          · rw [nat, Int.add_zero]
            exact ih (e + 1) x4 s' (by omega) (by omega) (by omega) (P'.1 z)
          · rw [nat]
            exact ih (e + 1) (x4 + 1) s' (by omega) (by omega) (by omega) (P'.2 z)
          · obtain ⟨t1, P4, t3, t4⟩ := h.resolve_left (by omega)
            have em4 := P4.2.2.1
            refine ⟨⟨by omega, by omega⟩, fun y => absurd t1 y, fun _ => ⟨C0, _, q_edge0 (b := s4) (a := s4) (by omega) P4.1 (Eqv.refl s4) (Ah.refl s4), ?_⟩⟩
            rintro _ s5 ⟨E5, hi5, rfl⟩
            rw [t1, t3]
            refine ⟨⟨by omega, by omega⟩, fun y => absurd rfl y, fun _ => ⟨C0, _, q_edge1 (b := s4) (a := s4) (by omega) P4.1 E5 hi5, ?_⟩⟩
            rintro _ s6 ⟨E6, hi6, rfl⟩
            rw [t4]
            exact ⟨⟨by omega, by omega⟩, fun _ => ⟨fun y => absurd y (by omega), fun _ => P4.q E6⟩, fun y => absurd rfl y⟩
        · rintro r5 s5 ⟨rfl, r5a, r5b⟩
          exact ⟨by omega, fun _ => Or.inl ⟨Or.inl rfl, P3⟩, fun _ => P3⟩
      · rintro r4 s4 ⟨rfl, r4a, r4b⟩
        exact ⟨P2, r4a, r4b⟩
    · rintro r3 s3 ⟨rfl, r3a, r3b⟩
      exact ⟨P, ⟨r3a, r3b⟩, fun y => by omega⟩
    · rintro r3 s3 ⟨rfl, r3a, r3b⟩
      exact ⟨P, by omega, fun y => r3b⟩
/-- a fresh object: two nodes and the edge between them -/
def Fr0 (σ : Sto) : Prop := OK σ ∧ σ 1 0 = 2 ∧ σ 1 1 = 1 ∧ σ 1 2 = 0 ∧ σ 2 0 = 0 ∧ σ 3 0 = 1 ∧ σ 17 0 = 0 ∧ ∀ v, σ 187 v = 0
theorem fresh {s1 σ : Sto} (h1 : WG s1 ∧ s1 1 0 = 2 ∧ s1 1 1 = 0 ∧ s1 1 2 = 0 ∧ ∀ k i, (k = 0 ∨ 13 < k) → s1 k i = iC_s0 k i) (h2 : AppP s1 0 1 σ) : Fr0 σ := by
  obtain ⟨a1, a2, a3, a4, a5⟩ := h1
  obtain ⟨b1, b2, b3, b4, b5, b6, b7, b8⟩ := h2
  have z : ∀ k i, 13 < k → σ k i = 0 := fun k i hk => by
    rw [b8 k i (by omega), a5 k i (by omega)]
    unfold iC_s0
    exact if_neg (by omega)
  rw [a3] at b6 b7 b4
  have m1 : σ 1 1 = 1 := b4
  refine ⟨⟨b1, by omega, ?_, fun i _ => Or.inl (z 32 i (by decide)), fun v _ => by rw [z 187 v (by decide)]; decide, fun v _ _ => z 187 v (by decide)⟩, b2.trans a2, m1, b3.trans a4, b6, b7, z 17 0 (by decide), fun v => z 187 v (by decide)⟩
  unfold WH
  rw [z 17 0 (by decide), z 17 1 (by decide)]
  decide
theorem fresh_conn {σ : Sto} (h : Fr0 σ) : SpT σ 1 := by
  obtain ⟨hb, h0, h1, h2, h3, h4, h5, h6⟩ := h
  have hN : (σ 1 0).toNat = 2 := by rw [h0]; rfl
  have hM : (σ 1 1).toNat = 1 := by rw [h1]; rfl
  have hK : (σ 1 2).toNat = 0 := by rw [h2]; rfl
  unfold SpT
  rw [hN, hM, hK]
  refine ⟨fun e he => ?_, rfl, fun X hX hcl v hv => ?_⟩
  · apply Classical.byContradiction
    intro z
    rw [Nat.testBit_lt_two_pow (show 1 < 2 ^ e from Nat.lt_of_lt_of_le (by decide : 1 < 2 ^ 1) (Nat.pow_le_pow_right (by decide) (by omega)))] at he
    cases he
  · have c := hcl 0 (by decide) (by decide)
    rw [h3, h4] at c
    by_cases d : v = 0
    · rw [d]; exact hX
    · rw [show v = 1 by omega]
      exact c.mp hX
theorem fresh_trs {σ : Sto} (h : Fr0 σ) : trs σ = 1 := by
  have hM : (σ 1 1).toNat = 1 := by rw [h.2.2.1]; rfl
  unfold trs
  rw [hM]
  show (0 : Int) + ind (SpT σ 0) + ind (SpT σ 1) = 1
  rw [ind_f (SpT_0 h.1), ind_t (fresh_conn h)]
  rfl
theorem fresh_kind {σ : Sto} (h : Fr0 σ) : StbB σ ∧ RecB σ ∧ SupB σ := by
  have hT := fresh_conn h
  obtain ⟨hb, h0, h1, h2, h3, h4, h5, h6⟩ := h
  have hC := tree_conn hb.1 hT
  have hN : nN σ = 2 := by show (σ 1 0).toNat = 2; rw [h0]; rfl
  have hM : (σ 1 1).toNat = 1 := by rw [h1]; rfl
  have hK : nK σ = 0 := by show (σ 1 2).toNat = 0; rw [h2]; rfl
  have d1 : dgr (Jm σ) (nN σ) 1 = 1 := by
    have a : σ 13 1 = dgr (Jm σ) (nN σ) 1 := hb.1.Dg (by show 1 < nN σ; omega)
    rw [← a, hb.1.2.2.2.2.2 1 (by decide), hM]
    show (0 : Int) + dgE (σ 2) (σ 3) 1 0 = 1
    unfold dgE
    rw [if_pos (Or.inr (by rw [h4]; rfl))]
    rfl
  have one : ∀ v, v < nN σ → v ≠ nK σ → v = 1 := fun v hv hk => by omega
  have al := rk_all hb hC
  have rc : Rec (Jm σ) (nK σ) (nN σ) (σ 187) := ⟨fun v hv hk => by rw [one v hv hk, d1, h6]; decide, (AllB.congrK (fun v hv hk => by rw [one v hv hk, d1, h6]; rfl)).mp al⟩
  exact ⟨((rec_of hb hC).mpr rc).1, ⟨hC, rc⟩, hC, (AllB.congrK (fun v hv hk => by rw [h6]; rfl)).mp al⟩
theorem lw_start {σ : Sto} (h : Fr0 σ) : Go (SL 0) M_La_law (fI Ql) 190 3560 7 [(0, .ref 2000)] [.ref 0] σ := by
  have ht := fresh_trs h
  obtain ⟨k1, k2, k3⟩ := fresh_kind h
  obtain ⟨hb, h0, h1, h2, h3, h4, h5, h6⟩ := h
  have C0 : 190 + 0 ≤ 600000 ∧ 3560 + 0 ≤ 7302250 := by decide
  have E := Eqv.refl σ
  have hi := Ah.refl σ
  refine b_La_law_start ⟨C0, _, q_value0 (b := σ) (a := σ) hb E hi, ?_⟩
  rintro _ s ⟨E, hi, rfl⟩
  rw [h0]
  refine ⟨by decide, fun z => absurd rfl z, fun _ => ⟨C0, _, q_value1 (b := σ) (a := σ) hb E hi, ?_⟩⟩
  rintro _ s ⟨E, hi, rfl⟩
  rw [h1]
  refine ⟨by decide, fun z => absurd rfl z, fun _ => ⟨C0, _, q_treeCount (b := σ) (a := σ) hb E hi, ?_⟩⟩
  rintro _ s ⟨E, hi, rfl⟩
  rw [ht]
  refine ⟨by decide, fun z => absurd rfl z, fun _ => ⟨C0, _, q_kind (b := σ) (a := σ) hb E hi, ?_⟩⟩
  rintro _ s ⟨E, hi, rfl⟩
  rw [ind_t k1, ind_t k2, ind_t k3]
  refine ⟨by decide, fun z => absurd rfl z, fun _ => ⟨C0, _, q_undo_no (b := σ) (a := σ) h5 hb E hi, ?_⟩⟩
  rintro _ s ⟨E, hi, rfl⟩
  refine ⟨by decide, fun _ => ⟨C0, _, k_La_cell (by decide), ?_⟩, fun z => absurd rfl z⟩
  rintro r1 s1 ⟨rfl, r1a, r1b⟩
  refine ⟨C0, _, la_low (by decide), ?_⟩
  rintro r2 s2 ⟨rfl, r2a, r2b⟩
  refine ⟨C0, _, u_reset (b := σ) (a := σ) (x := 2 + r2) (by omega) hb E hi, ?_⟩
  rintro r3 s3 ⟨_, r3e, ok3, ng3, g0, g1, g2⟩
  refine ⟨by omega, fun z => absurd (r3e.trans h0) z, fun _ => ⟨C0, _, q_value1 (b := s3) (a := s3) ok3 (Eqv.refl s3) (Ah.refl s3), ?_⟩⟩
  rintro _ s4 ⟨E4, hi4, rfl⟩
  refine ⟨by omega, fun z => absurd g1 z, fun _ => ⟨C0, _, q_value3 (b := s3) (a := s3) ok3 E4 hi4, ?_⟩⟩
  rintro _ s5 ⟨E5, hi5, rfl⟩
  have nc : ¬ Conn s3 := fun c => by
    obtain ⟨T, hT⟩ := conn_tree ok3.1 c
    have b1 := hT.2.1
    rw [g1] at b1
    have b2 : bc T 0 = 0 := rfl
    have b3 : bc T (0 : Int).toNat = 0 := b2
    omega
  rw [ind_f nc]
  exact ⟨by decide, fun _ => lw_104 (by omega) 15 0 0 s5 (by decide) (by decide) (by decide) (PL.q ⟨ok3, g0, g1, ng3.2 2 (by decide)⟩ E5), fun z => absurd rfl z⟩
