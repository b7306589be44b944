/-! the law's errors -/
theorem SpT_0 {b : Sto} (hb : OK b) : ¬ SpT b 0 := fun h => by
  have h2 := h.2.1
  have : bc 0 (b 1 1).toNat = 0 := sumN_z (fun e _ => by rw [Nat.zero_testBit]; rfl)
  have := hb.1.1
  omega
theorem la_errors {n : Nat} {b a s : Sto} (h2 : b 32 2 = 0) (hb : OK b) (E : Eqv b s) (hi : Ah a s) : K_La_errors n s (fun r s' => Eqv b s' ∧ Ah a s' ∧ r = 1) := by
  have hn := hb.1.1
  have hk := hb.1.2.2.1
  have hm := hb.1.2.1
  have rn : R32 (b 1 0) := by unfold R32; omega
  have rk : R32 (b 1 2) := by unfold R32; omega
  have rm : R32 (b 1 1) := by unfold R32; omega
  have r3 : R32 3 := by unfold R32; omega
  have r_1 : R32 (-1) := by unfold R32; omega
  have r0 : R32 0 := by unfold R32; omega
  refine e_La_errors ?_
  refine ⟨_, q_value0 hb E hi, ?_⟩
  rintro _ s ⟨E, hi, rfl⟩
  refine ⟨_, q_value2 hb E hi, ?_⟩
  rintro _ s ⟨E, hi, rfl⟩
  refine ⟨_, q_reset_no (by unfold R32; omega) (by omega) hb E hi, ?_⟩
  rintro _ s ⟨E, hi, rfl⟩
  refine ⟨fun _ => False, fun v s' => Eqv b s' ∧ Ah a s' ∧ v = 1, fun _ z => z.elim, ?_, by decide, fun z => absurd rfl z, fun _ => ?_⟩
  · rintro _ s ⟨E, hi, rfl⟩
    refine ⟨by decide, fun z => absurd z (by decide), fun _ => ?_⟩
    refine ⟨_, q_keep_no r3 (by omega) hb E hi, ?_⟩
    rintro _ s ⟨E, hi, rfl⟩
    refine ⟨by decide, fun z => absurd rfl z, fun _ => ?_⟩
    refine ⟨_, q_load_no r_1 (by omega) hb E hi, ?_⟩
    rintro _ s ⟨E, hi, rfl⟩
    refine ⟨by decide, fun z => absurd rfl z, fun _ => ?_⟩
    refine ⟨_, q_add_no r3 (by omega) hb E hi, ?_⟩
    rintro _ s ⟨E, hi, rfl⟩
    refine ⟨by decide, fun z => absurd rfl z, fun _ => ?_⟩
    refine ⟨_, q_same_no r3 (by omega) hb E hi, ?_⟩
    rintro _ s ⟨E, hi, rfl⟩
    refine ⟨by decide, fun z => absurd rfl z, fun _ => ?_⟩
    refine ⟨_, q_load_emp (by omega) h2 hb E hi, ?_⟩
    rintro _ s ⟨E, hi, rfl⟩
    refine ⟨by decide, fun z => absurd rfl z, fun _ => ?_⟩
    refine ⟨_, q_add_emp (by omega) h2 hb E hi, ?_⟩
    rintro _ s ⟨E, hi, rfl⟩
    refine ⟨by decide, fun z => absurd rfl z, fun _ => ?_⟩
    refine ⟨_, q_same_emp (by omega) h2 hb E hi, ?_⟩
    rintro _ s ⟨E, hi, rfl⟩
    refine ⟨by decide, fun z => absurd rfl z, fun _ => ?_⟩
    refine ⟨_, q_identity_no rk (by omega) hb E hi, ?_⟩
    rintro _ s ⟨E, hi, rfl⟩
    refine ⟨by decide, fun z => absurd rfl z, fun _ => ?_⟩
    refine ⟨_, q_takeTree_no r_1 (fun z => by omega) hb E hi, ?_⟩
    rintro _ s ⟨E, hi, rfl⟩
    refine ⟨by decide, fun z => absurd rfl z, fun _ => ?_⟩
    refine ⟨_, q_takeTree_no r0 (fun z => SpT_0 hb z.2) hb E hi, ?_⟩
    rintro _ s ⟨E, hi, rfl⟩
    refine ⟨by decide, fun z => absurd rfl z, fun _ => ?_⟩
    refine ⟨fun v => (0 ≤ v ∧ v < b 1 0) ∧ v ≠ b 1 2, fun v hv => ?_, by omega, fun z => by omega, fun z => by omega⟩
    refine ⟨_, q_setChips_bad (by unfold R32; omega) hv (by omega) hb E hi, ?_⟩
    rintro _ s ⟨E, hi, rfl⟩
    exact ⟨by decide, fun z => absurd rfl z, fun _ => ⟨E, hi, rfl⟩⟩
  · refine ⟨_, q_reset_no (by unfold R32; omega) (by omega) hb E hi, ?_⟩
    rintro _ s ⟨E, hi, rfl⟩
    refine ⟨by decide, fun z => absurd rfl z, fun _ => ?_⟩
    refine ⟨_, q_addEdge_no r0 rn (by omega) hb E hi, ?_⟩
    rintro _ s ⟨E, hi, rfl⟩
    refine ⟨by decide, fun z => absurd rfl z, fun _ => ?_⟩
    refine ⟨_, q_addEdge_bad (by omega) hb E hi, ?_⟩
    rintro _ s ⟨E, hi, rfl⟩
    refine ⟨by decide, fun z => absurd rfl z, fun _ => ?_⟩
    refine ⟨_, q_value1 hb E hi, ?_⟩
    rintro _ s ⟨E, hi, rfl⟩
    refine ⟨_, q_removeEdge_no rm (by omega) hb E hi, ?_⟩
    rintro _ s ⟨E, hi, rfl⟩
    refine ⟨by decide, fun z => absurd rfl z, fun _ => ?_⟩
    refine ⟨_, q_setSink_no rn (by omega) hb E hi, ?_⟩
    rintro _ s ⟨E, hi, rfl⟩
    refine ⟨by decide, fun z => absurd rfl z, fun _ => ?_⟩
    refine ⟨_, q_value7 hb E hi, ?_⟩
    rintro _ s ⟨E, hi, rfl⟩
    refine ⟨by decide, fun z => absurd rfl z, fun _ => ?_⟩
    refine ⟨_, q_degree_no rn (by omega) hb E hi, ?_⟩
    rintro _ s ⟨E, hi, rfl⟩
    refine ⟨by decide, fun z => absurd rfl z, fun _ => ?_⟩
    refine ⟨_, q_edge_no r_1 (by omega) hb E hi, ?_⟩
    rintro _ s ⟨E, hi, rfl⟩
    refine ⟨by decide, fun z => absurd rfl z, fun _ => ?_⟩
    refine ⟨_, q_setChips_no rk (by omega) hb E hi, ?_⟩
    rintro _ s ⟨E, hi, rfl⟩
    refine ⟨by decide, fun z => absurd rfl z, fun _ => ?_⟩
    refine ⟨_, q_setChips_no rn (by omega) hb E hi, ?_⟩
    rintro _ s ⟨E, hi, rfl⟩
    refine ⟨by decide, fun z => absurd rfl z, fun _ => ?_⟩
    refine ⟨_, q_chips_no rk (by omega) hb E hi, ?_⟩
    rintro _ s ⟨E, hi, rfl⟩
    refine ⟨by decide, fun z => absurd rfl z, fun _ => ?_⟩
    refine ⟨_, q_fire_no rk (by omega) hb E hi, ?_⟩
    rintro _ s ⟨E, hi, rfl⟩
    refine ⟨by decide, fun z => absurd rfl z, fun _ => ?_⟩
    refine ⟨_, q_firings_no rk (by omega) hb E hi, ?_⟩
    rintro _ s ⟨E, hi, rfl⟩
    refine ⟨by decide, fun z => absurd rfl z, fun _ => ?_⟩
    refine ⟨_, q_burnt_no rn (by omega) hb E hi, ?_⟩
    rintro _ s ⟨E, hi, rfl⟩
    exact ⟨by decide, fun z => absurd rfl z, fun _ => ⟨E, hi, rfl⟩⟩
