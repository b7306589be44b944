/-! added, taken back, kept; the graph changed -/
theorem u_add {n : Nat} {b a s : Sto} {x : Int} (hx : 0 ≤ x ∧ x < 3) (h1 : b 32 x.toNat = 1) (hc : ∀ v, v < 8 → 0 ≤ b (34 + x.toNat) v ∧ b (34 + x.toNat) v + b 187 v ≤ 2000) (hz : ∀ v, v < 8 → ¬ (v < nN b ∧ v ≠ nK b) → b (34 + x.toNat) v = 0) (hb : OK b) (E : Eqv b s) (hi : Ah a s) : K_Cg_add n x s (fun r s' => UpP b s' ∧ Ah a s' ∧ r = sumN 8 (s' 187) ∧ OK s' ∧ ∀ v, v < 8 → s' 187 v = b (34 + x.toNat) v + b 187 v) := by
  refine e_Cg_add ⟨_, k_slot (by unfold R32; omega) hb E hi, ?_⟩
  rintro r s1 ⟨E1, hi1, rfl, f⟩
  refine ⟨by omega, fun _ => ⟨_, k_empty hx hb E1 hi1, ?_⟩, fun z => absurd z (by omega)⟩
  rintro r2 s2 ⟨E2, hi2, rfl, g⟩
  refine ⟨by omega, fun _ => ⟨_, k_Sl_copyTo (arSL arSC_188) (by decide) hx, ?_⟩, fun z => absurd z (by omega)⟩
  rintro s3 h3
  have E3 : Eqv b s3 := E2.sc (fun k i hk => by rw [h3, wr_ne (by omega)])
  have a3 : Ah a s3 := hi2.sc (fun k i hk => by rw [h3, wr_ne (by omega)])
  have v88 : ∀ v, v < 8 → s3 188 v = b (34 + x.toNat) v := fun v hv => by rw [h3, wr_eq, cut_lt hv, E2 _ _ (by omega)]
  refine loop_inv (α := Sto) (N := 8) (fun j q => Eqv b q ∧ Ah a q ∧ ∀ v, v < 8 → q 188 v = if v < j then b (34 + x.toNat) v + b 187 v else b (34 + x.toNat) v) (fun j q => H_Cg_add_44 n _ j q) (fun j q hj hI ih => ?_) (fun q hI => ?_) 0 s3 (by omega) ⟨E3, a3, fun v hv => by rw [if_neg (by omega)]; exact v88 v hv⟩
  · obtain ⟨i1, i2, i3⟩ := hI
    have e1 := i3 j hj
    rw [if_neg (by omega)] at e1
    have e2 := i1.c j
    have cj := hc j hj
    have chj := ch_R hb j hj
    refine b_Cg_add_44 ⟨by omega, fun z => absurd z (by omega), fun _ => ⟨by omega, by omega, by omega, fun s4 e4 => ?_⟩⟩
    rw [toNat_n, e1, e2] at e4
    have v4 : s4 188 j = b (34 + x.toNat) j + b 187 j := by rw [e4, up_eq]
    rw [toNat_n, v4, nat_suc]
    refine ⟨by omega, by omega, fun _ => ih s4 ⟨i1.sc (fun k i hk => by rw [e4, up_k (by omega)]), i2.sc (fun k i hk => by rw [e4, up_k (by omega)]), fun v hv => ?_⟩, fun z => absurd z (by omega)⟩
    by_cases c : v = j
    · rw [c, if_pos (by omega)]; exact v4
    · rw [e4, up_i c, i3 v hv]
      exact ite_congr (propext (by omega)) (fun _ => rfl) (fun _ => rfl)
  · obtain ⟨i1, i2, i3⟩ := hI
    refine b_Cg_add_44 ⟨by omega, fun _ => ⟨_, k_record hb i1 i2, ?_⟩, fun z => absurd z (by omega)⟩
    rintro s5 ⟨f1, f2, f3⟩
    refine ⟨_, k_Cg_copyChips (arSL arSC_188) (arSL arSC_187) (by decide), ?_⟩
    rintro s6 rfl
    refine ⟨_, k_Cg_sumOf (arSL arSC_187), ?_⟩
    rintro _ s7 ⟨e7, rfl⟩
    have u7 : UpP b s7 := f1.sc (fun k i hk => by rw [e7, wr_ne (by omega)])
    have a7 : Ah a s7 := f2.sc (fun k i hk => by rw [e7, wr_ne (by omega)])
    have v7 : ∀ v, v < 8 → s7 187 v = b (34 + x.toNat) v + b 187 v := fun v hv => by rw [e7, wr_eq, cut_lt hv, f3 188 v (by decide), i3 v hv, if_pos hv]
    have hc7 : ChB s7 (s7 187) := by
      have hn := hb.1.1
      have hk := hb.1.2.2.1
      refine ⟨fun v hv => ?_, fun v hv hz2 => ?_⟩
      · have := hc v hv
        have := ch_R hb v hv
        rw [v7 v hv]; omega
      · rw [u7.g 1 0 (by decide) (by decide), u7.g 1 2 (by decide) (by decide)] at hz2
        have q : ¬ (v < nN b ∧ v ≠ nK b) := fun y => by
          have y1 : v < (b 1 0).toNat := y.1
          have y2 : v ≠ (b 1 2).toNat := y.2
          omega
        rw [v7 v hv, hz v hv q, R_sum hb hv q]; rfl
    refine ⟨u7, a7, by rw [e7], u7.ok hb hc7, v7⟩
theorem u_undo {n : Nat} {b a s : Sto} (h0 : 0 < b 17 0) (hb : OK b) (E : Eqv b s) (hi : Ah a s) : K_Cg_undo n s (fun r s' => (∀ k i, (1 ≤ k ∧ k ≤ 13) ∨ (31 ≤ k ∧ k ≤ 36) → s' k i = b k i) ∧ Ah a s' ∧ WH s' ∧ r = b 17 0 - 1 ∧ s' 17 0 = b 17 0 - 1 ∧ ∀ v, v < 8 → s' 187 v = b (hRow b) v) := by
  have hs := E.ok hb
  have e0 := E 17 0 (by omega)
  have e1 := E 17 1 (by omega)
  have er : hRow s = hRow b := by unfold hRow; rw [e0, e1]
  have hr := hRow_in hb.2.2.1
  have w := hb.2.2.1.1
  refine e_Cg_undo ⟨by omega, fun _ => ⟨_, k_Hi_takeBack (arSL arSC_187) (by decide) hs.2.2.1 (by omega), ?_⟩, fun z => absurd z (by omega)⟩
  rintro s1 ⟨f1, f2, f3, f4, f5⟩
  refine ⟨fun k i hk => (f5 k i (by omega) (by omega)).trans (E k i (by omega)), hi.sc (fun k i hk => f5 k i (by omega) (by omega)), f1, by omega, by omega, fun v hv => ?_⟩
  rw [f3 v hv, er, E _ _ (by omega)]
theorem u_keep {n : Nat} {b a s : Sto} {x : Int} (hx : 0 ≤ x ∧ x < 3) (hb : OK b) (E : Eqv b s) (hi : Ah a s) : K_Cg_keep n x s (fun r s' => (∀ k i, (1 ≤ k ∧ k ≤ 13) ∨ (17 ≤ k ∧ k ≤ 31) ∨ k = 187 → s' k i = b k i) ∧ Ah a s' ∧ (r = 0 ∨ r = 1) ∧ OK s' ∧ s' 32 x.toNat = 1 ∧ (∀ i, i ≠ x.toNat → s' 32 i = b 32 i) ∧ (∀ v, v < 8 → s' (34 + x.toNat) v = b 187 v) ∧ ∀ k i, 34 ≤ k → k ≤ 36 → k ≠ 34 + x.toNat → s' k i = b k i) := by
  have key : ∀ s3 : Sto, s3 = up (wr s (34 + x.toNat) (cut (s 187) (s (34 + x.toNat)))) 32 x.toNat 1 → (∀ k i, (1 ≤ k ∧ k ≤ 13) ∨ (17 ≤ k ∧ k ≤ 31) ∨ k = 187 → s3 k i = b k i) ∧ Ah a s3 ∧ OK s3 ∧ s3 32 x.toNat = 1 ∧ (∀ i, i ≠ x.toNat → s3 32 i = b 32 i) ∧ (∀ v, v < 8 → s3 (34 + x.toNat) v = b 187 v) ∧ ∀ k i, 34 ≤ k → k ≤ 36 → k ≠ 34 + x.toNat → s3 k i = b k i := fun s3 e => by
    have g : ∀ k i, (1 ≤ k ∧ k ≤ 13) ∨ (17 ≤ k ∧ k ≤ 31) ∨ k = 187 → s3 k i = b k i := fun k i hk => by rw [e, up_k (by omega), wr_ne (by omega), E k i (by omega)]
    have o : ∀ i, i ≠ x.toNat → s3 32 i = b 32 i := fun i h => by rw [e, up_i h, wr_ne (by omega), E 32 i (by omega)]
    have v1 : s3 32 x.toNat = 1 := by rw [e, up_eq]
    have gg : ∀ k i, 1 ≤ k → k ≤ 13 → s3 k i = b k i := fun k i h1 h2 => g k i (Or.inl ⟨h1, h2⟩)
    refine ⟨g, hi.sc (fun k i hk => by rw [e, up_k (by omega), wr_ne (by omega)]), ⟨hb.1.of gg, by rw [gg 1 1 (by decide) (by decide)]; exact hb.2.1, ?_, fun i h => ?_, ?_⟩, v1, o, fun v hv => by rw [e, up_k (by omega), wr_eq, cut_lt hv, E.c], fun k i h1 h2 h3 => by rw [e, up_k (by omega), wr_ne h3, E k i (by omega)]⟩
    · have := hb.2.2.1
      unfold WH at this ⊢
      rw [g 17 0 (by omega), g 17 1 (by omega)]; exact this
    · by_cases c : i = x.toNat
      · rw [c, v1]; exact Or.inr rfl
      · rw [o i c]; exact hb.2.2.2.1 i h
    · rw [show s3 187 = b 187 from funext fun i => g 187 i (by omega)]
      exact hb.2.2.2.2.of (gg 1 0 (by decide) (by decide)) (gg 1 2 (by decide) (by decide))
  refine e_Cg_keep ⟨_, k_slot (by unfold R32; omega) hb E hi, ?_⟩
  rintro r s1 ⟨E1, hi1, rfl, f⟩
  refine ⟨by omega, fun _ => ⟨_, k_empty hx hb E1 hi1, ?_⟩, fun z => absurd z (by omega)⟩
  rintro r2 s2 ⟨E2, hi2, rfl, g⟩
  refine ⟨by omega, fun _ => ⟨_, k_Sl_put (arSL arSC_187) (by decide) hx, ?_⟩, fun _ => ⟨_, k_Sl_put (arSL arSC_187) (by decide) hx, ?_⟩⟩
  · intro s3 h3
    obtain ⟨p1, p2, p3⟩ := key s3 h3
    exact ⟨p1, p2, Or.inl rfl, p3⟩
  · intro s3 h3
    obtain ⟨p1, p2, p3⟩ := key s3 h3
    exact ⟨p1, p2, Or.inr rfl, p3⟩
/-- the graph is another: history and slots are empty -/
def NewG (s' : Sto) : Prop := s' 17 0 = 0 ∧ ∀ i, i < 3 → s' 32 i = 0
theorem k_forget {n : Nat} {s : Sto} : K_Cg_forgetStates n s (fun s' => WH s' ∧ WS s' ∧ NewG s' ∧ ∀ k i, k ≠ 17 → k ≠ 32 → s' k i = s k i) := by
  refine e_Cg_forgetStates ⟨_, k_Hi_forgetAll, ?_⟩
  rintro s1 ⟨f1, f2, f3⟩
  refine ⟨_, k_Sl_forgetAll, ?_⟩
  rintro s2 ⟨g1, g2⟩
  have e0 := g2 17 0 (by decide)
  have e1 := g2 17 1 (by decide)
  refine ⟨?_, fun i hi => Or.inl (g1 i hi), ⟨e0.trans f2, g1⟩, fun k i h1 h2 => (g2 k i h2).trans (f3 k i h1)⟩
  unfold WH at f1 ⊢
  rw [e0, e1]; exact f1
theorem u_reset {n : Nat} {b a s : Sto} {x : Int} (hx : 2 ≤ x ∧ x ≤ 8) (hb : OK b) (E : Eqv b s) (hi : Ah a s) : K_Cg_reset n x s (fun r s' => Ah a s' ∧ r = b 1 0 ∧ OK s' ∧ NewG s' ∧ s' 1 0 = x ∧ s' 1 1 = 0 ∧ s' 1 2 = 0) := by
  have e0 := E.g 1 0 (by decide) (by decide)
  refine e_Cg_reset ⟨by omega, fun z => absurd z (by omega), fun _ => ⟨by omega, fun _ => ⟨_, e_Cg_startAnew ⟨_, k_Gr_clear hx, ?_⟩, fun s' h => h⟩, fun z => absurd z (by omega)⟩⟩
  rintro s1 ⟨f1, f2, f3, f4, f5⟩
  refine ⟨_, k_Cg_clearChips (arSL arSC_187), ?_⟩
  rintro s2 rfl
  refine ⟨_, k_forget, ?_⟩
  rintro s3 ⟨g1, g2, g3, g4⟩
  have gg : ∀ k i, 1 ≤ k → k ≤ 13 → s3 k i = s1 k i := fun k i h1 h2 => by rw [g4 k i (by omega) (by omega), wr_ne (by omega)]
  have c3 : ∀ v, v < 8 → s3 187 v = 0 := fun v hv => by rw [g4 187 v (by decide) (by decide), wr_eq, cut_lt hv]
  refine ⟨hi.sc (fun k i hk => by rw [g4 k i (by omega) (by omega), wr_ne (by omega), f5 k i (by omega)]), e0, ⟨f1.of gg, by rw [gg 1 1 (by decide) (by decide), f3]; decide, g1, g2, fun v hv => by rw [c3 v hv]; decide, fun v hv _ => c3 v hv⟩, g3, by rw [gg 1 0 (by decide) (by decide)]; exact f2, by rw [gg 1 1 (by decide) (by decide)]; exact f3, by rw [gg 1 2 (by decide) (by decide)]; exact f4⟩
theorem u_addEdge {n : Nat} {b a s : Sto} {x y : Int} (hx : 0 ≤ x ∧ x < b 1 0) (hy : 0 ≤ y ∧ y < b 1 0) (hne : x ≠ y) (hm : b 1 1 < 14) (hb : OK b) (E : Eqv b s) (hi : Ah a s) : K_Cg_addEdge n x y s (fun r s' => Ah a s' ∧ r = b 1 1 ∧ OK s' ∧ NewG s' ∧ s' 1 0 = b 1 0 ∧ s' 1 1 = b 1 1 + 1 ∧ s' 1 2 = b 1 2 ∧ s' 2 (b 1 1).toNat = x ∧ s' 3 (b 1 1).toNat = y ∧ ∀ v, s' 187 v = b 187 v) := by
  have hs := E.ok hb
  have hR := R_nd hb hx
  have hR2 := R_nd hb hy
  have q1 := hR
  have q2 := hR2
  unfold R32 at q1 q2
  have e0 := E.g 1 0 (by decide) (by decide)
  have e1 := E.g 1 1 (by decide) (by decide)
  have e2 := E.g 1 2 (by decide) (by decide)
  have hm0 := hb.1.2.1
  refine e_Cg_addEdge ⟨_, k_node hR hb E hi, ?_⟩
  rintro r s1 ⟨E1, hi1, rfl, f⟩
  refine ⟨by omega, fun z => absurd z (by omega), fun z => ⟨_, k_node hR2 hb E1 hi1, ?_⟩⟩
  rintro r2 s2 ⟨E2, hi2, rfl, f2⟩
  refine ⟨by omega, fun _ => ⟨⟨q1, q2⟩, fun _ => ⟨by omega, fun _ => ⟨_, k_Gr_append hs.1 (by omega) (by omega) (by omega) hne, ?_⟩, fun z => absurd z (by omega)⟩, fun z => absurd z hne⟩, fun z => absurd z (by omega)⟩
  rintro s3 ⟨g1, g2, g3, g4, g5, g6, g7, g8⟩
  refine ⟨_, k_forget, ?_⟩
  rintro s4 ⟨w1, w2, w3, w4⟩
  have gg : ∀ k i, 1 ≤ k → k ≤ 13 → s4 k i = s3 k i := fun k i h1 h2 => w4 k i (by omega) (by omega)
  have cc : ∀ v, s4 187 v = b 187 v := fun v => by rw [w4 187 v (by decide) (by decide), g8 187 v (by omega), E.c]
  have z0 : s4 1 0 = b 1 0 := by rw [gg 1 0 (by decide) (by decide), g2, e0]
  have z1 : s4 1 1 = b 1 1 + 1 := by rw [gg 1 1 (by decide) (by decide), g4, e1]
  have z2 : s4 1 2 = b 1 2 := by rw [gg 1 2 (by decide) (by decide), g3, e2]
  refine ⟨hi.sc (fun k i hk => by rw [w4 k i (by omega) (by omega), g8 k i (by omega)]), by omega, ⟨g1.of gg, by omega, w1, w2, ?_⟩, w3, z0, z1, z2, by rw [gg 2 _ (by decide) (by decide), ← e1]; exact g6, by rw [gg 3 _ (by decide) (by decide), ← e1]; exact g7, cc⟩
  rw [show s4 187 = b 187 from funext cc]
  exact hb.2.2.2.2.of z0 z2
theorem u_removeEdge {n : Nat} {b a s : Sto} {x : Int} (hx : 0 ≤ x ∧ x < b 1 1) (hb : OK b) (E : Eqv b s) (hi : Ah a s) : K_Cg_removeEdge n x s (fun r s' => Ah a s' ∧ r = b 1 1 - 1 ∧ OK s' ∧ NewG s' ∧ s' 1 0 = b 1 0 ∧ s' 1 1 = b 1 1 - 1 ∧ s' 1 2 = b 1 2 ∧ ∀ v, s' 187 v = b 187 v) := by
  have hs := E.ok hb
  obtain ⟨hR, _⟩ := R_ed hb hx
  have e0 := E.g 1 0 (by decide) (by decide)
  have e1 := E.g 1 1 (by decide) (by decide)
  have e2 := E.g 1 2 (by decide) (by decide)
  have hm14 := hb.2.1
  refine e_Cg_removeEdge ⟨_, k_edge hR hb E hi, ?_⟩
  rintro r s1 ⟨E1, hi1, rfl, f⟩
  refine ⟨by omega, fun _ => ⟨_, k_Gr_drop hs.1 (by omega), ?_⟩, fun z => absurd z (by omega)⟩
  rintro s3 ⟨g1, g2, g3, g4, g5, g8⟩
  refine ⟨_, k_forget, ?_⟩
  rintro s4 ⟨w1, w2, w3, w4⟩
  have gg : ∀ k i, 1 ≤ k → k ≤ 13 → s4 k i = s3 k i := fun k i h1 h2 => w4 k i (by omega) (by omega)
  have cc : ∀ v, s4 187 v = b 187 v := fun v => by rw [w4 187 v (by decide) (by decide), g8 187 v (by omega), E.c]
  have z0 : s4 1 0 = b 1 0 := by rw [gg 1 0 (by decide) (by decide), g2, e0]
  have z1 : s4 1 1 = b 1 1 - 1 := by rw [gg 1 1 (by decide) (by decide), g4, e1]
  have z2 : s4 1 2 = b 1 2 := by rw [gg 1 2 (by decide) (by decide), g3, e2]
  refine ⟨hi.sc (fun k i hk => by rw [w4 k i (by omega) (by omega), g8 k i (by omega)]), z1, ⟨g1.of gg, by omega, w1, w2, ?_⟩, w3, z0, z1, z2, cc⟩
  rw [show s4 187 = b 187 from funext cc]
  exact hb.2.2.2.2.of z0 z2
theorem u_setSink {n : Nat} {b a s : Sto} {x : Int} (hx : 0 ≤ x ∧ x < b 1 0) (hb : OK b) (E : Eqv b s) (hi : Ah a s) : K_Cg_setSink n x s (fun r s' => Ah a s' ∧ r = b 1 2 ∧ OK s' ∧ s' 1 0 = b 1 0 ∧ s' 1 1 = b 1 1 ∧ s' 1 2 = x ∧ (∀ i, i < 3 → s' 32 i = 0 ∨ s' 32 i = b 32 i)) := by
  have hs := E.ok hb
  have hR := R_nd hb hx
  have q1 := hR
  unfold R32 at q1
  have e0 := E.g 1 0 (by decide) (by decide)
  have e1 := E.g 1 1 (by decide) (by decide)
  have e2 := E.g 1 2 (by decide) (by decide)
  have hk := hb.1.2.2.1
  have hn := hb.1.1
  refine e_Cg_setSink ⟨_, k_node hR hb E hi, ?_⟩
  rintro r s1 ⟨E1, hi1, rfl, f⟩
  refine ⟨by omega, fun _ => ⟨⟨q1, by omega⟩, fun z => ⟨hi1, e2, hs, e0, e1, by omega, fun i _ => Or.inr (E 32 i (by omega))⟩, fun z s2 h2 => ⟨by omega, fun s3 h3 => ⟨_, k_forget, ?_⟩⟩⟩, fun z => absurd z (by omega)⟩
  rintro s4 ⟨w1, w2, w3, w4⟩
  have v : ∀ k i, k ≠ 17 → k ≠ 32 → k ≠ 187 → (k ≠ 1 ∨ i ≠ 2) → s4 k i = s1 k i := fun k i h4 h5 h6 h7 => by
    rw [w4 k i h4 h5, h3, up_k h6, h2]
    unfold up
    rw [if_neg (by omega)]
  have z2 : s4 1 2 = x := by rw [w4 1 2 (by decide) (by decide), h3, up_k (by decide), h2, up_eq]
  have z0 : s4 1 0 = b 1 0 := by rw [v 1 0 (by decide) (by decide) (by decide) (by decide), e0]
  have z1 : s4 1 1 = b 1 1 := by rw [v 1 1 (by decide) (by decide) (by decide) (by decide), e1]
  have hW : WG s4 := by
    obtain ⟨p1, p2, p3, p4, p5, p6⟩ := hs.1
    have f2 : s4 2 = s1 2 := funext fun i => v 2 i (by decide) (by decide) (by decide) (by omega)
    have f3 : s4 3 = s1 3 := funext fun i => v 3 i (by decide) (by decide) (by decide) (by omega)
    unfold WG
    rw [f2, f3, z0, z1, z2]
    rw [e0] at p4
    rw [e1] at p4 p5 p6
    exact ⟨hn, hb.1.2.1, hx, p4, fun u w hu hw => by rw [v (5 + u) w (by omega) (by omega) (by omega) (by omega)]; exact p5 u w hu hw, fun u hu => by rw [v 13 u (by omega) (by omega) (by omega) (by omega)]; exact p6 u hu⟩
  have cc : ∀ u, s4 187 u = if u = x.toNat then 0 else b 187 u := fun u => by
    rw [w4 187 u (by decide) (by decide), h3]
    by_cases c : u = x.toNat
    · rw [if_pos c, c, up_eq]
    · rw [if_neg c, up_i c, h2, up_k (by decide), E.c]
  refine ⟨hi.sc (fun k i hk => v k i (by omega) (by omega) (by omega) (by omega)), e2, ⟨hW, by rw [z1]; exact hb.2.1, w1, w2, fun u hu => ?_, fun u hu hz => ?_⟩, z0, z1, z2, fun i hi => Or.inl (w3.2 i hi)⟩
  · rw [cc]; split
    · decide
    · exact ch_R hb u hu
  · rw [cc]
    by_cases c : u = x.toNat
    · exact if_pos c
    · rw [if_neg c]
      exact hb.2.2.2.2.2 u hu (by omega)
