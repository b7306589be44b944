/-! the law's settling: its head -/
theorem st_181 {b q : Sto} {x1 : Int} {f : Nat → Int} (hb : OK b) (hT : sumN 8 (b 187) ≤ 2000) (hC : Conn b) (hf : Stl (Jm b) (nK b) (nN b) (b 187) f) (hB : sumN (nN b) f ≤ 112000) (E : Eqv b q) (h0 : ∀ v, v < 8 → q 190 v = b 187 v) (h1 : ∀ v, v < nN b → q 191 v = f v) : H_La_settles_181 3 (Qs b) x1 (b 1 0) (b 1 2) 0 q := by
  have hn := hb.1.1
  have n8 := nN_8 hb
  have eN : ((nN b : Nat) : Int) = b 1 0 := by show (((b 1 0).toNat : Nat) : Int) = _; omega
  refine loop_inv (α := Sto) (N := nN b) (fun j p => Eqv b p ∧ (∀ v, v < 8 → p 190 v = b 187 v) ∧ (∀ v, v < nN b → p 191 v = f v) ∧ ∀ v, v < j → p 192 v = b 187 v - lap (Jm b) (nN b) f v) (fun j p => H_La_settles_181 3 (Qs b) x1 (b 1 0) (b 1 2) j p) (fun j p hj hI ih => ?_) (fun p hI => ?_) 0 q (by omega) ⟨E, h0, h1, fun v hv => absurd hv (by omega)⟩
  · obtain ⟨E, h0, h1, h2⟩ := hI
    have hi := Ah.refl p
    refine b_La_settles_181 ⟨by omega, fun z => absurd z (by omega), fun _ => ⟨by omega, by omega, _, q_degree (by omega) hb E hi, ?_⟩⟩
    rintro _ s1 ⟨E, hi, rfl⟩
    rw [toNat_n, h0 j (by omega), h1 j hj]
    refine loop_inv (α := Int × Sto) (N := nN b) (fun w x => Eqv b x.2 ∧ Ah p x.2 ∧ x.1 = b 187 j - f j * dgr (Jm b) (nN b) j + sumN w (fun w => f w * Jm b j w)) (fun w x => H_La_settles_210 3 (Qs b) x1 (b 1 0) (b 1 2) j x.1 w x.2) (fun w x hw hI ih2 => ?_) (fun x hI => ?_) 0 (_, s1) (by omega) ⟨E, hi, (Int.add_zero _).symm⟩
    · obtain ⟨x8, q⟩ := x
      obtain ⟨E, hi, h8⟩ := hI
      dsimp only at E hi h8 ⊢
      refine b_La_settles_210 ⟨by omega, fun z => absurd z (by omega), fun _ => ⟨by omega, _, la_joins hj hw hb E hi, ?_⟩⟩
      rintro _ s2 ⟨E, hi2, rfl⟩
      rw [toNat_n, hi 191 w (by decide), h1 w hw, nat_suc]
      exact ih2 (_, s2) ⟨E, hi2, by dsimp only; rw [h8]; exact Int.add_assoc _ _ _⟩
    · obtain ⟨x8, q⟩ := x
      obtain ⟨E, hi, h8⟩ := hI
      dsimp only at E hi h8 ⊢
      refine b_La_settles_210 ⟨by omega, fun _ => ⟨by omega, fun s3 e3 => ?_⟩, fun z => absurd z (by omega)⟩
      rw [toNat_n] at e3
      rw [nat_suc]
      refine ih s3 ⟨E.up (by decide) e3, fun v hv => by rw [e3, up_k (by decide), hi 190 v (by decide)]; exact h0 v hv, fun v hv => by rw [e3, up_k (by decide), hi 191 v (by decide)]; exact h1 v hv, fun v hv => ?_⟩
      rw [e3]
      by_cases c : v = j
      · rw [c, up_eq, h8, lap_its]
      · rw [up_i c, hi 192 v (by decide)]; exact h2 v (by omega)
  · obtain ⟨E, h0, h1, h2⟩ := hI
    refine b_La_settles_181 ⟨by omega, fun _ s4 e4 => ?_, fun z => absurd z (by omega)⟩
    subst e4
    exact st_269 hb hT hC hf hB 61 _ 0 (by decide) (by decide) (by decide) (StI.zero hb E) (fun v hv => by rw [zr_ne (by decide)]; exact h1 v hv) (fun v hv _ => by rw [zr_ne (by decide)]; exact h2 v hv)
theorem st_145 {b q : Sto} {x1 : Int} {f : Nat → Int} (hb : OK b) (hT : sumN 8 (b 187) ≤ 2000) (hC : Conn b) (hf : Stl (Jm b) (nK b) (nN b) (b 187) f) (hB : sumN (nN b) f ≤ 112000) (E : Eqv b q) (h0 : ∀ v, v < 8 → q 190 v = b 187 v) : H_La_settles_145 3 (Qs b) x1 (b 1 0) (b 1 2) 0 q := by
  have hn := hb.1.1
  have hk := hb.1.2.2.1
  have n8 := nN_8 hb
  have eN : ((nN b : Nat) : Int) = b 1 0 := by show (((b 1 0).toNat : Nat) : Int) = _; omega
  have eK : ((nK b : Nat) : Int) = b 1 2 := by show (((b 1 2).toNat : Nat) : Int) = _; omega
  refine loop_inv (α := Sto) (N := nN b) (fun j p => Eqv b p ∧ (∀ v, v < 8 → p 190 v = b 187 v) ∧ ∀ v, v < j → p 191 v = f v) (fun j p => H_La_settles_145 3 (Qs b) x1 (b 1 0) (b 1 2) j p) (fun j p hj hI ih => ?_) (fun p hI => ?_) 0 q (by omega) ⟨E, h0, fun v hv => absurd hv (by omega)⟩
  · obtain ⟨E, h0, h1⟩ := hI
    have hi := Ah.refl p
    have nx : ∀ p' p'', Eqv b p' → Ah p p' → p'' = up p' 191 j (f j) → H_La_settles_145 3 (Qs b) x1 (b 1 0) (b 1 2) ((j + 1 : Nat) : Int) p'' := fun p' p'' E hi e => by
      refine ih p'' ⟨E.up (by decide) e, fun v hv => by rw [e, up_k (by decide), hi 190 v (by decide)]; exact h0 v hv, fun v hv => ?_⟩
      rw [e]
      by_cases c : v = j
      · rw [c, up_eq]
      · rw [up_i c, hi 191 v (by decide)]; exact h1 v (by omega)
    refine b_La_settles_145 ⟨by omega, fun z => absurd z (by omega), fun _ => ⟨by omega, fun z => ⟨_, q_firings hf hC (by omega) hb E hi, ?_⟩, fun z => ⟨by omega, fun s2 e2 => ?_⟩⟩⟩
    · rintro _ s1 ⟨E, hi, rfl⟩
      rw [toNat_n, nat_suc]
      exact ⟨by omega, fun s2 e2 => nx s1 s2 E hi e2⟩
    · rw [toNat_n] at e2
      rw [nat_suc]
      refine nx p s2 E hi ?_
      rw [e2, show j = nK b by omega, hf.2.1]
  · obtain ⟨E, h0, h1⟩ := hI
    exact b_La_settles_145 ⟨by omega, fun _ => st_181 hb hT hC hf hB E h0 h1, fun z => absurd z (by omega)⟩
theorem la_settles {b s : Sto} {x : Int} (hT : sumN 8 (b 187) ≤ 2000) (hb : OK b) (E : Eqv b s) : K_La_settles 0 x s (Qs b) := by
  have hn := hb.1.1
  have hk := hb.1.2.2.1
  have hi := Ah.refl s
  refine e_La_settles ?_
  refine ⟨_, q_value0 hb E hi, ?_⟩
  rintro _ s ⟨E, hi, rfl⟩
  refine ⟨_, q_value2 hb E hi, ?_⟩
  rintro _ s ⟨E, hi, rfl⟩
  intro s11 e11 s12 e12 s13 e13
  have E : Eqv b s13 := E.sc (fun k i h => by rw [e13, zr_ne (by omega), e12, zr_ne (by omega), e11, zr_ne (by omega)])
  refine ⟨_, la_read (arX (by decide) (by decide)) (by decide) hb E (Ah.refl s13), ?_⟩
  rintro s16 ⟨E, h1, h2⟩
  have hi := Ah.refl s16
  refine ⟨_, q_value3 hb E hi, ?_⟩
  rintro _ s ⟨E, hi, rfl⟩
  have iC := ind_01 (Conn b)
  refine ⟨by omega, fun z => ?_, fun z => ?_⟩
  · have hC : Conn b := Classical.byContradiction fun y => z (ind_f y)
    obtain ⟨f, hf, hB⟩ := stl_ex (B := 2000) (by decide) (by decide) hb.1 hC ⟨fun v hv => (ch_R hb v hv).1, hb.2.2.2.2.2, hT⟩
    exact st_145 hb hT hC hf hB E (fun v hv => by rw [hi 190 v (by decide)]; exact h2 v hv)
  · have nc : ¬ Conn b := fun y => by rw [ind_t y] at z; cases z
    have k := kind_i (StbB b) (RecB b) (SupB b)
    have nr : ¬ RecB b := fun y => nc y.1
    refine ⟨_, q_stabilize_no nc hb E hi, ?_⟩
    rintro _ s ⟨E, hi, rfl⟩
    refine ⟨by decide, fun z => absurd rfl z, fun _ => ?_⟩
    refine ⟨_, q_reduce_no nc hb E hi, ?_⟩
    rintro _ s ⟨E, hi, rfl⟩
    refine ⟨by decide, fun z => absurd rfl z, fun _ => ?_⟩
    refine ⟨_, q_makeRecurrent_no nc hb E hi, ?_⟩
    rintro _ s ⟨E, hi, rfl⟩
    refine ⟨by decide, fun z => absurd rfl z, fun _ => ?_⟩
    refine ⟨_, q_order_no nc hb E hi, ?_⟩
    rintro _ s ⟨E, hi, rfl⟩
    refine ⟨by decide, fun z => absurd rfl z, fun _ => ?_⟩
    refine ⟨_, q_treeCount hb E hi, ?_⟩
    rintro _ s ⟨E, hi, rfl⟩
    rw [trs_zero hb.1 nc]
    refine ⟨by decide, fun z => absurd rfl z, fun _ => ?_⟩
    refine ⟨_, q_kind hb E hi, ?_⟩
    rintro _ s ⟨E, hi, rfl⟩
    rw [k.2.2.2.2, ind_f nr, ind_f (fun y : SupB b => nc y.1)]
    refine ⟨by decide, fun z => absurd rfl z, fun _ => ?_⟩
    refine ⟨_, q_factor_no (by unfold R32; omega) (Or.inr nc) hb E hi, ?_⟩
    rintro _ s ⟨E, hi, rfl⟩
    refine ⟨by decide, fun z => absurd z (by decide), fun _ => ?_⟩
    refine ⟨_, q_levelCount (by unfold R32; omega) hb E hi, ?_⟩
    rintro _ s ⟨E, hi, -, g, -⟩
    rw [g (by decide) nc]
    refine ⟨by decide, fun z => absurd rfl z, fun _ => ?_⟩
    refine ⟨_, q_tree_no nr hb E hi, ?_⟩
    rintro _ s ⟨E, hi, rfl⟩
    exact ⟨by decide, fun z => absurd rfl z, fun _ => ⟨rfl, E.same, E.ok hb, fun y => absurd y nc⟩⟩
