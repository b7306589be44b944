/-! the law's small methods -/
theorem iand_max (x : Int) : 0 ≤ iand x 2147483647 ∧ iand x 2147483647 < 2147483648 := by
  unfold iand
  have e : Int32.ofInt 2147483647 = nI 2147483647 := rfl
  rw [e]
  have h1 : (Int32.ofInt x &&& nI 2147483647).toBitVec.toNat ≤ 2147483647 := by
    rw [Int32.toBitVec_and, BitVec.toNat_and]
    exact Nat.and_le_right
  generalize Int32.ofInt x &&& nI 2147483647 = y at *
  have h2 : y.toInt = ((y.toBitVec.toNat : Nat) : Int) := by
    show y.toBitVec.toInt = _
    exact BitVec.toInt_eq_toNat_of_lt (by omega)
  rw [h2]
  omega
theorem la_low {n : Nat} {x m : Int} {s : Sto} (hm : 0 < m ∧ m < 2147483648) : K_La_low n x m s (fun r s' => s' = s ∧ 0 ≤ r ∧ r < m) := by
  have h := iand_max x
  refine e_La_low ⟨⟨⟨by omega, by omega⟩, by omega⟩, rfl, ?_⟩
  rw [Int.tmod_eq_emod_of_nonneg h.1]
  exact ⟨Int.emod_nonneg _ (by omega), Int.emod_lt_of_pos _ hm.1⟩
/-- one array of the law's own has changed -/
def Ah1 (k : Nat) (a s : Sto) : Prop := ∀ k' i, 190 ≤ k' → k' ≠ k → s k' i = a k' i
theorem Ah.up {a s s' : Sto} {k i : Nat} {x : Int} (hi : Ah a s) (e : s' = up s k i x) : Ah1 k a s' := fun k' i' h h2 => by rw [e, up_k h2]; exact hi k' i' h
theorem Ah1.up {a s s' : Sto} {k i : Nat} {x : Int} (hi : Ah1 k a s) (e : s' = up s k i x) : Ah1 k a s' := fun k' i' h h2 => by rw [e, up_k h2]; exact hi k' i' h h2
theorem Ah1.q {a s s' : Sto} {k : Nat} (hi : Ah1 k a s) (h : Ah s s') : Ah1 k a s' := fun k' i' h1 h2 => (h k' i' h1).trans (hi k' i' h1 h2)
theorem Ah.trans {a s s' : Sto} (hi : Ah a s) (h : Ah s s') : Ah a s' := fun k' i' h1 => (h k' i' h1).trans (hi k' i' h1)
theorem la_read {n k : Nat} (hk : ar (SL n) k 1 8) (hkk : 190 ≤ k) {b a s : Sto} (hb : OK b) (E : Eqv b s) (hi : Ah a s) : K_La_read n k s (fun s' => Eqv b s' ∧ Ah1 k a s' ∧ ∀ v, v < 8 → s' k v = b 187 v) := by
  have hn := hb.1.1
  have hkk2 := hb.1.2.2.1
  refine e_La_read hk ?_
  refine loop_inv (α := Sto) (N := 8) (fun j q => Eqv b q ∧ Ah1 k a q ∧ ∀ v, v < j → q k v = b 187 v) (fun j q => H_La_read_2 n _ k j q) (fun j q hj hI ih => ?_) (fun q hI => ?_) 0 s (by omega) ⟨E, fun k' i h _ => hi k' i h, fun v hv => absurd hv (by omega)⟩
  · obtain ⟨E, h1, h2⟩ := hI
    have hi := Ah.refl q
    have next : ∀ q' q'', Eqv b q' → Ah q q' → q'' = up q' k j (b 187 j) → H_La_read_2 n (fun s' => Eqv b s' ∧ Ah1 k a s' ∧ ∀ v, v < 8 → s' k v = b 187 v) k ((j + 1 : Nat) : Int) q'' := fun q' q'' E' hi' e => by
      refine ih q'' ⟨E'.up hkk e, (h1.q hi').up e, fun v hv => ?_⟩
      rw [e]
      by_cases c : v = j
      · rw [c, up_eq]
      · rw [up_i c, hi' k v hkk]; exact h2 v (by omega)
    refine b_La_read_2 hk ⟨by omega, fun z => absurd z (by omega), fun _ => ⟨_, q_value0 hb E hi, ?_⟩⟩
    rintro _ q1 ⟨E1, hi1, rfl⟩
    rw [nat_suc, toNat_n]
    refine ⟨by omega, fun z => ⟨by omega, fun q2 e => ?_⟩, fun z => ⟨_, q_value2 hb E1 hi1, ?_⟩⟩
    · rw [← hb.2.2.2.2.2 j hj (Or.inr z)] at e
      exact next q1 q2 E1 hi1 e
    · rintro _ q2 ⟨E2, hi2, rfl⟩
      refine ⟨by omega, fun y => ⟨by omega, fun q3 e => ?_⟩, fun y => ⟨_, q_chips (by omega) hb E2 hi2, ?_⟩⟩
      · rw [← hb.2.2.2.2.2 j hj (Or.inl y)] at e
        exact next q2 q3 E2 hi2 e
      · rintro _ q3 ⟨E3, hi3, rfl⟩
        exact ⟨by omega, fun q4 e => next q3 q4 E3 hi3 (by rw [toNat_n] at e; exact e)⟩
  · obtain ⟨E, h1, h2⟩ := hI
    exact b_La_read_2 hk ⟨by omega, fun _ => ⟨E, h1, h2⟩, fun z => absurd z (by omega)⟩
theorem la_are {n k : Nat} (hk : ar (SL n) k 1 8) (hkk : 190 ≤ k) {b a s : Sto} (hR : ∀ v, v < nN b → v ≠ nK b → R32 (a k v)) (hb : OK b) (E : Eqv b s) (hi : Ah a s) : K_La_are n k s (fun r s' => Eqv b s' ∧ Ah a s' ∧ r = ind (∀ v, v < nN b → v ≠ nK b → b 187 v = a k v)) := by
  have hn := hb.1.1
  have hk2 := hb.1.2.2.1
  refine e_La_are hk ?_
  refine loop_inv (α := Sto) (N := nN b) (fun j q => Eqv b q ∧ Ah a q ∧ ∀ v, v < j → v ≠ nK b → b 187 v = a k v) (fun j q => H_La_are_2 n _ k j q) (fun j q hj hI ih => ?_) (fun q hI => ?_) 0 s (by omega) ⟨E, hi, fun v hv => absurd hv (by omega)⟩
  · obtain ⟨E, hi, h2⟩ := hI
    have hj2 : j < (b 1 0).toNat := hj
    refine b_La_are_2 hk ⟨_, q_value0 hb E hi, ?_⟩
    rintro _ q1 ⟨E1, hi1, rfl⟩
    rw [nat_suc, toNat_n]
    refine ⟨by omega, fun z => absurd z (by omega), fun z => ⟨_, q_value2 hb E1 hi1, ?_⟩⟩
    rintro _ q2 ⟨E2, hi2, rfl⟩
    refine ⟨by omega, fun y => ih q2 ⟨E2, hi2, fun v hv hvk => h2 v ?_ hvk⟩, fun y => ⟨_, q_chips (by omega) hb E2 hi2, ?_⟩⟩
    · have : v ≠ (b 1 2).toNat := hvk
      omega
    · rintro _ q3 ⟨E3, hi3, rfl⟩
      rw [toNat_n, hi3 k j hkk]
      refine ⟨by omega, ⟨R_ch hb j (by omega), hR j hj (by show j ≠ (b 1 2).toNat; omega)⟩, fun w => ih q3 ⟨E3, hi3, fun v hv hvk => ?_⟩, fun w => ⟨E3, hi3, (ind_f (fun u => w (u j hj (by show j ≠ (b 1 2).toNat; omega)))).symm⟩⟩
      by_cases c : v = j
      · rw [c]; exact w
      · exact h2 v (by omega) hvk
  · obtain ⟨E, hi, h2⟩ := hI
    have eN : ((nN b : Nat) : Int) = b 1 0 := by show (((b 1 0).toNat : Nat) : Int) = _; omega
    refine b_La_are_2 hk ⟨_, q_value0 hb E hi, ?_⟩
    rintro _ q1 ⟨E1, hi1, rfl⟩
    exact ⟨by omega, fun _ => ⟨E1, hi1, (ind_t h2).symm⟩, fun z => absurd z (by omega)⟩
theorem la_sumOf {n k : Nat} (hk : ar (SL n) k 1 8) (hkk : 190 ≤ k) {b a s : Sto} (hb : OK b) (E : Eqv b s) (hi : Ah a s) : K_La_sumOf n k s (fun r s' => Eqv b s' ∧ Ah a s' ∧ r = sumN 8 (a k)) := by
  refine e_La_sumOf hk ?_
  refine loop_inv (α := Int) (N := 8) (fun j x => x = sumN j (a k)) (fun j x => H_La_sumOf_4 n _ k x j s) (fun j x hj hI ih => ?_) (fun x hI => ?_) 0 0 (by omega) rfl
  · refine b_La_sumOf_4 hk ⟨by omega, fun z => absurd z (by omega), fun _ => ⟨by omega, ?_⟩⟩
    rw [nat_suc, toNat_n, hi k j hkk]
    exact ih _ (by rw [hI]; rfl)
  · exact b_La_sumOf_4 hk ⟨by omega, fun _ => ⟨E, hi, hI⟩, fun z => absurd z (by omega)⟩
theorem la_joins {n u v : Nat} {b a s : Sto} (hu : u < nN b) (hv : v < nN b) (hb : OK b) (E : Eqv b s) (hi : Ah a s) : K_La_joins n u v s (fun r s' => Eqv b s' ∧ Ah a s' ∧ r = Jm b u v) := by
  have hn := hb.1.1
  have hm := hb.1.2.1
  have hu2 : u < (b 1 0).toNat := hu
  have hv2 : v < (b 1 0).toNat := hv
  refine e_La_joins ?_
  refine loop_inv (α := Int × Sto) (N := (b 1 1).toNat) (fun j p => Eqv b p.2 ∧ Ah a p.2 ∧ p.1 = jn (b 2) (b 3) j u v) (fun j p => H_La_joins_5 n _ u v p.1 j p.2) (fun j p hj hI ih => ?_) (fun p hI => ?_) 0 (0, s) (by omega) ⟨E, hi, rfl⟩
  · obtain ⟨x, q⟩ := p
    obtain ⟨E, hi, h3⟩ := hI
    dsimp only at E hi h3 ⊢
    have hF := hb.1.2.2.2.1 j (by omega)
    refine b_La_joins_5 ⟨_, q_value1 hb E hi, ?_⟩
    rintro _ q1 ⟨E1, hi1, rfl⟩
    rw [nat_suc]
    refine ⟨by omega, fun z => absurd z (by omega), fun z => ⟨_, q_edge0 (by omega) hb E1 hi1, ?_⟩⟩
    rintro _ q2 ⟨E2, hi2, rfl⟩
    refine ⟨_, q_edge1 (by omega) hb E2 hi2, ?_⟩
    rintro _ q3 ⟨E3, hi3, rfl⟩
    rw [toNat_n]
    have e : jn (b 2) (b 3) (j + 1) u v = x + jnE (b 2) (b 3) u v j := by rw [jn_suc, h3]
    have yes : (b 2 j = u ∧ b 3 j = v) ∨ (b 2 j = v ∧ b 3 j = u) → H_La_joins_5 n (fun r s' => Eqv b s' ∧ Ah a s' ∧ r = Jm b u v) u v (x + 1) ((j + 1 : Nat) : Int) q3 := fun z => ih (x + 1, q3) ⟨E3, hi3, by rw [e]; unfold jnE; rw [if_pos z]⟩
    have no : ¬ ((b 2 j = u ∧ b 3 j = v) ∨ (b 2 j = v ∧ b 3 j = u)) → H_La_joins_5 n (fun r s' => Eqv b s' ∧ Ah a s' ∧ r = Jm b u v) u v (x + 0) ((j + 1 : Nat) : Int) q3 := fun z => ih (x + 0, q3) ⟨E3, hi3, by rw [e]; unfold jnE; rw [if_neg z]⟩
    refine ⟨¬ (b 2 j = u ∧ b 3 j = v), fun z1 => ⟨⟨by omega, by omega⟩, fun z2 => no (by omega), fun z2 => ⟨⟨by omega, by omega⟩, fun z3 => no (by omega), fun z3 => yes (by omega)⟩⟩, ⟨by omega, by omega⟩, fun z1 => by omega, fun z1 => ⟨⟨by omega, by omega⟩, fun z2 => yes (by omega), fun z2 => by omega⟩⟩
  · obtain ⟨x, q⟩ := p
    obtain ⟨E, hi, h3⟩ := hI
    dsimp only at E hi h3 ⊢
    refine b_La_joins_5 ⟨_, q_value1 hb E hi, ?_⟩
    rintro _ q1 ⟨E1, hi1, rfl⟩
    exact ⟨by omega, fun _ => ⟨E1, hi1, by rw [h3]; exact (hb.1.2.2.2.2.1 u v (by omega) (by omega)).symm⟩, fun z => absurd z (by omega)⟩
/-- the graph and the slots are the same -/
def SameG (b s' : Sto) : Prop := ∀ k i, (1 ≤ k ∧ k ≤ 13) ∨ (31 ≤ k ∧ k ≤ 36) → s' k i = b k i
theorem SameG.refl (b : Sto) : SameG b b := fun _ _ _ => rfl
theorem SameG.trans {b c d : Sto} (h : SameG b c) (h' : SameG c d) : SameG b d := fun k i hk => (h' k i hk).trans (h k i hk)
theorem SameG.g {b s' : Sto} (h : SameG b s') : ∀ k i, 1 ≤ k → k ≤ 13 → s' k i = b k i := fun k i h1 h2 => h k i (Or.inl ⟨h1, h2⟩)
theorem UpP.same {b s' : Sto} (h : UpP b s') : SameG b s' := h.1
theorem Eqv.same {b s' : Sto} (h : Eqv b s') : SameG b s' := fun k i hk => h k i (by omega)
theorem SameG.N {b s : Sto} (h : SameG b s) : nN s = nN b := by show (s 1 0).toNat = _; rw [h.g 1 0 (by decide) (by decide)]
theorem SameG.K {b s : Sto} (h : SameG b s) : nK s = nK b := by show (s 1 2).toNat = _; rw [h.g 1 2 (by decide) (by decide)]
theorem SameG.J {b s : Sto} (h : SameG b s) (hb : OK b) : ∀ v w, v < nN b → w < nN b → Jm s v w = Jm b v w := Jm_of hb.1.1 h.g
theorem SameG.conn {b s : Sto} (h : SameG b s) : Conn s ↔ Conn b := ⟨fun c => c.of (fun k i h1 h2 => (h.g k i h1 h2).symm), fun c => c.of h.g⟩
theorem la_lay {n k : Nat} (hk : ar (SL n) k 1 8) (hkk : 190 ≤ k) {b a s : Sto} (hc : ∀ v, v < nN b → v ≠ nK b → 0 ≤ a k v ∧ a k v ≤ 1000) (hb : OK b) (E : Eqv b s) (hi : Ah a s) : K_La_lay n k s (fun s' => SameG b s' ∧ Ah a s' ∧ OK s' ∧ ∀ v, v < nN b → v ≠ nK b → s' 187 v = a k v) := by
  have hn := hb.1.1
  have hk2 := hb.1.2.2.1
  refine e_La_lay hk ?_
  refine loop_inv (α := Sto) (N := nN b) (fun j q => SameG b q ∧ Ah a q ∧ OK q ∧ ∀ v, v < j → v ≠ nK b → q 187 v = a k v) (fun j q => H_La_lay_2 n _ k j q) (fun j q hj hI ih => ?_) (fun q hI => ?_) 0 s (by omega) ⟨E.same, hi, E.ok hb, fun v hv => absurd hv (by omega)⟩
  · obtain ⟨hS, hi, hq, h2⟩ := hI
    have hj2 : j < (b 1 0).toNat := hj
    have e0 := hS.g 1 0 (by decide) (by decide)
    have e2 := hS.g 1 2 (by decide) (by decide)
    refine b_La_lay_2 hk ⟨_, q_value0 hq (Eqv.refl q) hi, ?_⟩
    rintro _ q1 ⟨E1, hi1, rfl⟩
    rw [nat_suc, toNat_n]
    refine ⟨by omega, fun z => absurd z (by omega), fun z => ⟨_, q_value2 hq E1 hi1, ?_⟩⟩
    rintro _ q2 ⟨E2, hi2, rfl⟩
    refine ⟨by omega, fun y => ih q2 ⟨hS.trans E2.same, hi2, E2.ok hq, fun v hv hvk => ?_⟩, fun y => ⟨by omega, ?_⟩⟩
    · have : v ≠ (b 1 2).toNat := hvk
      rw [E2.c]
      exact h2 v (by omega) hvk
    · have hjk : j ≠ nK b := by show j ≠ (b 1 2).toNat; omega
      have cj := hc j hj hjk
      rw [hi2 k j hkk]
      refine ⟨_, u_setChips (by omega) cj hq E2 hi2, ?_⟩
      rintro r q3 ⟨U, hi3, _, v3⟩
      rw [toNat_n] at v3
      have ok3 : OK q3 := by
        refine U.ok hq ?_
        rw [show q3 187 = fu (q 187) j (a k j) from funext v3]
        exact (fu_ChB hq.2.2.2.2 (by omega) (by omega)).of (U.g 1 0 (by decide) (by decide)) (U.g 1 2 (by decide) (by decide))
      refine ih q3 ⟨hS.trans U.same, hi3, ok3, fun v hv hvk => ?_⟩
      rw [v3]
      unfold fu
      by_cases c : v = j
      · rw [if_pos c, c]
      · rw [if_neg c]; exact h2 v (by omega) hvk
  · obtain ⟨hS, hi, hq, h2⟩ := hI
    have e0 := hS.g 1 0 (by decide) (by decide)
    have eN : ((nN b : Nat) : Int) = b 1 0 := by show (((b 1 0).toNat : Nat) : Int) = _; omega
    refine b_La_lay_2 hk ⟨_, q_value0 hq (Eqv.refl q) hi, ?_⟩
    rintro _ q1 ⟨E1, hi1, rfl⟩
    exact ⟨by omega, fun _ => ⟨hS.trans E1.same, hi1, E1.ok hq, fun v hv hvk => by rw [E1.c]; exact h2 v hv hvk⟩, fun z => absurd z (by omega)⟩
