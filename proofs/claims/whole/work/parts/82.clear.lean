/-! the machine's diagonal form: clearing a column, a row -/
theorem mul_small {y c : Int} (hy : 0 ≤ y ∧ y < 500000) (hc : 0 ≤ c ∧ c < 500000) : 0 ≤ y * c ∧ y * c ≤ 250000000000 := by
  have a := Int.mul_nonneg hy.1 hc.1
  have b : y * c ≤ 500000 * 500000 := Int.mul_le_mul (by omega) (by omega) hc.1 (by decide)
  omega
theorem tdiv_bd {x p : Int} (hx : 0 ≤ x ∧ x < 500000) (hp : 0 < p) : Int.tdiv x p = x / p ∧ 0 ≤ x / p ∧ x / p < 500000 := by
  refine ⟨Int.tdiv_eq_ediv_of_nonneg hx.1, Int.ediv_nonneg hx.1 (by omega), ?_⟩
  have := Int.ediv_le_self p hx.1
  omega
/-- what is left of x -/
theorem rest_eq {x p D : Int} (hp : 0 < p) (hpD : p < D) : (x + -(x / p) * p) % D = x % p := by
  have e := Int.emod_add_mul_ediv x p
  have e2 : -(x / p) * p = -(p * (x / p)) := by rw [Int.neg_mul, Int.mul_comm]
  rw [e2, show x + -(p * (x / p)) = x % p by omega]
  exact Int.emod_eq_of_lt (Int.emod_nonneg x (by omega)) (by have := Int.emod_lt_of_pos x hp; omega)
def CcP (N t : Nat) (D g : Int) (s : Sto) (r : Int) (s' : Sto) : Prop := Fr5 t s s' ∧ DgF N D g t (Cf s') ∧ (∀ i j, i ≤ t → j < N → s' (45 + i) j = s (45 + i) j) ∧ (∀ i, t < i → i < N → s' (45 + i) t = s (45 + i) t % s (45 + t) t) ∧ ((r = 1 ∧ ∀ i, t < i → i < N → s' (45 + i) t = 0) ∨ r = 0 ∧ ∃ i, t < i ∧ i < N ∧ s' (45 + i) t ≠ 0) ∧ ((∀ i, t < i → i < N → s (45 + i) t = 0) → ∀ i j, i < N → j < N → s' (45 + i) j = s (45 + i) j) ∧ (∀ i j, i < N → j < N → s' (45 + i) j = if t < i then (s (45 + i) j + -(s (45 + i) t / s (45 + t) t) * s (45 + t) j) % D else s (45 + i) j)
theorem k_Ma_clearColumn {t N : Nat} {D g : Int} {s : Sto} (hN : s 42 4 = (N : Int)) (hN8 : N ≤ 8) (ht : t < N) (hD : 0 < D ∧ D ≤ 500000) (hF : DgF N D g t (Cf s)) (hp : 0 < s (45 + t) t) : K_Ma_clearColumn t D s (CcP N t D g s) := by
  have hp2 : s (45 + t) t < D := (hF.1 t t ht ht).2
  refine e_Ma_clearColumn ⟨by omega, by omega, ?_⟩
  rw [toNat_n]
  generalize hpe : s (45 + t) t = p at *
  refine loop_inv (α := Int × Sto) (N := N) (fun i a => t < i ∧ Fr5 t s a.2 ∧ DgF N D g t (Cf a.2) ∧ (∀ i' j, (i' ≤ t ∨ i ≤ i') → i' < N → j < N → a.2 (45 + i') j = s (45 + i') j) ∧ (∀ i', t < i' → i' < i → a.2 (45 + i') t = s (45 + i') t % p) ∧ ((a.1 = 1 ∧ ∀ i', t < i' → i' < i → a.2 (45 + i') t = 0) ∨ a.1 = 0 ∧ ∃ i', t < i' ∧ i' < i ∧ a.2 (45 + i') t ≠ 0) ∧ ((∀ i, t < i → i < N → s (45 + i) t = 0) → ∀ i j, i < N → j < N → a.2 (45 + i) j = s (45 + i) j) ∧ ∀ i' j, t < i' → i' < i → j < N → a.2 (45 + i') j = (s (45 + i') j + -(s (45 + i') t / p) * s (45 + t) j) % D) (fun i a => H_Ma_clearColumn_18 (CcP N t D g s) t D p a.1 i a.2) (fun i a hi hI ih => ?_) (fun a hI => ?_) (t + 1) (1, s) (by omega) ⟨by omega, Fr5.refl t s, hF, fun _ _ _ _ _ => rfl, fun i' h1 h2 => absurd h2 (by omega), Or.inl ⟨rfl, fun i' h1 h2 => absurd h2 (by omega)⟩, fun _ _ _ _ _ => rfl, fun i' j h1 h2 => absurd h2 (by omega)⟩
  · obtain ⟨x6, q⟩ := a
    obtain ⟨j0, j1, j2, j3, j4, j5, j6, j7⟩ := hI
    dsimp only at j1 j2 j3 j4 j5 j6 j7 ⊢
    have e4 : q 42 4 = (N : Int) := (j1.1 42 4 (by omega)).trans hN
    have qp : q (45 + t) t = p := (j3 t t (by omega) ht ht).trans hpe
    have qi : ∀ j, j < N → 0 ≤ q (45 + i) j ∧ q (45 + i) j < D := fun j hj => j2.1 i j hi hj
    have qt : ∀ j, j < N → 0 ≤ q (45 + t) j ∧ q (45 + t) j < D := fun j hj => j2.1 t j ht hj
    have qit := qi t ht
    obtain ⟨d1, d2, d3⟩ := tdiv_bd (x := q (45 + i) t) (p := p) (by omega) hp
    refine b_Ma_clearColumn_18 ⟨⟨by omega, by omega⟩, fun c => absurd c (by omega), fun _ => ⟨by omega, fun c => absurd c (by omega), fun _ => ⟨by omega, by omega, by rw [toNat_n, toNat_n]; exact ⟨⟨by omega, by omega⟩, by omega⟩, ?_⟩⟩⟩
    rw [toNat_n, toNat_n, d1]
    refine ⟨_, k_Ma_addRow (a := t) (b := i) (t := -(q (45 + i) t / p)) e4 hN8 (by omega) (by omega) (by omega) ⟨hD.1, by omega⟩ (fun j hj => ?_), ?_⟩
    · have m := mul_small (y := q (45 + i) t / p) (c := q (45 + t) j) ⟨d2, d3⟩ (by have := qt j hj; omega)
      have := qi j hj
      rw [Int.neg_mul]
      omega
    · rintro q1 rfl
      have v : ∀ i' j, j < N → wr q (45 + i) (fun j => if j < N then (q (45 + i) j + -(q (45 + i) t / p) * q (45 + t) j) % D else q (45 + i) j) (45 + i') j = if i' = i then (q (45 + i) j + -(q (45 + i) t / p) * q (45 + t) j) % D else q (45 + i') j := fun i' j hj => by
        by_cases c : i' = i
        · rw [c, wr_eq, if_pos hj, if_pos rfl]
        · rw [wr_ne (by omega), if_neg c]
      generalize hq1 : wr q (45 + i) (fun j => if j < N then (q (45 + i) j + -(q (45 + i) t / p) * q (45 + t) j) % D else q (45 + i) j) = q1 at *
      have g1 : DgF N D g t (Cf q1) := j2.row hD.1 (a := t) (b := i) (x := -(q (45 + i) t / p)) ⟨Nat.le_refl t, ht⟩ ⟨by omega, hi⟩ (by omega) (fun i' j hi' hj => v i' j hj)
      have fr : Fr5 t q q1 := ⟨fun k i' hk => by rw [← hq1, wr_ne (by omega)], fun i' hi' => by rw [v i' i' (by omega), if_neg (by omega)]⟩
      have vt : q1 (45 + i) t = s (45 + i) t % p := by
        rw [v i t ht, if_pos rfl, qp, rest_eq hp hp2, j3 i t (Or.inr (Nat.le_refl i)) hi ht]
      have keep : ∀ i' j, (i' ≤ t ∨ i + 1 ≤ i') → i' < N → j < N → q1 (45 + i') j = s (45 + i') j := fun i' j h1 h2 h3 => by
        rw [v i' j h3, if_neg (by omega)]
        exact j3 i' j (by omega) h2 h3
      have col : ∀ i', t < i' → i' < i + 1 → q1 (45 + i') t = s (45 + i') t % p := fun i' h1 h2 => by
        by_cases c : i' = i
        · rw [c]; exact vt
        · rw [v i' t ht, if_neg c]; exact j4 i' h1 (by omega)
      have old : ∀ i', t < i' → i' < i → q1 (45 + i') t = q (45 + i') t := fun i' h1 h2 => by rw [v i' t ht, if_neg (by omega)]
      have same : (∀ i, t < i → i < N → s (45 + i) t = 0) → ∀ i' j, i' < N → j < N → q1 (45 + i') j = s (45 + i') j := fun hz i' j h1 h2 => by
        rw [v i' j h2]
        by_cases c : i' = i
        · have z : q (45 + i) t = 0 := (j6 hz i t hi ht).trans (hz i (by omega) hi)
          have := qi j h2
          rw [if_pos c, z, Int.zero_ediv, Int.neg_zero, Int.zero_mul, Int.add_zero, Int.emod_eq_of_lt this.1 this.2, c]
          exact j6 hz i j hi h2
        · rw [if_neg c]; exact j6 hz i' j h1 h2
      have full : ∀ i' j, t < i' → i' < i + 1 → j < N → q1 (45 + i') j = (s (45 + i') j + -(s (45 + i') t / p) * s (45 + t) j) % D := fun i' j h1 h2 h3 => by
        rw [v i' j h3]
        by_cases c : i' = i
        · rw [if_pos c, c, j3 i j (Or.inr (Nat.le_refl i)) hi h3, j3 i t (Or.inr (Nat.le_refl i)) hi ht, j3 t j (Or.inl (Nat.le_refl t)) ht h3]
        · rw [if_neg c]; exact j7 i' j h1 (by omega) h3
      have bd := g1.1 i t hi ht
      have bd2 : Cf q1 i t = q1 (45 + i) t := rfl
      refine ⟨by omega, by omega, by omega, ?_, ?_⟩
      · rw [nat_suc]
        intro c
        refine ih (x6, q1) ⟨by omega, j1.trans fr, g1, keep, col, ?_, same, full⟩
        rcases j5 with ⟨z1, z2⟩ | ⟨z1, i', z2, z3, z4⟩
        · refine Or.inl ⟨z1, fun i' h1 h2 => ?_⟩
          by_cases d : i' = i
          · rw [d]; exact c
          · show q1 (45 + i') t = 0
            rw [old i' h1 (by omega)]; exact z2 i' h1 (by omega)
        · exact Or.inr ⟨z1, i', z2, by omega, by show q1 (45 + i') t ≠ 0; rw [old i' z2 z3]; exact z4⟩
      · rw [nat_suc]
        intro c
        exact ih (0, q1) ⟨by omega, j1.trans fr, g1, keep, col, Or.inr ⟨rfl, i, by omega, by omega, c⟩, same, full⟩
  · obtain ⟨x6, q⟩ := a
    obtain ⟨j0, j1, j2, j3, j4, j5, j6, j7⟩ := hI
    dsimp only at j1 j2 j3 j4 j5 j6 j7 ⊢
    have e4 : q 42 4 = (N : Int) := (j1.1 42 4 (by omega)).trans hN
    refine b_Ma_clearColumn_18 ⟨⟨by omega, by omega⟩, fun _ => ⟨?_, j1, j2, fun i j h1 h2 => j3 i j (Or.inl h1) (by omega) h2, fun i h1 h2 => by rw [hpe]; exact j4 i h1 h2, j5, j6, fun i j h1 h2 => ?_⟩, fun c => absurd c (by omega)⟩
    · rcases j5 with ⟨z, _⟩ | ⟨z, _⟩
      · exact Or.inr z
      · exact Or.inl z
    · rw [hpe]
      by_cases c : t < i
      · rw [if_pos c]; exact j7 i j c h1 h2
      · rw [if_neg c]; exact j3 i j (Or.inl (by omega)) h1 h2
def CrP (N t : Nat) (D g : Int) (s : Sto) (r : Int) (s' : Sto) : Prop := Fr5 t s s' ∧ DgF N D g t (Cf s') ∧ (∀ i j, j ≤ t → i < N → s' (45 + i) j = s (45 + i) j) ∧ (∀ j, t < j → j < N → s' (45 + t) j = s (45 + t) j % s (45 + t) t) ∧ ((r = 1 ∧ ∀ j, t < j → j < N → s' (45 + t) j = 0) ∨ r = 0 ∧ ∃ j, t < j ∧ j < N ∧ s' (45 + t) j ≠ 0) ∧ (∀ i j, i < N → j < N → s' (45 + i) j = if t < j then (s (45 + i) j + -(s (45 + t) j / s (45 + t) t) * s (45 + i) t) % D else s (45 + i) j)
theorem k_Ma_clearRow {t N : Nat} {D g : Int} {s : Sto} (hN : s 42 4 = (N : Int)) (hN8 : N ≤ 8) (ht : t < N) (hD : 0 < D ∧ D ≤ 500000) (hF : DgF N D g t (Cf s)) (hp : 0 < s (45 + t) t) : K_Ma_clearRow t D s (CrP N t D g s) := by
  have hp2 : s (45 + t) t < D := (hF.1 t t ht ht).2
  refine e_Ma_clearRow ⟨by omega, by omega, ?_⟩
  rw [toNat_n]
  generalize hpe : s (45 + t) t = p at *
  refine loop_inv (α := Int × Sto) (N := N) (fun j a => t < j ∧ Fr5 t s a.2 ∧ DgF N D g t (Cf a.2) ∧ (∀ i j', (j' ≤ t ∨ j ≤ j') → i < N → j' < N → a.2 (45 + i) j' = s (45 + i) j') ∧ (∀ j', t < j' → j' < j → a.2 (45 + t) j' = s (45 + t) j' % p) ∧ ((a.1 = 1 ∧ ∀ j', t < j' → j' < j → a.2 (45 + t) j' = 0) ∨ a.1 = 0 ∧ ∃ j', t < j' ∧ j' < j ∧ a.2 (45 + t) j' ≠ 0) ∧ ∀ i j', t < j' → j' < j → i < N → a.2 (45 + i) j' = (s (45 + i) j' + -(s (45 + t) j' / p) * s (45 + i) t) % D) (fun j a => H_Ma_clearRow_18 (CrP N t D g s) t D p a.1 j a.2) (fun j a hj hI ih => ?_) (fun a hI => ?_) (t + 1) (1, s) (by omega) ⟨by omega, Fr5.refl t s, hF, fun _ _ _ _ _ => rfl, fun i' h1 h2 => absurd h2 (by omega), Or.inl ⟨rfl, fun i' h1 h2 => absurd h2 (by omega)⟩, fun i j' h1 h2 => absurd h2 (by omega)⟩
  · obtain ⟨x6, q⟩ := a
    obtain ⟨j0, j1, j2, j3, j4, j5, j7⟩ := hI
    dsimp only at j1 j2 j3 j4 j5 j7 ⊢
    have e4 : q 42 4 = (N : Int) := (j1.1 42 4 (by omega)).trans hN
    have qp : q (45 + t) t = p := (j3 t t (by omega) ht ht).trans hpe
    have qj : ∀ i, i < N → 0 ≤ q (45 + i) j ∧ q (45 + i) j < D := fun i hi => j2.1 i j hi hj
    have qt : ∀ i, i < N → 0 ≤ q (45 + i) t ∧ q (45 + i) t < D := fun i hi => j2.1 i t hi ht
    have qtj := qj t ht
    obtain ⟨d1, d2, d3⟩ := tdiv_bd (x := q (45 + t) j) (p := p) (by omega) hp
    refine b_Ma_clearRow_18 ⟨⟨by omega, by omega⟩, fun c => absurd c (by omega), fun _ => ⟨by omega, fun c => absurd c (by omega), fun _ => ⟨by omega, by omega, by rw [toNat_n, toNat_n]; exact ⟨⟨by omega, by omega⟩, by omega⟩, ?_⟩⟩⟩
    rw [toNat_n, toNat_n, d1]
    refine ⟨_, k_Ma_addColumn (a := t) (b := j) (t := -(q (45 + t) j / p)) e4 hN8 (by omega) (by omega) (by omega) ⟨hD.1, by omega⟩ (fun i hi => ?_), ?_⟩
    · have m := mul_small (y := q (45 + t) j / p) (c := q (45 + i) t) ⟨d2, d3⟩ (by have := qt i hi; omega)
      have := qj i hi
      rw [Int.neg_mul]
      omega
    · rintro q1 ⟨w1, w2⟩
      have v : ∀ i j', i < N → q1 (45 + i) j' = if j' = j then (q (45 + i) j + -(q (45 + t) j / p) * q (45 + i) t) % D else q (45 + i) j' := fun i j' hi => by
        rw [w2 i j' (by omega)]
        exact ite_congr (propext ⟨fun z => z.2, fun z => ⟨hi, z⟩⟩) (fun _ => rfl) (fun _ => rfl)
      have g1 : DgF N D g t (Cf q1) := j2.col hD.1 (a := t) (b := j) (x := -(q (45 + t) j / p)) ⟨Nat.le_refl t, ht⟩ ⟨by omega, hj⟩ (by omega) (fun i j' hi hj' => v i j' hi)
      have fr : Fr5 t q q1 := ⟨w1, fun i' hi' => by rw [v i' i' (by omega), if_neg (by omega)]⟩
      have vt : q1 (45 + t) j = s (45 + t) j % p := by
        rw [v t j ht, if_pos rfl, qp, rest_eq hp hp2, j3 t j (Or.inr (Nat.le_refl j)) ht hj]
      have keep : ∀ i j', (j' ≤ t ∨ j + 1 ≤ j') → i < N → j' < N → q1 (45 + i) j' = s (45 + i) j' := fun i j' h1 h2 h3 => by
        rw [v i j' h2, if_neg (by omega)]
        exact j3 i j' (by omega) h2 h3
      have col : ∀ j', t < j' → j' < j + 1 → q1 (45 + t) j' = s (45 + t) j' % p := fun j' h1 h2 => by
        by_cases c : j' = j
        · rw [c]; exact vt
        · rw [v t j' ht, if_neg c]; exact j4 j' h1 (by omega)
      have old : ∀ j', t < j' → j' < j → q1 (45 + t) j' = q (45 + t) j' := fun j' h1 h2 => by rw [v t j' ht, if_neg (by omega)]
      have full : ∀ i j', t < j' → j' < j + 1 → i < N → q1 (45 + i) j' = (s (45 + i) j' + -(s (45 + t) j' / p) * s (45 + i) t) % D := fun i j' h1 h2 h3 => by
        rw [v i j' h3]
        by_cases c : j' = j
        · rw [if_pos c, c, j3 i j (Or.inr (Nat.le_refl j)) h3 hj, j3 t j (Or.inr (Nat.le_refl j)) ht hj, j3 i t (Or.inl (Nat.le_refl t)) h3 ht]
        · rw [if_neg c]; exact j7 i j' h1 (by omega) h3
      have bd := g1.1 t j ht hj
      have bd2 : Cf q1 t j = q1 (45 + t) j := rfl
      refine ⟨by omega, by omega, by omega, ?_, ?_⟩
      · rw [nat_suc]
        intro c
        refine ih (x6, q1) ⟨by omega, j1.trans fr, g1, keep, col, ?_, full⟩
        rcases j5 with ⟨z1, z2⟩ | ⟨z1, i', z2, z3, z4⟩
        · refine Or.inl ⟨z1, fun i' h1 h2 => ?_⟩
          by_cases d : i' = j
          · rw [d]; exact c
          · show q1 (45 + t) i' = 0
            rw [old i' h1 (by omega)]; exact z2 i' h1 (by omega)
        · exact Or.inr ⟨z1, i', z2, by omega, by show q1 (45 + t) i' ≠ 0; rw [old i' z2 z3]; exact z4⟩
      · rw [nat_suc]
        intro c
        exact ih (0, q1) ⟨by omega, j1.trans fr, g1, keep, col, Or.inr ⟨rfl, j, by omega, by omega, c⟩, full⟩
  · obtain ⟨x6, q⟩ := a
    obtain ⟨j0, j1, j2, j3, j4, j5, j7⟩ := hI
    dsimp only at j1 j2 j3 j4 j5 j7 ⊢
    have e4 : q 42 4 = (N : Int) := (j1.1 42 4 (by omega)).trans hN
    refine b_Ma_clearRow_18 ⟨⟨by omega, by omega⟩, fun _ => ⟨?_, j1, j2, fun i j h1 h2 => j3 i j (Or.inl h1) h2 (by omega), fun i h1 h2 => by rw [hpe]; exact j4 i h1 h2, j5, fun i j h1 h2 => ?_⟩, fun c => absurd c (by omega)⟩
    · rcases j5 with ⟨z, _⟩ | ⟨z, _⟩
      · exact Or.inr z
      · exact Or.inl z
    · rw [hpe]
      by_cases c : t < j
      · rw [if_pos c]; exact j7 i j c h2 h1
      · rw [if_neg c]; exact j3 i j (Or.inl (by omega)) h1 h2
/-- a row that the corner doesn't divide is added -/
def AuP (N t : Nat) (D g : Int) (s : Sto) (r : Int) (s' : Sto) : Prop := (r = 0 ∧ s' = s ∧ ∀ i j, t < i → i < N → t < j → j < N → s (45 + t) t ∣ s (45 + i) j) ∨ r = 1 ∧ Fr5 t s s' ∧ DgF N D g t (Cf s') ∧ s' (45 + t) t = s (45 + t) t ∧ (∀ i, t < i → i < N → s' (45 + i) t = 0) ∧ (∃ j, t < j ∧ j < N ∧ s' (45 + t) j % s (45 + t) t ≠ 0) ∧ ∃ i, t < i ∧ i < N ∧ (∃ j, t < j ∧ j < N ∧ ¬ s (45 + t) t ∣ s (45 + i) j) ∧ (∀ i' j, t < i' → i' < i → t < j → j < N → s (45 + t) t ∣ s (45 + i') j) ∧ ∀ i' j, i' < N → j < N → s' (45 + i') j = if i' = t then (s (45 + t) j + 1 * s (45 + i) j) % D else s (45 + i') j
theorem k_Ma_addUndividedRow {t N : Nat} {D g : Int} {s : Sto} (hN : s 42 4 = (N : Int)) (hN8 : N ≤ 8) (ht : t < N) (hD : 0 < D ∧ D ≤ 500000) (hF : DgF N D g t (Cf s)) (hp : 0 < s (45 + t) t) (hc : ∀ i, t < i → i < N → s (45 + i) t = 0) (hr : ∀ j, t < j → j < N → s (45 + t) j = 0) : K_Ma_addUndividedRow t D s (AuP N t D g s) := by
  have hp2 : s (45 + t) t < D := (hF.1 t t ht ht).2
  have hb : ∀ i j, i < N → j < N → 0 ≤ s (45 + i) j ∧ s (45 + i) j < D := hF.1
  refine e_Ma_addUndividedRow ⟨by omega, by omega, ?_⟩
  rw [toNat_n]
  refine loop_inv (α := Unit) (N := N) (fun i _ => t < i ∧ ∀ i' j, t < i' → i' < i → t < j → j < N → s (45 + t) t ∣ s (45 + i') j) (fun i _ => H_Ma_addUndividedRow_15 (AuP N t D g s) t D (s (45 + t) t) i s) (fun i _ hi hI ih => ?_) (fun _ hI => ?_) (t + 1) () (by omega) ⟨by omega, fun i' j h1 h2 => absurd h2 (by omega)⟩
  · obtain ⟨i0, i1⟩ := hI
    refine b_Ma_addUndividedRow_15 ⟨⟨by omega, by omega⟩, fun c => absurd c (by omega), fun _ => ?_⟩
    refine loop_inv (α := Unit) (N := N) (fun j _ => t < j ∧ ∀ j', t < j' → j' < j → s (45 + t) t ∣ s (45 + i) j') (fun j _ => H_Ma_addUndividedRow_29 (AuP N t D g s) t D (s (45 + t) t) i j s) (fun j _ hj hI ih2 => ?_) (fun _ hI => ?_) (t + 1) () (by omega) ⟨by omega, fun j' h1 h2 => absurd h2 (by omega)⟩
    · obtain ⟨j0, j1⟩ := hI
      have bij := hb i j hi hj
      have tm : Int.tmod (s (45 + i) j) (s (45 + t) t) = s (45 + i) j % s (45 + t) t := Int.tmod_eq_emod_of_nonneg bij.1
      have r1 := Int.emod_nonneg (s (45 + i) j) (b := s (45 + t) t) (by omega)
      have r2 := Int.emod_lt_of_pos (s (45 + i) j) hp
      refine b_Ma_addUndividedRow_29 ⟨⟨by omega, by omega⟩, fun c => absurd c (by omega), fun _ => ⟨by omega, fun c => absurd c (by omega), fun _ => ⟨by omega, by omega, ?_⟩⟩⟩
      rw [toNat_n, toNat_n, tm, nat_suc]
      refine ⟨⟨⟨by omega, by omega⟩, by omega⟩, by omega, fun c => ih2 () ⟨by omega, fun j' h1 h2 => ?_⟩, fun c => ?_⟩
      · by_cases d : j' = j
        · rw [d]; exact Int.dvd_of_emod_eq_zero c
        · exact j1 j' h1 (by omega)
      · refine ⟨_, k_Ma_addRow (a := i) (b := t) (t := 1) hN hN8 (by omega) (by omega) (by omega) ⟨hD.1, by omega⟩ (fun j' hj' => by have := hb i j' hi hj'; have := hb t j' ht hj'; omega), ?_⟩
        rintro q1 rfl
        have v : ∀ i' j, j < N → wr s (45 + t) (fun j => if j < N then (s (45 + t) j + 1 * s (45 + i) j) % D else s (45 + t) j) (45 + i') j = if i' = t then (s (45 + t) j + 1 * s (45 + i) j) % D else s (45 + i') j := fun i' j hj => by
          by_cases c : i' = t
          · rw [c, wr_eq, if_pos hj, if_pos rfl]
          · rw [wr_ne (by omega), if_neg c]
        generalize hq1 : wr s (45 + t) (fun j => if j < N then (s (45 + t) j + 1 * s (45 + i) j) % D else s (45 + t) j) = q1 at *
        refine Or.inr ⟨rfl, ⟨fun k i' hk => by rw [← hq1, wr_ne (by omega)], fun i' hi' => by rw [v i' i' (by omega), if_neg (by omega)]⟩, hF.row hD.1 (a := i) (b := t) (x := 1) ⟨by omega, hi⟩ ⟨Nat.le_refl t, ht⟩ (by omega) (fun i' j _ hj => v i' j hj), ?_, fun i' h1 h2 => ?_, ⟨j, j0, hj, ?_⟩, i, by omega, hi, ⟨j, j0, hj, fun z => c (Int.emod_eq_zero_of_dvd z)⟩, i1, fun i' j _ hj => v i' j hj⟩
        · have := hb t t ht ht
          rw [v t t ht, if_pos rfl, hc i (by omega) hi, Int.mul_zero, Int.add_zero, Int.emod_eq_of_lt this.1 this.2]
        · rw [v i' t ht, if_neg (by omega)]; exact hc i' h1 h2
        · rw [v t j hj, if_pos rfl, hr j j0 hj, Int.one_mul, Int.zero_add, Int.emod_eq_of_lt bij.1 bij.2]
          exact c
    · obtain ⟨j0, j1⟩ := hI
      refine b_Ma_addUndividedRow_29 ⟨⟨by omega, by omega⟩, fun _ => ?_, fun c => absurd c (by omega)⟩
      rw [nat_suc]
      refine ih () ⟨by omega, fun i' j h1 h2 h3 h4 => ?_⟩
      by_cases d : i' = i
      · rw [d]; exact j1 j h3 h4
      · exact i1 i' j h1 (by omega) h3 h4
  · obtain ⟨i0, i1⟩ := hI
    exact b_Ma_addUndividedRow_15 ⟨⟨by omega, by omega⟩, fun _ => Or.inl ⟨rfl, rfl, i1⟩, fun c => absurd c (by omega)⟩
