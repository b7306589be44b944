/-! rows and columns of the matrix -/
def sw2 (a b i : Nat) : Nat := if i = a then b else if i = b then a else i
theorem k_Ma_swapRows {a b N : Nat} {s : Sto} (hN : s 42 4 = (N : Int)) (hN8 : N ≤ 8) (ha : a < 8) (hb : b < 8) : K_Ma_swapRows a b s (fun s' => (∀ k i, k < 45 ∨ 52 < k → s' k i = s k i) ∧ ∀ i j, i < 8 → s' (45 + i) j = if j < N then s (45 + sw2 a b i) j else s (45 + i) j) := by
  refine e_Ma_swapRows ?_
  refine loop_inv (α := Sto) (N := N) (fun j q => (∀ k i, k < 45 ∨ 52 < k → q k i = s k i) ∧ ∀ i j', i < 8 → q (45 + i) j' = if j' < j then s (45 + sw2 a b i) j' else s (45 + i) j') (fun j q => H_Ma_swapRows_2 _ a b j q) (fun j q hj hI ih => ?_) (fun q hI => ?_) 0 s (by omega) ⟨fun _ _ _ => rfl, fun i j' _ => by rw [if_neg (by omega)]⟩
  · obtain ⟨i1, i2⟩ := hI
    have e4 := (i1 42 4 (by omega)).trans hN
    refine b_Ma_swapRows_2 ⟨⟨by omega, by omega⟩, fun c => absurd c (by omega), fun _ => ⟨by omega, by omega, by omega, by omega, by omega, by omega, fun s1 e1 => ⟨by omega, by omega, fun s2 e2 => ?_⟩⟩⟩
    rw [toNat_n, toNat_n, toNat_n] at e1 e2
    rw [nat_suc]
    refine ih s2 ⟨fun k i hk => ?_, fun i j' hi => ?_⟩
    · rw [e2, up_wr, wr_ne (by omega), e1, up_wr, wr_ne (by omega)]; exact i1 k i hk
    · have qa : q (45 + a) j = s (45 + a) j := by rw [i2 a j ha, if_neg (by omega)]
      have qb : q (45 + b) j = s (45 + b) j := by rw [i2 b j hb, if_neg (by omega)]
      rw [qa] at e2
      rw [qb] at e1
      have v1 : ∀ i j', s1 (45 + i) j' = if i = a ∧ j' = j then s (45 + b) j else q (45 + i) j' := fun i j' => by
        rw [e1, up_wr]
        by_cases c : i = a
        · rw [c, wr_eq]
          unfold fu
          exact ite_congr (propext (by omega)) (fun _ => rfl) (fun _ => rfl)
        · rw [wr_ne (by omega), if_neg (by omega)]
      have v2 : ∀ i j', s2 (45 + i) j' = if i = b ∧ j' = j then s (45 + a) j else s1 (45 + i) j' := fun i j' => by
        rw [e2, up_wr]
        by_cases c : i = b
        · rw [c, wr_eq]
          unfold fu
          exact ite_congr (propext (by omega)) (fun _ => rfl) (fun _ => rfl)
        · rw [wr_ne (by omega), if_neg (by omega)]
      rw [v2, v1, i2 i j' hi]
      by_cases d : j' = j
      · subst d
        unfold sw2
        by_cases c1 : i = b
        · by_cases c2 : i = a
          · rw [if_pos ⟨c1, rfl⟩, if_pos (by omega), if_pos c2, ← c1, ← c2]
          · rw [if_pos ⟨c1, rfl⟩, if_pos (by omega), if_neg c2, if_pos c1]
        · by_cases c2 : i = a
          · rw [if_neg (by omega), if_pos ⟨c2, rfl⟩, if_pos (by omega), if_pos c2]
          · rw [if_neg (by omega), if_neg (by omega), if_neg (by omega), if_pos (by omega), if_neg c2, if_neg c1]
      · rw [if_neg (by omega), if_neg (by omega)]
        exact ite_congr (propext (by omega)) (fun _ => rfl) (fun _ => rfl)
  · have e4 := (hI.1 42 4 (by omega)).trans hN
    exact b_Ma_swapRows_2 ⟨⟨by omega, by omega⟩, fun _ => hI, fun c => absurd c (by omega)⟩
theorem k_Ma_swapColumns {a b N : Nat} {s : Sto} (hN : s 42 4 = (N : Int)) (hN8 : N ≤ 8) (ha : a < 8) (hb : b < 8) : K_Ma_swapColumns a b s (fun s' => (∀ k i, k < 45 ∨ 52 < k → s' k i = s k i) ∧ ∀ i j, i < 8 → s' (45 + i) j = if i < N then s (45 + i) (sw2 a b j) else s (45 + i) j) := by
  refine e_Ma_swapColumns ?_
  refine loop_inv (α := Sto) (N := N) (fun m q => (∀ k i, k < 45 ∨ 52 < k → q k i = s k i) ∧ ∀ i j', i < 8 → q (45 + i) j' = if i < m then s (45 + i) (sw2 a b j') else s (45 + i) j') (fun m q => H_Ma_swapColumns_2 _ a b m q) (fun m q hm hI ih => ?_) (fun q hI => ?_) 0 s (by omega) ⟨fun _ _ _ => rfl, fun i j' _ => by rw [if_neg (by omega)]⟩
  · obtain ⟨i1, i2⟩ := hI
    have e4 := (i1 42 4 (by omega)).trans hN
    refine b_Ma_swapColumns_2 ⟨⟨by omega, by omega⟩, fun c => absurd c (by omega), fun _ => ⟨by omega, by omega, by omega, by omega, by omega, by omega, fun s1 e1 => ⟨by omega, by omega, fun s2 e2 => ?_⟩⟩⟩
    rw [toNat_n, toNat_n, toNat_n] at e1 e2
    rw [nat_suc]
    refine ih s2 ⟨fun k i hk => ?_, fun i j' hi => ?_⟩
    · rw [e2, up_wr, wr_ne (by omega), e1, up_wr, wr_ne (by omega)]; exact i1 k i hk
    · have qv : ∀ j', q (45 + m) j' = s (45 + m) j' := fun j' => by rw [i2 m j' (by omega), if_neg (by omega)]
      rw [qv] at e1 e2
      by_cases c : i = m
      · subst c
        have e5 : s2 (45 + i) j' = fu (fu (q (45 + i)) a (s (45 + i) b)) b (s (45 + i) a) j' := by
          rw [e2, up_wr, wr_eq, e1, up_wr]
          congr 1
          funext z
          rw [wr_eq]
        rw [e5, if_pos (by omega)]
        unfold fu sw2
        by_cases c1 : j' = b
        · by_cases c2 : j' = a
          · rw [if_pos c1, if_pos c2, ← c1, ← c2]
          · rw [if_pos c1, if_neg c2, if_pos c1]
        · by_cases c2 : j' = a
          · rw [if_neg c1, if_pos c2, if_pos c2]
          · rw [if_neg c1, if_neg c2, if_neg c2, if_neg c1, qv]
      · rw [e2, up_wr, wr_ne (by omega), e1, up_wr, wr_ne (by omega), i2 i j' hi]
        exact ite_congr (propext (by omega)) (fun _ => rfl) (fun _ => rfl)
  · have e4 := (hI.1 42 4 (by omega)).trans hN
    exact b_Ma_swapColumns_2 ⟨⟨by omega, by omega⟩, fun _ => hI, fun c => absurd c (by omega)⟩
theorem k_Ma_addRow {a b N : Nat} {t m : Int} {s : Sto} (hN : s 42 4 = (N : Int)) (hN8 : N ≤ 8) (ha : a < 8) (hb : b < 8) (hab : a ≠ b) (hm : 0 < m ∧ m < 9223372036854775808) (hr : ∀ j, j < N → -9223372036854775808 ≤ s (45 + b) j + t * s (45 + a) j ∧ s (45 + b) j + t * s (45 + a) j < 9223372036854775808) : K_Ma_addRow a b t m s (fun s' => s' = wr s (45 + b) (fun j => if j < N then (s (45 + b) j + t * s (45 + a) j) % m else s (45 + b) j)) := by
  refine e_Ma_addRow ?_
  refine loop_inv (α := Sto) (N := N) (fun j q => q = wr s (45 + b) (fun j' => if j' < j then (s (45 + b) j' + t * s (45 + a) j') % m else s (45 + b) j')) (fun j q => H_Ma_addRow_3 _ a b t m j q) (fun j q hj hI ih => ?_) (fun q hI => ?_) 0 s (by omega) ?_
  · have e4 : q 42 4 = (N : Int) := by rw [hI, wr_ne (by omega)]; exact hN
    have qb : q (45 + b) j = s (45 + b) j := by rw [hI, wr_eq, if_neg (by omega)]
    have qa : q (45 + a) j = s (45 + a) j := by rw [hI, wr_ne (by omega)]
    refine b_Ma_addRow_3 ⟨⟨by omega, by omega⟩, fun c => absurd c (by omega), fun _ => ⟨by omega, fun c => absurd c (by omega), fun _ => ⟨by omega, by omega, by omega, by omega, by omega, ?_⟩⟩⟩
    rw [toNat_n, toNat_n, toNat_n, qb, qa]
    refine ⟨_, k_JM_floorMod (hr j hj) hm, ?_⟩
    rintro r s1 ⟨rfl, rfl⟩
    refine ⟨by omega, fun s2 e2 => ?_⟩
    rw [nat_suc]
    refine ih s2 ?_
    rw [e2, hI, up_wr_wr]
    congr 1
    funext j'
    unfold fu
    by_cases c : j' = j
    · rw [if_pos c, if_pos (by omega), c]
    · rw [if_neg c]
      exact ite_congr (propext (by omega)) (fun _ => rfl) (fun _ => rfl)
  · have e4 : q 42 4 = (N : Int) := by rw [hI, wr_ne (by omega)]; exact hN
    exact b_Ma_addRow_3 ⟨⟨by omega, by omega⟩, fun _ => hI, fun c => absurd c (by omega)⟩
  · rw [show (fun j' => if j' < 0 then (s (45 + b) j' + t * s (45 + a) j') % m else s (45 + b) j') = s (45 + b) from funext fun j' => if_neg (by omega), wr_self]
theorem k_Ma_addColumn {a b N : Nat} {t m : Int} {s : Sto} (hN : s 42 4 = (N : Int)) (hN8 : N ≤ 8) (ha : a < 8) (hb : b < 8) (hab : a ≠ b) (hm : 0 < m ∧ m < 9223372036854775808) (hr : ∀ i, i < N → -9223372036854775808 ≤ s (45 + i) b + t * s (45 + i) a ∧ s (45 + i) b + t * s (45 + i) a < 9223372036854775808) : K_Ma_addColumn a b t m s (fun s' => (∀ k i, k < 45 ∨ 52 < k → s' k i = s k i) ∧ ∀ i j, i < 8 → s' (45 + i) j = if i < N ∧ j = b then (s (45 + i) b + t * s (45 + i) a) % m else s (45 + i) j) := by
  refine e_Ma_addColumn ?_
  refine loop_inv (α := Sto) (N := N) (fun w q => (∀ k i, k < 45 ∨ 52 < k → q k i = s k i) ∧ ∀ i j, i < 8 → q (45 + i) j = if i < w ∧ j = b then (s (45 + i) b + t * s (45 + i) a) % m else s (45 + i) j) (fun w q => H_Ma_addColumn_3 _ a b t m w q) (fun w q hw hI ih => ?_) (fun q hI => ?_) 0 s (by omega) ⟨fun _ _ _ => rfl, fun i j _ => by rw [if_neg (by omega)]⟩
  · obtain ⟨i1, i2⟩ := hI
    have e4 := (i1 42 4 (by omega)).trans hN
    have qb : q (45 + w) b = s (45 + w) b := by rw [i2 w b (by omega), if_neg (by omega)]
    have qa : q (45 + w) a = s (45 + w) a := by rw [i2 w a (by omega), if_neg (by omega)]
    refine b_Ma_addColumn_3 ⟨⟨by omega, by omega⟩, fun c => absurd c (by omega), fun _ => ⟨by omega, fun c => absurd c (by omega), fun _ => ⟨by omega, by omega, by omega, by omega, by omega, ?_⟩⟩⟩
    rw [toNat_n, toNat_n, toNat_n, qb, qa]
    refine ⟨_, k_JM_floorMod (hr w hw) hm, ?_⟩
    rintro r s1 ⟨rfl, rfl⟩
    refine ⟨by omega, fun s2 e2 => ?_⟩
    rw [nat_suc]
    refine ih s2 ⟨fun k i hk => by rw [e2, up_wr, wr_ne (by omega)]; exact i1 k i hk, fun i j hi => ?_⟩
    rw [e2, up_wr]
    by_cases c : i = w
    · subst c
      rw [wr_eq]
      unfold fu
      by_cases d : j = b
      · rw [if_pos d, if_pos ⟨by omega, d⟩]
      · rw [if_neg d, if_neg (by omega), i2 i j hi, if_neg (by omega)]
    · rw [wr_ne (by omega), i2 i j hi]
      exact ite_congr (propext (by omega)) (fun _ => rfl) (fun _ => rfl)
  · have e4 := (hI.1 42 4 (by omega)).trans hN
    exact b_Ma_addColumn_3 ⟨⟨by omega, by omega⟩, fun _ => hI, fun c => absurd c (by omega)⟩
