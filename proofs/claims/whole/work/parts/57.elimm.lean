/-! the machine's elimination -/
theorem k_Ma_combineRows {i k N : Nat} {L : Int} {s : Sto} (hN : s 42 4 = (N : Int)) (hN8 : N ≤ 8) (hi : i < N) (hk : k < N) (hik : i ≠ k) (hL : -9223372036854775808 ≤ L ∧ L < 9223372036854775808) (hL0 : L ≠ 0) (hr : ∀ j, j ≤ N → -9223372036854775808 ≤ s (45 + k) k * s (45 + i) j - s (45 + i) k * s (45 + k) j ∧ s (45 + k) k * s (45 + i) j - s (45 + i) k * s (45 + k) j < 9223372036854775808) : K_Ma_combineRows i k L s (fun s' => s' = wr s (45 + i) (fun j => if j < N + 1 then Int.tdiv (s (45 + k) k * s (45 + i) j - s (45 + i) k * s (45 + k) j) L else s (45 + i) j)) := by
  refine e_Ma_combineRows ⟨hL, fun _ => ⟨by omega, by omega, by omega, by omega, ?_⟩, fun z => absurd z hL0⟩
  rw [toNat_n, toNat_n]
  refine loop_inv (α := Sto) (N := N + 1) (fun j q => q = wr s (45 + i) (fun j' => if j' < j then Int.tdiv (s (45 + k) k * s (45 + i) j' - s (45 + i) k * s (45 + k) j') L else s (45 + i) j')) (fun j q => H_Ma_combineRows_30 _ i k L (s (45 + k) k) (s (45 + i) k) j q) (fun j q hj hI ih => ?_) (fun q hI => ?_) 0 s (by omega) ?_
  · have e4 : q 42 4 = (N : Int) := by rw [hI, wr_ne (by omega)]; exact hN
    have ei : q (45 + i) j = s (45 + i) j := by rw [hI, wr_eq, if_neg (by omega)]
    have ek : q (45 + k) j = s (45 + k) j := by rw [hI, wr_ne (by omega)]
    refine b_Ma_combineRows_30 ⟨⟨by omega, by omega⟩, fun c => absurd c (by omega), fun _ => ⟨by omega, by omega, by omega, by omega, by omega, ?_⟩⟩
    rw [toNat_n, toNat_n, toNat_n, ei, ek]
    refine ⟨⟨⟨hr j (by omega), hL⟩, hL0⟩, by omega, fun s1 e1 => ?_⟩
    rw [nat_suc]
    refine ih s1 ?_
    rw [e1, hI, up_wr_wr]
    congr 1
    funext j'
    unfold fu
    by_cases c : j' = j
    · rw [if_pos c, if_pos (by omega), c]
    · rw [if_neg c]
      exact ite_congr (propext (by omega)) (fun _ => rfl) (fun _ => rfl)
  · have e4 : q 42 4 = (N : Int) := by rw [hI, wr_ne (by omega)]; exact hN
    exact b_Ma_combineRows_30 ⟨⟨by omega, by omega⟩, fun _ => hI, fun c => absurd c (by omega)⟩
  · rw [show (fun j' => if j' < 0 then Int.tdiv (s (45 + k) k * s (45 + i) j' - s (45 + i) k * s (45 + k) j') L else s (45 + i) j') = s (45 + i) from funext fun j' => if_neg (by omega), wr_self]
/-- the cells hold A -/
def MA (s : Sto) (N : Nat) (A : Nat → Nat → Int) : Prop := s 42 4 = (N : Int) ∧ ∀ i j, i < N → j ≤ N → s (45 + i) j = A i j
/-- no number too large on the way -/
def MB (N : Nat) (A : Nat → Nat → Int) : Prop := (∀ k, k ≤ N → -9223372036854775808 ≤ det k A ∧ det k A < 9223372036854775808) ∧ ∀ k i j, k < N → i < N → j ≤ N → -9223372036854775808 ≤ det k A * NN A (k + 1) i j ∧ det k A * NN A (k + 1) i j < 9223372036854775808
/-- the end of elimination -/
def ElP (s : Sto) (N : Nat) (A : Nat → Nat → Int) (r : Int) (s' : Sto) : Prop := (∀ k i, k < 45 ∨ 52 < k → s' k i = s k i) ∧ ((r = 0 ∧ ∃ k, k < N ∧ det (k + 1) A = 0 ∧ ∀ k', k' ≤ k → det k' A ≠ 0) ∨ (r = det N A ∧ (∀ k, k ≤ N → det k A ≠ 0) ∧ ∀ i j, i < N → j ≤ N → s' (45 + i) j = NN A N i j))
theorem k_Ma_eliminate {N : Nat} {A : Nat → Nat → Int} {s : Sto} (hN8 : N ≤ 8) (hA : MA s N A) (hB : MB N A) : K_Ma_eliminate s (ElP s N A) := by
  refine e_Ma_eliminate ?_
  suffices z : H_Ma_eliminate_4 (ElP s N A) (det 0 A) ((0 : Nat) : Int) s from z
  refine loop_inv (α := Sto) (N := N) (fun k q => (∀ k' i, k' < 45 ∨ 52 < k' → q k' i = s k' i) ∧ (∀ k', k' ≤ k → det k' A ≠ 0) ∧ ∀ i j, i < N → j ≤ N → q (45 + i) j = NN A k i j) (fun k q => H_Ma_eliminate_4 (ElP s N A) (det k A) k q) (fun k q hk hI ih => ?_) (fun q hI => ?_) 0 s (by omega) ⟨fun _ _ _ => rfl, fun k' hk' => by rw [show k' = 0 by omega]; exact Int.one_ne_zero, fun i j hi hj => by rw [NN_zero]; exact hA.2 i j hi hj⟩
  · obtain ⟨i1, i2, i3⟩ := hI
    have e4 : q 42 4 = (N : Int) := by rw [i1 42 4 (by omega)]; exact hA.1
    have ep : q (45 + k) k = det (k + 1) A := by rw [i3 k k hk (by omega), NN_pivot]
    refine b_Ma_eliminate_4 ⟨⟨by omega, by omega⟩, fun c => absurd c (by omega), fun _ => ⟨by omega, by omega, ?_⟩⟩
    rw [toNat_n, ep]
    refine ⟨hB.1 (k + 1) (by omega), fun c => ?_, fun c => ⟨i1, Or.inl ⟨rfl, k, hk, c, i2⟩⟩⟩
    refine loop_inv (α := Sto) (N := N) (fun i q => (∀ k' i, k' < 45 ∨ 52 < k' → q k' i = s k' i) ∧ (∀ i' j, i' < i → j ≤ N → q (45 + i') j = NN A (k + 1) i' j) ∧ ∀ i' j, i ≤ i' → i' < N → j ≤ N → q (45 + i') j = NN A k i' j) (fun i q => H_Ma_eliminate_34 (ElP s N A) (det k A) k (det (k + 1) A) i q) (fun i q hi hI ih2 => ?_) (fun q hI => ?_) 0 q (by omega) ⟨i1, fun i' j z _ => absurd z (by omega), fun i' j _ h1 h2 => i3 i' j h1 h2⟩
    · obtain ⟨j1, j2, j3⟩ := hI
      have e4 : q 42 4 = (N : Int) := by rw [j1 42 4 (by omega)]; exact hA.1
      have row : ∀ j, j ≤ N → q (45 + k) j = NN A k k j := fun j hj => by
        by_cases d : k < i
        · rw [j2 k j d hj, NN_row]
        · exact j3 k j (by omega) hk hj
      refine b_Ma_eliminate_34 ⟨⟨by omega, by omega⟩, fun c => absurd c (by omega), fun _ => ⟨⟨by omega, by omega⟩, fun d => ?_, fun d => ?_⟩⟩
      · rw [nat_suc]
        refine ih2 q ⟨j1, fun i' j h1 h2 => ?_, fun i' j h1 h2 h3 => j3 i' j (by omega) h2 h3⟩
        by_cases d2 : i' < i
        · exact j2 i' j d2 h2
        · rw [show i' = k by omega, NN_row]
          exact row j h2
      · have hik : i ≠ k := by omega
        refine ⟨_, k_Ma_combineRows e4 hN8 hi hk hik (hB.1 k (by omega)) (i2 k (Nat.le_refl k)) (fun j hj => ?_), ?_⟩
        · rw [row k (by omega), row j hj, j3 i j (Nat.le_refl i) hi hj, j3 i k (Nat.le_refl i) hi (by omega), NN_step c hik]
          exact hB.2 k i j hk hi hj
        · rintro s1 rfl
          rw [nat_suc]
          refine ih2 _ ⟨fun k' i' hk' => by rw [wr_ne (by omega)]; exact j1 k' i' hk', fun i' j h1 h2 => ?_, fun i' j h1 h2 h3 => by rw [wr_ne (by omega)]; exact j3 i' j (by omega) h2 h3⟩
          by_cases d2 : i' = i
          · rw [d2, wr_eq, if_pos (by omega), row k (by omega), row j h2, j3 i j (Nat.le_refl i) hi h2, j3 i k (Nat.le_refl i) hi (by omega), NN_div c (i2 k (Nat.le_refl k)) hik]
          · rw [wr_ne (by omega)]
            exact j2 i' j (by omega) h2
    · obtain ⟨j1, j2, j3⟩ := hI
      have e4 : q 42 4 = (N : Int) := by rw [j1 42 4 (by omega)]; exact hA.1
      refine b_Ma_eliminate_34 ⟨⟨by omega, by omega⟩, fun _ => ?_, fun c => absurd c (by omega)⟩
      rw [nat_suc]
      refine ih q ⟨j1, fun k' hk' => ?_, fun i j hi hj => j2 i j hi hj⟩
      by_cases d : k' = k + 1
      · rw [d]; exact c
      · exact i2 k' (by omega)
  · obtain ⟨i1, i2, i3⟩ := hI
    have e4 : q 42 4 = (N : Int) := by rw [i1 42 4 (by omega)]; exact hA.1
    exact b_Ma_eliminate_4 ⟨⟨by omega, by omega⟩, fun _ => ⟨i1, Or.inr ⟨rfl, i2, i3⟩⟩, fun c => absurd c (by omega)⟩
