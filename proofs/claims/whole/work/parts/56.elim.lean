/-! elimination without fractions -/
/-- the cells after k pivots -/
def NN (A : Nat → Nat → Int) (k i j : Nat) : Int := if i < k then det k (cu A i (fun r => A r j)) else A i j * det k A - sumN k (fun x => A i x * det k (cu A x (fun r => A r j)))
theorem NN_lt {A : Nat → Nat → Int} {k i : Nat} (h : i < k) (j : Nat) : NN A k i j = det k (cu A i (fun r => A r j)) := if_pos h
theorem NN_ge {A : Nat → Nat → Int} {k i : Nat} (h : k ≤ i) (j : Nat) : NN A k i j = A i j * det k A - sumN k (fun x => A i x * NN A k x j) := by
  unfold NN
  rw [if_neg (by omega)]
  congr 1
  exact sumN_congr (fun x hx => by rw [if_pos hx])
theorem NN_zero (A : Nat → Nat → Int) (i j : Nat) : NN A 0 i j = A i j := by
  rw [NN_ge (by omega)]
  show A i j * 1 - 0 = A i j
  omega
theorem NN_pivot (A : Nat → Nat → Int) (k : Nat) : NN A k k k = det (k + 1) A := by
  unfold NN
  rw [if_neg (by omega)]
  rfl
theorem NN_row (A : Nat → Nat → Int) (k j : Nat) : NN A (k + 1) k j = NN A k k j := by
  rw [NN_lt (by omega), det_k]
  unfold NN
  rw [if_neg (by omega)]
theorem NN_sum {A : Nat → Nat → Int} {k l : Nat} (h : l < k) (j : Nat) : sumN k (fun i => A l i * NN A k i j) = A l j * det k A := by
  rw [← det_cramer k A (fun r => A r j) l h]
  exact sumN_congr (fun i hi => by rw [NN_lt hi])
/-- one step -/
theorem NN_step {A : Nat → Nat → Int} {k i j : Nat} (hd : det (k + 1) A ≠ 0) (hi : i ≠ k) : NN A k k k * NN A k i j - NN A k i k * NN A k k j = det k A * NN A (k + 1) i j := by
  rw [NN_pivot]
  have hkj : sumN k (fun x => A k x * NN A k x j) = A k j * det k A - NN A k k j := by
    have := NN_ge (A := A) (Nat.le_refl k) j
    omega
  have hkk : sumN k (fun x => A k x * NN A k x k) = A k k * det k A - det (k + 1) A := by
    have := NN_ge (A := A) (Nat.le_refl k) k
    rw [NN_pivot] at this
    omega
  have low : ∀ x, x < k → det (k + 1) A * NN A k x j - NN A k x k * NN A k k j = det k A * NN A (k + 1) x j := by
    intro x hx
    have u := det_uniq (k := k + 1) (A := A) (y := fun x => if x = k then det k A * NN A k k j else det (k + 1) A * NN A k x j - NN A k x k * NN A k k j) (z := fun x => det k A * NN A (k + 1) x j) (fun l hl => ?_) hd (i := x) (by omega)
    · rw [if_neg (by omega)] at u
      exact u
    · have e1 : sumN (k + 1) (fun x => A l x * (det k A * NN A (k + 1) x j)) = det k A * (A l j * det (k + 1) A) := by
        rw [← NN_sum hl j, ← sumN_mul]
        exact sumN_congr (fun x _ => by grind)
      rw [e1]
      show sumN k (fun x => A l x * (if x = k then det k A * NN A k k j else det (k + 1) A * NN A k x j - NN A k x k * NN A k k j)) + A l k * (if k = k then det k A * NN A k k j else det (k + 1) A * NN A k k j - NN A k k k * NN A k k j) = _
      rw [if_pos rfl]
      have e2 : sumN k (fun x => A l x * (if x = k then det k A * NN A k k j else det (k + 1) A * NN A k x j - NN A k x k * NN A k k j)) = det (k + 1) A * sumN k (fun x => A l x * NN A k x j) - NN A k k j * sumN k (fun x => A l x * NN A k x k) := by
        rw [← sumN_mul, ← sumN_mul, ← sumN_sub]
        exact sumN_congr (fun x hx => by rw [if_neg (by omega)]; grind)
      rw [e2]
      by_cases c : l = k
      · rw [c, hkj, hkk]
        grind
      · rw [NN_sum (by omega), NN_sum (by omega)]
        grind
  by_cases c : i < k
  · exact low i c
  · rw [NN_ge (k := k) (by omega), NN_ge (k := k) (by omega) k, NN_ge (k := k + 1) (by omega)]
    show _ = det k A * (A i j * det (k + 1) A - (sumN k (fun x => A i x * NN A (k + 1) x j) + A i k * NN A (k + 1) k j))
    rw [NN_row]
    have e1 : det k A * sumN k (fun x => A i x * NN A (k + 1) x j) = det (k + 1) A * sumN k (fun x => A i x * NN A k x j) - NN A k k j * sumN k (fun x => A i x * NN A k x k) := by
      rw [← sumN_mul, ← sumN_mul, ← sumN_mul, ← sumN_sub]
      exact sumN_congr (fun x hx => by have := low x hx; grind)
    grind
theorem NN_div {A : Nat → Nat → Int} {k i j : Nat} (hd : det (k + 1) A ≠ 0) (h0 : det k A ≠ 0) (hi : i ≠ k) : Int.tdiv (NN A k k k * NN A k i j - NN A k i k * NN A k k j) (det k A) = NN A (k + 1) i j := by
  rw [NN_step hd hi]
  exact Int.mul_tdiv_cancel_left _ h0
