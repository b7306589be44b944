/-! bounds on determinants -/
def ab (x : Int) : Int := ((x.natAbs : Nat) : Int)
theorem ab_nn (x : Int) : 0 ≤ ab x := by unfold ab; omega
theorem ab_mul (x y : Int) : ab (x * y) = ab x * ab y := by
  unfold ab
  rw [Int.natAbs_mul]
  exact Int.natCast_mul _ _
theorem ab_sub (x y : Int) : ab (x - y) ≤ ab x + ab y := by unfold ab; omega
theorem ab_le {x b : Int} (h : ab x ≤ b) : -b ≤ x ∧ x ≤ b := by unfold ab at h; omega
theorem ab_sum (f : Nat → Int) : ∀ n, ab (sumN n f) ≤ sumN n (fun i => ab (f i)) := by
  intro n
  induction n with
  | zero => exact Int.le_refl 0
  | succ n ih =>
    show ab (sumN n f + f n) ≤ sumN n (fun i => ab (f i)) + ab (f n)
    have : ab (sumN n f + f n) ≤ ab (sumN n f) + ab (f n) := by unfold ab; omega
    omega
def prodN : Nat → (Nat → Int) → Int
  | 0, _ => 1
  | n + 1, R => prodN n R * R n
theorem prodN_nn {R : Nat → Int} : ∀ n, (∀ i, i < n → 0 ≤ R i) → 0 ≤ prodN n R := by
  intro n
  induction n with
  | zero => intro _; exact (by decide : (0 : Int) ≤ 1)
  | succ n ih => intro h; exact Int.mul_nonneg (ih (fun i hi => h i (by omega))) (h n (by omega))
theorem cu_sum {A : Nat → Nat → Int} {i k : Nat} (hi : i < k) (c : Nat → Int) (r : Nat) : sumN k (fun x => ab (cu A i c r x)) = sumN k (fun x => ab (A r x)) + (ab (c r) - ab (A r i)) := by
  have e := sumN_up (n := k) (f := fun x => ab (A r x)) (g := fun x => ab (cu A i c r x)) (k := i) hi (fun x _ hx => by
    show ab (cu A i c r x) = ab (A r x)
    rw [cu_ne hx])
  rw [e]
  show _ + (ab (cu A i c r i) - ab (A r i)) = _
  rw [cu_eq]
/-- the product of the rows' sums bounds the determinant -/
theorem det_bd : ∀ (k : Nat) {A : Nat → Nat → Int} {R : Nat → Int}, (∀ r, r < k → sumN k (fun x => ab (A r x)) ≤ R r) → ab (det k A) ≤ prodN k R := by
  intro k
  induction k with
  | zero => intro A R _; exact (by decide : ab 1 ≤ (1 : Int))
  | succ k ih =>
    intro A R h
    have hs : ∀ r, r < k + 1 → sumN k (fun x => ab (A r x)) + ab (A r k) ≤ R r := fun r hr => h r hr
    have hnn : ∀ r, 0 ≤ sumN k (fun x => ab (A r x)) := fun r => sumN_nn (fun x _ => ab_nn _)
    have hp : 0 ≤ prodN k R := prodN_nn k (fun i hi => by have := hs i (by omega); have := hnn i; have := ab_nn (A i k); omega)
    have d0 : ab (det k A) ≤ prodN k R := ih (fun r hr => by have := hs r (by omega); have := ab_nn (A r k); omega)
    have d1 : ∀ i, i < k → ab (det k (cu A i (fun r => A r k))) ≤ prodN k R := fun i hi => ih (fun r hr => by
      rw [cu_sum hi]
      have := hs r (by omega)
      have := ab_nn (A r i)
      omega)
    show ab (A k k * det k A - sumN k (fun i => A k i * det k (cu A i (fun r => A r k)))) ≤ prodN k R * R k
    have e1 := ab_sub (A k k * det k A) (sumN k (fun i => A k i * det k (cu A i (fun r => A r k))))
    have e2 := ab_sum (fun i => A k i * det k (cu A i (fun r => A r k))) k
    have e3 : sumN k (fun i => ab (A k i * det k (cu A i (fun r => A r k)))) ≤ sumN k (fun i => prodN k R * ab (A k i)) := sumN_le (fun i hi => by
      rw [ab_mul, Int.mul_comm (prodN k R)]
      exact Int.mul_le_mul_of_nonneg_left (d1 i hi) (ab_nn _))
    rw [sumN_mul] at e3
    have e4 : ab (A k k * det k A) ≤ prodN k R * ab (A k k) := by
      rw [ab_mul, Int.mul_comm (prodN k R)]
      exact Int.mul_le_mul_of_nonneg_left d0 (ab_nn _)
    have e5 : prodN k R * sumN k (fun x => ab (A k x)) + prodN k R * ab (A k k) ≤ prodN k R * R k := by
      rw [← Int.mul_add]
      exact Int.mul_le_mul_of_nonneg_left (hs k (by omega)) hp
    omega
/-- the cells on the way -/
theorem NN_bd {A : Nat → Nat → Int} {R : Nat → Int} {k i j : Nat} (hj : k ≤ j) (h : ∀ r, r < k ∨ r = i → sumN k (fun x => ab (A r x)) + ab (A r j) ≤ R r) : ab (NN A k i j) ≤ if i < k then prodN k R else prodN k R * R i := by
  have hnn : ∀ r, 0 ≤ sumN k (fun x => ab (A r x)) := fun r => sumN_nn (fun x _ => ab_nn _)
  have hp : 0 ≤ prodN k R := prodN_nn k (fun r hr => by have := h r (Or.inl hr); have := hnn r; have := ab_nn (A r j); omega)
  have d0 : ab (det k A) ≤ prodN k R := det_bd k (fun r hr => by have := h r (Or.inl hr); have := ab_nn (A r j); omega)
  have d1 : ∀ x, x < k → ab (det k (cu A x (fun r => A r j))) ≤ prodN k R := fun x hx => det_bd k (fun r hr => by
    rw [cu_sum hx]
    have := h r (Or.inl hr)
    have := ab_nn (A r x)
    omega)
  by_cases c : i < k
  · rw [if_pos c, NN_lt c]
    exact d1 i c
  · rw [if_neg c]
    unfold NN
    rw [if_neg c]
    have e1 := ab_sub (A i j * det k A) (sumN k (fun x => A i x * det k (cu A x (fun r => A r j))))
    have e2 := ab_sum (fun x => A i x * det k (cu A x (fun r => A r j))) k
    have e3 : sumN k (fun x => ab (A i x * det k (cu A x (fun r => A r j)))) ≤ sumN k (fun x => prodN k R * ab (A i x)) := sumN_le (fun x hx => by
      rw [ab_mul, Int.mul_comm (prodN k R)]
      exact Int.mul_le_mul_of_nonneg_left (d1 x hx) (ab_nn _))
    rw [sumN_mul] at e3
    have e4 : ab (A i j * det k A) ≤ prodN k R * ab (A i j) := by
      rw [ab_mul, Int.mul_comm (prodN k R)]
      exact Int.mul_le_mul_of_nonneg_left d0 (ab_nn _)
    have e5 : prodN k R * sumN k (fun x => ab (A i x)) + prodN k R * ab (A i j) ≤ prodN k R * R i := by
      rw [← Int.mul_add]
      exact Int.mul_le_mul_of_nonneg_left (h i (Or.inr rfl)) hp
    omega
/-- left of the pivots the cells are the determinant or 0 -/
theorem NN_left {A : Nat → Nat → Int} {k i j : Nat} (hj : j < k) : NN A k i j = if i = j then det k A else 0 := by
  have col : ∀ x, x < k → det k (cu A x (fun r => A r j)) = if x = j then det k A else 0 := fun x hx => by
    by_cases c : x = j
    · rw [if_pos c, c, cu_self]
    · rw [if_neg c]
      exact det_alt k hx hj c _ (fun r _ => by rw [cu_eq, cu_ne (Ne.symm c)])
  by_cases c : i < k
  · rw [NN_lt c, col i c]
  · unfold NN
    rw [if_neg c, if_neg (by omega)]
    have e : sumN k (fun x => A i x * det k (cu A x (fun r => A r j))) = sumN k (fun x => if x = j then A i j * det k A else 0) := sumN_congr (fun x hx => by
      rw [col x hx]
      by_cases d : x = j
      · rw [if_pos d, if_pos d, d]
      · rw [if_neg d, if_neg d, Int.mul_zero])
    rw [e, sumN_one _ hj]
    omega
