/-! a product of numbers with a small sum is small -/
def prN : Nat → (Nat → Nat) → Nat
  | 0, _ => 1
  | n + 1, R => prN n R * R n
def sN : Nat → (Nat → Nat) → Nat
  | 0, _ => 0
  | n + 1, R => sN n R + R n
theorem pw4 : ∀ d, d ≤ 20 → (3 * d) ^ 4 ≤ 1701 * 2 ^ d := by decide
theorem prod4 {R d : Nat → Nat} {f : Nat → Bool} : ∀ k, (∀ r, r < k → R r ≤ (if f r = true then 3 * d r else 1) ∧ d r ≤ 20) → prN k R ^ 4 ≤ 1701 ^ (sN k (fun r => if f r = true then 1 else 0)) * 2 ^ (sN k (fun r => if f r = true then d r else 0)) := by
  intro k
  induction k with
  | zero => intro _; exact (by decide : 1 ^ 4 ≤ 1701 ^ 0 * 2 ^ 0)
  | succ k ih =>
    intro h
    have i1 := ih (fun r hr => h r (by omega))
    obtain ⟨h1, h2⟩ := h k (by omega)
    show (prN k R * R k) ^ 4 ≤ 1701 ^ (sN k (fun r => if f r = true then 1 else 0) + if f k = true then 1 else 0) * 2 ^ (sN k (fun r => if f r = true then d r else 0) + if f k = true then d k else 0)
    rw [Nat.mul_pow, Nat.pow_add, Nat.pow_add]
    by_cases c : f k = true
    · rw [if_pos c] at h1
      rw [if_pos c, if_pos c, Nat.pow_one]
      have e1 : R k ^ 4 ≤ 1701 * 2 ^ d k := Nat.le_trans (Nat.pow_le_pow_left h1 4) (pw4 (d k) h2)
      have e2 := Nat.mul_le_mul i1 e1
      refine Nat.le_trans e2 (Nat.le_of_eq ?_)
      ac_rfl
    · rw [if_neg c] at h1
      rw [if_neg c, if_neg c, Nat.pow_zero, Nat.mul_one, Nat.mul_one]
      have e1 : R k ^ 4 ≤ 1 := Nat.le_trans (Nat.pow_le_pow_left h1 4) (by decide)
      have e2 := Nat.mul_le_mul i1 e1
      omega
theorem prod_small {R d : Nat → Nat} {f : Nat → Bool} {k : Nat} (h : ∀ r, r < k → R r ≤ (if f r = true then 3 * d r else 1) ∧ d r ≤ 20) (h7 : sN k (fun r => if f r = true then 1 else 0) ≤ 7) (h40 : sN k (fun r => if f r = true then d r else 0) ≤ 40) : prN k R < 500000000 := by
  have e1 := prod4 k h
  have e2 : 1701 ^ (sN k (fun r => if f r = true then 1 else 0)) ≤ 1701 ^ 7 := Nat.pow_le_pow_right (by decide) h7
  have e3 : 2 ^ (sN k (fun r => if f r = true then d r else 0)) ≤ 2 ^ 40 := Nat.pow_le_pow_right (by decide) h40
  have e4 := Nat.le_trans e1 (Nat.mul_le_mul e2 e3)
  have e5 : 1701 ^ 7 * 2 ^ 40 < 500000000 ^ 4 := by decide
  apply Classical.byContradiction
  intro c
  have e6 : 500000000 ^ 4 ≤ prN k R ^ 4 := Nat.pow_le_pow_left (by omega) 4
  omega
theorem prodN_cast (R : Nat → Nat) : ∀ k, prodN k (fun r => (R r : Int)) = ((prN k R : Nat) : Int) := by
  intro k
  induction k with
  | zero => rfl
  | succ k ih =>
    show prodN k (fun r => (R r : Int)) * (R k : Int) = ((prN k R * R k : Nat) : Int)
    rw [ih, Int.natCast_mul]
