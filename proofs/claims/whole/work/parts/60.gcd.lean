/-! greatest common divisors; rests -/
theorem gcd_walk {s : Sto} {g : Nat} {Q : Int → Sto → Prop} (hQ : Q (g : Int) s) : ∀ (k a b c : Nat), a < 9223372036854775808 → b < 2 ^ k → b < 9223372036854775808 → c + 2 * k + 2 < 1000000 → Nat.gcd a b = g → H_Ma_commonDivisor_15 Q a b c s := by
  intro k
  induction k with
  | zero =>
    intro a b c ha hb _ hc hg
    have b0 : b = 0 := by omega
    subst b0
    rw [Nat.gcd_zero_right] at hg
    refine b_Ma_commonDivisor_15 ⟨by omega, fun _ => by rw [hg]; exact hQ, fun z => absurd rfl z⟩
  | succ k ih =>
    intro a b c ha hb hb2 hc hg
    refine b_Ma_commonDivisor_15 ⟨by omega, fun z => ?_, fun z => ⟨by omega, fun y => absurd y (by omega), fun _ => ⟨⟨⟨by omega, by omega⟩, z⟩, ?_⟩⟩⟩
    · have b0 : b = 0 := by omega
      rw [b0, Nat.gcd_zero_right] at hg
      rw [hg]; exact hQ
    · have bp : 0 < b := by omega
      have e1 : Int.tmod (a : Int) (b : Int) = ((a % b : Nat) : Int) := (Int.ofNat_tmod a b).symm
      have r1 := Nat.mod_lt a bp
      rw [e1, nat_suc]
      have hg2 : Nat.gcd b (a % b) = g := by rw [Nat.gcd_comm, ← Nat.gcd_rec, Nat.gcd_comm]; exact hg
      generalize hr : a % b = r at *
      refine b_Ma_commonDivisor_15 ⟨by omega, fun z => ?_, fun z => ⟨by omega, fun y => absurd y (by omega), fun _ => ⟨⟨⟨by omega, by omega⟩, z⟩, ?_⟩⟩⟩
      · have r0 : r = 0 := by omega
        rw [r0, Nat.gcd_zero_right] at hg2
        rw [hg2]; exact hQ
      · have rp : 0 < r := by omega
        have e2 : Int.tmod (b : Int) (r : Int) = ((b % r : Nat) : Int) := (Int.ofNat_tmod b r).symm
        have r2 := Nat.mod_lt b rp
        have r3 : b % r + r ≤ b := by
          have := Nat.div_add_mod b r
          have h1 : 1 ≤ b / r := Nat.div_pos (by omega) rp
          have h2 : r * 1 ≤ r * (b / r) := Nat.mul_le_mul_left r h1
          omega
        rw [e2, nat_suc]
        refine ih r (b % r) (c + 1 + 1) (by omega) (by have := Nat.pow_succ 2 k; omega) (by omega) (by omega) ?_
        rw [Nat.gcd_comm, ← Nat.gcd_rec, Nat.gcd_comm]
        exact hg2
theorem labs_eq (x : Int) : labs x = ((x.natAbs : Nat) : Int) := by
  unfold labs
  split <;> omega
theorem k_Ma_commonDivisor {x y : Int} {s : Sto} (hx : -9223372036854775808 < x ∧ x < 9223372036854775808) (hy : -9223372036854775808 < y ∧ y < 9223372036854775808) : K_Ma_commonDivisor x y s (fun r s' => s' = s ∧ r = ((Int.gcd x y : Nat) : Int)) := by
  refine e_Ma_commonDivisor ⟨by omega, by omega, ?_⟩
  rw [labs_eq, labs_eq]
  have h63 : y.natAbs < 2 ^ 63 := by
    have e : (2 : Nat) ^ 63 = 9223372036854775808 := by decide
    omega
  exact gcd_walk (Q := fun r s' => s' = s ∧ r = ((Int.gcd x y : Nat) : Int)) (g := Int.gcd x y) ⟨rfl, rfl⟩ 63 x.natAbs y.natAbs 0 (by omega) h63 (by omega) (by omega) rfl
theorem lxor_r (x y : Int) : -9223372036854775808 ≤ lxor x y ∧ lxor x y < 9223372036854775808 := by
  unfold lxor
  exact ⟨Int64.le_toInt _, Int64.toInt_lt _⟩
theorem lxor_nn {x y : Int} (hx : -9223372036854775808 ≤ x ∧ x < 9223372036854775808) (hy : 0 ≤ y ∧ y < 9223372036854775808) : 0 ≤ lxor x y ↔ 0 ≤ x := by
  have e1 : (Int64.ofInt x).toBitVec.toInt = x := Int64.toInt_ofInt_of_le hx.1 hx.2
  have e2 : (Int64.ofInt y).toBitVec.toInt = y := Int64.toInt_ofInt_of_le (by omega) hy.2
  have e3 : lxor x y = ((Int64.ofInt x).toBitVec ^^^ (Int64.ofInt y).toBitVec).toInt := rfl
  have m := BitVec.msb_xor (x := (Int64.ofInt x).toBitVec) (y := (Int64.ofInt y).toBitVec)
  rw [BitVec.msb_eq_toInt, BitVec.msb_eq_toInt, BitVec.msb_eq_toInt, e1, e2, ← e3, decide_eq_false (p := y < 0) (by omega), Bool.xor_false] at m
  by_cases c : x < 0
  · rw [decide_eq_true c, decide_eq_true_eq] at m
    omega
  · rw [decide_eq_false c, decide_eq_false_iff_not] at m
    omega
theorem k_JM_floorMod {x m : Int} {s : Sto} (hx : -9223372036854775808 ≤ x ∧ x < 9223372036854775808) (hm : 0 < m ∧ m < 9223372036854775808) : K_JM_floorMod x m s (fun r s' => s' = s ∧ r = x % m) := by
  have hl := lxor_nn (x := x) (y := m) hx (by omega)
  have ht := Int.tmod_eq_emod (a := x) (b := m)
  have h1 := Int.emod_nonneg x (b := m) (by omega)
  have h2 := Int.emod_lt_of_pos x hm.1
  have hd := Int.dvd_iff_emod_eq_zero (a := m) (b := x)
  have hn : ((m.natAbs : Nat) : Int) = m := by omega
  refine e_JM_floorMod ⟨⟨⟨hx, by omega⟩, by omega⟩, lxor_r x m, fun c => ⟨rfl, ?_⟩, fun c => ⟨?_, fun c2 => ⟨rfl, ?_⟩, fun c2 => ⟨rfl, ?_⟩⟩⟩
  all_goals
    by_cases d : 0 ≤ x ∨ m ∣ x
    · rw [if_pos d] at ht
      rcases d with d | d
      · omega
      · have := hd.mp d
        omega
    · rw [if_neg d, hn] at ht
      omega
