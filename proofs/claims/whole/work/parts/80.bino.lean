/-! how many trees there can be -/
def bin : Nat → Nat → Nat
  | 0, 0 => 1
  | 0, _ + 1 => 0
  | m + 1, 0 => bin m 0
  | m + 1, k + 1 => bin m (k + 1) + bin m k
theorem bc_suc (T m : Nat) : bc T (m + 1) = bc T m + if T.testBit m = true then 1 else 0 := rfl
theorem bin_sum : ∀ m k : Nat, sumN (2 ^ m) (fun T => if bc T m = (k : Int) then 1 else 0) = (bin m k : Int)
  | 0, 0 => rfl
  | 0, k + 1 => by
    show (0 : Int) + (if bc 0 0 = ((k + 1 : Nat) : Int) then 1 else 0) = 0
    have : bc 0 0 = 0 := rfl
    rw [this, if_neg (by omega)]
    rfl
  | m + 1, k => by
    have e := sumN_split (a := 2 ^ m) (b := 2 ^ m) (fun T => if bc T (m + 1) = (k : Int) then (1 : Int) else 0)
    rw [show 2 ^ (m + 1) = 2 ^ m + 2 ^ m by rw [Nat.pow_succ]; omega, e]
    have e1 : sumN (2 ^ m) (fun T => if bc T (m + 1) = (k : Int) then (1 : Int) else 0) = (bin m k : Int) := by
      rw [← bin_sum m k]
      refine sumN_congr (fun T hT => ?_)
      rw [bc_suc, Nat.testBit_lt_two_pow hT, if_neg (show ¬ (false = true) by decide), Int.add_zero]
    have e2 : ∀ i, i < 2 ^ m → bc (2 ^ m + i) (m + 1) = bc i m + 1 := fun i hi => by
      rw [bc_suc, Nat.testBit_two_pow_add_eq, Nat.testBit_lt_two_pow hi]
      congr 1
      exact sumN_congr (fun j hj => by rw [Nat.testBit_two_pow_add_gt hj])
    rw [e1]
    cases k with
    | zero =>
      rw [sumN_z (fun i hi => by
        rw [e2 i hi]
        have := bc_nn i m
        exact if_neg (by omega))]
      show _ = ((bin m 0 : Nat) : Int)
      omega
    | succ k =>
      rw [sumN_congr (g := fun T => if bc T m = (k : Int) then 1 else 0) (fun i hi => by
        rw [e2 i hi]
        exact ite_congr (propext (by omega)) (fun _ => rfl) (fun _ => rfl)), bin_sum m k]
      show _ = ((bin m (k + 1) + bin m k : Nat) : Int)
      omega
theorem bin_le : ∀ m, m < 21 → ∀ k, k < 8 → bin m k ≤ 77520 := by decide +kernel
theorem trs_small {s : Sto} (h : WG s) : trs s ≤ 77520 := by
  have hn := h.1
  have hm := h.2.1
  have a := bin_le (s 1 1).toNat (by omega) ((s 1 0).toNat - 1) (by omega)
  have b := bin_sum (s 1 1).toNat ((s 1 0).toNat - 1)
  have c := sumN_le (n := 2 ^ (s 1 1).toNat) (f := fun T => ind (SpT s T)) (g := fun T => if bc T (s 1 1).toNat = (((s 1 0).toNat - 1 : Nat) : Int) then 1 else 0) (fun T _ => by
    by_cases c : SpT s T
    · have := c.2.1
      rw [ind_t c, if_pos (by omega)]; exact Int.le_refl 1
    · rw [ind_f c]; split <;> decide)
  unfold trs
  omega
/-- the graph is connected: there is a tree -/
theorem conn_cn {s : Sto} (h : WG s) (hC : Conn s) : CN s (2 ^ (s 1 1).toNat - 1) := by
  intro X hX hcl v hv
  obtain ⟨L, l1, l2⟩ := hC
  exact (l1.2.2 X (fun e he _ => hcl e he (bit_all he)) (s 1 2).toNat v h.K hv (cntL_one l1 l2 h.K hv)).mp hX
theorem conn_tree {s : Sto} (h : WG s) (hC : Conn s) : ∃ T, SpT s T := ⟨_, wl_SpT h (decT (2 ^ (s 1 1).toNat - 1)) ((conn_cn h hC).marked h)⟩
theorem trs_pos {s : Sto} (h : WG s) (hC : Conn s) : 0 < trs s := by
  obtain ⟨T, hT⟩ := conn_tree h hC
  have := sumN_ge (n := 2 ^ (s 1 1).toNat) (f := fun T => ind (SpT s T)) (fun _ _ => (ind_bd _).1) hT.lt
  rw [ind_t hT] at this
  unfold trs
  omega
theorem tree_conn {s : Sto} (h : WG s) {T : Nat} (hT : SpT s T) : Conn s := by
  have hn := h.1
  have hK := h.K
  refine ⟨fun _ => ((s 1 2).toNat : Int), ⟨fun v _ => ⟨by show 0 ≤ ((s 1 2).toNat : Int) ∧ ((s 1 2).toNat : Int) < _; omega, rfl⟩, fun _ _ _ => rfl, fun X hX v w hv hw _ => ?_⟩, ?_⟩
  · by_cases c : X (s 1 2).toNat
    · have a := hT.2.2 X c (fun e he _ => hX e he trivial)
      exact ⟨fun _ => a w hw, fun _ => a v hv⟩
    · have a := hT.2.2 (fun v => ¬ X v) c (fun e he _ => not_congr (hX e he trivial))
      exact ⟨fun z => absurd z (a v hv), fun z => absurd z (a w hw)⟩
  · unfold cntL
    rw [sumN_congr (g := fun v => if v = (s 1 2).toNat then 1 else 0) (fun v hv => ite_congr (propext (by show ((s 1 2).toNat : Int) = (v : Int) ↔ v = (s 1 2).toNat; omega)) (fun _ => rfl) (fun _ => rfl)), sumN_one 1 hK]
theorem trs_zero {s : Sto} (h : WG s) (hC : ¬ Conn s) : trs s = 0 := sumN_z (fun T _ => ind_f (fun z => hC (tree_conn h z)))
