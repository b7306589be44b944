/-! the number of recurrent states of a level -/
theorem k_Le_countAt {x : Int} {s : Sto} (h : WG s) (hx : R32 x) : K_Le_countAt x s (fun r s' => (∀ k i, k < 56 ∨ 186 < k → s' k i = s k i) ∧ r = if 0 ≤ x ∧ x < 21 then bas s x.toNat else 0) := by
  have hn := h.1
  have hm := h.2.1
  unfold R32 at hx
  refine e_Le_countAt ⟨by omega, fun c => ⟨fun _ _ _ => rfl, by rw [if_neg (by omega)]⟩, fun c => ⟨by omega, fun c2 => ?_, fun c2 => ⟨fun _ _ _ => rfl, by rw [if_neg (by omega)]⟩⟩⟩
  refine ⟨_, k_Le_countEdgesInside h, ?_⟩
  rintro s7 ⟨g7, e7, hg7⟩
  have a7 : ∀ k i, k ≠ 56 → s7 k i = s k i := fun k i hk => by rw [e7, wr_ne hk]
  have h7 : WG s7 := h.of (fun k i _ _ => a7 k i (by omega))
  obtain ⟨N, hN⟩ : ∃ N, 2 ^ (s 1 0).toNat = 2 * N ∧ 1 ≤ N := ⟨2 ^ ((s 1 0).toNat - 1), by
    have e : (s 1 0).toNat = ((s 1 0).toNat - 1) + 1 := by omega
    conv => lhs; rw [e]
    rw [Nat.pow_succ]; omega, Nat.one_le_two_pow⟩
  have hN8 : 2 ^ (s 1 0).toNat ≤ 256 := pow_n8 (by omega)
  have e1 : ishl 1 (s7 1 0) = ((2 * N : Nat) : Int) := by
    rw [a7 1 0 (by decide)]
    have := ishl_one (s 1 0).toNat (by omega)
    rw [Int.toNat_of_nonneg (by omega), hN.1] at this
    exact this
  have ex : x = ((x.toNat : Nat) : Int) := by omega
  rw [e1]
  refine loop_inv (α := Sto) (N := N) (fun j q => (∀ k i, k < 58 ∨ 185 < k → q k i = s7 k i) ∧ ∀ j', j' < j → ∀ i, i < 21 → q (58 + j') i = PS s (2 * j' + 1) i) (fun j q => H_Le_countAt_28 _ x ((2 * N : Nat) : Int) ((2 * j + 1 : Nat) : Int) q) (fun j q hj hI ih => ?_) (fun q hI => ?_) 0 s7 (by omega) ⟨fun _ _ _ => rfl, fun j' z => absurd z (by omega)⟩
  · obtain ⟨i1, i2⟩ := hI
    have hq : WG q := h7.of (fun k i _ _ => i1 k i (by omega))
    have hag : ∀ k i, 1 ≤ k → k ≤ 13 → q k i = s k i := fun k i a b => by rw [i1 k i (by omega), a7 k i (by omega)]
    obtain ⟨p1, p2⟩ := PS_of hag
    have q0 : q 1 0 = s 1 0 := hag 1 0 (by decide) (by decide)
    have q1 : q 1 1 = s 1 1 := hag 1 1 (by decide) (by decide)
    have en : ((2 * j + 1 : Nat) : Int) + 2 = ((2 * (j + 1) + 1 : Nat) : Int) := by omega
    refine b_Le_countAt_28 ⟨⟨by omega, by omega⟩, fun c => absurd c (by omega), fun _ => ⟨by omega, fun c => absurd c (by omega), fun _ => ⟨_, k_Le_sumConnected hq (by rw [q0]; omega) (fun S hS => ?_) (fun j' hj' i hi => by rw [p1]; exact i2 j' hj' i hi), ?_⟩⟩⟩
    · rw [q0] at hS
      rw [i1 56 S (by omega), e7, wr_eq, hg7 S hS, p2, q1]
    · rintro s1 ⟨g, eg, hg⟩
      rw [en]
      refine ih s1 ⟨fun k i hk => by rw [eg, wr_ne (by omega)]; exact i1 k i hk, fun j' hj' i hi => ?_⟩
      by_cases d : j' = j
      · rw [d, eg, wr_eq, hg i hi, p1]
      · rw [eg, wr_ne (by omega)]; exact i2 j' (by omega) i hi
  · obtain ⟨i1, i2⟩ := hI
    have et : Int.tdiv (((2 * N : Nat) : Int) - 1) 2 = ((N - 1 : Nat) : Int) := by rw [Int.tdiv_eq_ediv_of_nonneg (by omega)]; omega
    refine b_Le_countAt_28 ⟨⟨by omega, by omega⟩, fun _ => ⟨by omega, ?_⟩, fun c => absurd c (by omega)⟩
    rw [et]
    refine loop_inv (α := Sto) (N := 21) (fun j q' => ∃ g, q' = wr q 186 g ∧ ∀ i, i < j → g i = PS s (2 * (N - 1) + 1) i) (fun j q' => H_Le_countAt_60 _ x ((N - 1 : Nat) : Int) j q') (fun j q' hj hI ih => ?_) (fun q' hI => ?_) 0 q (by omega) ⟨q 186, (wr_self q 186).symm, fun i z => absurd z (by omega)⟩
    · obtain ⟨g, e, hg⟩ := hI
      refine b_Le_countAt_60 ⟨by omega, fun c => absurd c (by omega), fun _ => ⟨by omega, by omega, by omega, fun s1 ee => ?_⟩⟩
      rw [nat_suc]
      refine ih s1 ⟨fu g j (PS s (2 * (N - 1) + 1) j), ?_, fun i hi => ?_⟩
      · have ev : q' (58 + (N - 1)) j = PS s (2 * (N - 1) + 1) j := by
          rw [e, wr_ne (by omega)]; exact i2 (N - 1) (by omega) j (by omega)
        rw [ee, toNat_n, toNat_n, ev, e, up_wr_wr]
      · by_cases d : i = j
        · rw [d, fu_eq]
        · rw [fu_ne d]; exact hg i (by omega)
    · obtain ⟨g, e, hg⟩ := hI
      refine b_Le_countAt_60 ⟨by omega, fun _ => ?_, fun c => absurd c (by omega)⟩
      have eb : PS s (2 * (N - 1) + 1) = zmn ((s 1 0).toNat - 1) (bas s) := by
        rw [show 2 * (N - 1) + 1 = 2 ^ (s 1 0).toNat - 1 by omega, PS_all h, merino h]
        rfl
      suffices z : H_Le_countAt_92 (fun r s' => (∀ k i, k < 56 ∨ 186 < k → s' k i = s k i) ∧ r = if 0 ≤ x ∧ x < 21 then bas s x.toNat else 0) x ((0 + 1 : Nat) : Int) q' from z
      refine loop_inv (α := Sto) (N := (s 1 0).toNat - 1) (fun j q2 => ∃ g, q2 = wr q 186 g ∧ ∀ i, i < 21 → g i = zmn ((s 1 0).toNat - 1 - j) (bas s) i) (fun j q2 => H_Le_countAt_92 _ x ((j + 1 : Nat) : Int) q2) (fun j q2 hj hI ih => ?_) (fun q2 hI => ?_) 0 q' (by omega) ⟨g, e, fun i hi => by rw [hg i hi, eb]; rfl⟩
      · obtain ⟨g, e, hg⟩ := hI
        have q0 : q2 1 0 = s 1 0 := by rw [e, wr_ne (by decide), i1 1 0 (by omega), a7 1 0 (by decide)]
        have er : (s 1 0).toNat - 1 - j = ((s 1 0).toNat - 1 - (j + 1)) + 1 := by omega
        refine b_Le_countAt_92 ⟨⟨by omega, by omega⟩, fun c => absurd c (by omega), fun _ => ⟨_, k_Le_divideByYMinusOne (zmn ((s 1 0).toNat - 1 - (j + 1)) (bas s)) (fun i hi => ?_) (bas_20 h (by omega)), ?_⟩⟩
        · rw [e, wr_eq, hg i hi, er]; rfl
        · rintro s1 ⟨g1, e1, hg1⟩
          rw [nat_suc]
          exact ih s1 ⟨g1, by rw [e1, e, wr_wr], hg1⟩
      · obtain ⟨g, e, hg⟩ := hI
        have q0 : q2 1 0 = s 1 0 := by rw [e, wr_ne (by decide), i1 1 0 (by omega), a7 1 0 (by decide)]
        refine b_Le_countAt_92 ⟨⟨by omega, by omega⟩, fun _ => ⟨by omega, fun k i hk => by rw [e, wr_ne (by omega), i1 k i (by omega), a7 k i (by omega)], ?_⟩, fun c => absurd c (by omega)⟩
        rw [e, wr_eq, hg _ (by omega), if_pos (by omega), Nat.sub_self]
        rfl
