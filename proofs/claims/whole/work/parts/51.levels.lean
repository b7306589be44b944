/-! levels -/
theorem ofI_inv : ∀ S : Nat, S < 256 → Int32.ofInt (ixor (S : Int) (-1)) = nI (2 ^ 32 - (S + 1)) := by decide +kernel
theorem iand_inv {p S : Nat} (hp : p < 256) (hS : S < 256) : iand p (ixor S (-1)) = ((p &&& (2 ^ 32 - (S + 1)) : Nat) : Int) := by
  unfold iand
  rw [ofI_inv S hS, ofInt_nI, nx_and, nIT (Nat.lt_of_le_of_lt Nat.and_le_left (by omega))]
theorem tb_inv {p S : Nat} (hp : p < 256) (hS : S < 256) (i : Nat) : (p &&& (2 ^ 32 - (S + 1))).testBit i = (p.testBit i && !S.testBit i) := by
  rw [Nat.testBit_and, Nat.testBit_two_pow_sub_succ (by omega)]
  by_cases c : i < 32
  · rw [decide_eq_true c, Bool.true_and]
  · have h1 : (2 : Nat) ^ 8 ≤ 2 ^ i := Nat.pow_le_pow_right (by decide) (by omega)
    rw [Nat.testBit_lt_two_pow (Nat.lt_of_lt_of_le hp h1)]
    rfl
theorem inv_z {p S : Nat} (hp : p < 256) (hS : S < 256) : iand p (ixor S (-1)) = 0 ↔ p &&& S = p := by
  rw [iand_inv hp hS]
  constructor
  · intro z
    have z2 : p &&& (2 ^ 32 - (S + 1)) = 0 := by omega
    apply Nat.eq_of_testBit_eq
    intro i
    have h1 := tb_inv hp hS i
    rw [z2, Nat.zero_testBit] at h1
    rw [Nat.testBit_and]
    cases c1 : p.testBit i <;> cases c2 : S.testBit i
    · rfl
    · rfl
    · rw [c1, c2] at h1; cases h1
    · rfl
  · intro z
    have : p &&& (2 ^ 32 - (S + 1)) = 0 := by
      apply Nat.eq_of_testBit_eq
      intro i
      rw [tb_inv hp hS, Nat.zero_testBit]
      cases c1 : p.testBit i
      · rfl
      · rw [sub_tb z c1]; rfl
    rw [this]; rfl
theorem inv_x {p S : Nat} (hp : p < 256) (hS : S < 256) (h : p &&& S = p) : iand S (ixor p (-1)) = ((S ^^^ p : Nat) : Int) := by
  rw [iand_inv hS hp]
  congr 1
  apply Nat.eq_of_testBit_eq
  intro i
  rw [tb_inv hS hp, Nat.testBit_xor]
  cases c1 : p.testBit i
  · simp
  · rw [sub_tb h c1]; rfl
theorem ein_n {a f g : Nat} (ha : a < 256) (hf : f < 32) (hg : g < 32) : iand (iand (ishr a f) (ishr a g)) 1 = if (a.testBit f && a.testBit g) = true then 1 else 0 := by
  rw [ishr_n (by omega) hf, ishr_n (by omega) hg, iand_n (Nat.lt_of_le_of_lt (Nat.shiftRight_le a f) (by omega))]
  have h1 : iand (((a >>> f &&& a >>> g : Nat)) : Int) 1 = iand ((a >>> f &&& a >>> g : Nat) : Int) ((1 : Nat) : Int) := rfl
  rw [h1, iand_nr (by decide), Nat.and_one_is_mod]
  have h2 : (a.testBit f && a.testBit g) = decide (((a >>> f) &&& (a >>> g)) % 2 = 1) := by
    rw [← Nat.testBit_zero, Nat.testBit_and, Nat.testBit_shiftRight, Nat.testBit_shiftRight, Nat.add_zero, Nat.add_zero]
  rw [h2]
  rcases Nat.mod_two_eq_zero_or_one ((a >>> f) &&& (a >>> g)) with q | q <;> rw [q] <;> rfl
theorem pow_n8 {m : Nat} (h : m ≤ 8) : 2 ^ m ≤ 256 := (Nat.pow_le_pow_right (by decide) h : 2 ^ m ≤ 2 ^ 8)
theorem k_Le_countEdgesInside {s : Sto} (h : WG s) : K_Le_countEdgesInside s (fun s' => ∃ g, s' = wr s 56 g ∧ ∀ S, S < 2 ^ (s 1 0).toNat → g S = cntD (Ein s S) (s 1 1).toNat) := by
  have hn := h.1
  have hm := h.2.1
  have hN : 2 ^ (s 1 0).toNat ≤ 256 := pow_n8 (by omega)
  have e1 : ishl 1 (s 1 0) = ((2 ^ (s 1 0).toNat : Nat) : Int) := by
    have := ishl_one (s 1 0).toNat (by omega)
    rw [Int.toNat_of_nonneg (by omega)] at this
    exact this
  refine e_Le_countEdgesInside ?_
  rw [e1]
  generalize hNN : 2 ^ (s 1 0).toNat = N at *
  refine loop_inv (α := Sto) (N := N) (fun j q => ∃ g, q = wr s 56 g ∧ ∀ S, S < j → g S = cntD (Ein s S) (s 1 1).toNat) (fun j q => H_Le_countEdgesInside_12 _ N j q) (fun j q hj hI ih => ?_) (fun q hI => ?_) 0 s (by omega) ⟨s 56, (wr_self s 56).symm, fun S z => absurd z (by omega)⟩
  · obtain ⟨g, e, hg⟩ := hI
    refine b_Le_countEdgesInside_12 ⟨by omega, fun c => absurd c (by omega), fun _ => ⟨by omega, fun c => absurd c (by omega), fun _ => ⟨by omega, fun s1 e1 => ?_⟩⟩⟩
    refine loop_inv (α := Sto) (N := (s 1 1).toNat) (fun i q => ∃ g, q = wr s 56 g ∧ (∀ S, S < j → g S = cntD (Ein s S) (s 1 1).toNat) ∧ g j = cntD (Ein s j) i) (fun i q => H_Le_countEdgesInside_33 _ N j i q) (fun i q hi hI ih2 => ?_) (fun q hI => ?_) 0 s1 (by omega) ?_
    · obtain ⟨g, e, hg, hgj⟩ := hI
      have hF := h.2.2.2.1 i (by omega)
      have e2 : q 2 i = ((s 2 i).toNat : Int) := by rw [e, wr_ne (by decide)]; omega
      have e3 : q 3 i = ((s 3 i).toNat : Int) := by rw [e, wr_ne (by decide)]; omega
      have e4 : q 1 1 = s 1 1 := by rw [e, wr_ne (by decide)]
      refine b_Le_countEdgesInside_33 ⟨by omega, fun c => absurd c (by omega), fun _ => ⟨by omega, by omega, by omega, by omega, fun s2 ee => ?_⟩⟩
      rw [nat_suc]
      refine ih2 s2 ⟨fu g j (g j + if Ein s j i = true then 1 else 0), ?_, fun S hS => ?_, ?_⟩
      · rw [ee, toNat_n, toNat_n, e2, e3, ein_n (by omega) (by omega) (by omega), e, up_wr_wr, wr_eq]
        rfl
      · rw [fu_ne (by omega)]; exact hg S hS
      · rw [fu_eq, hgj]
        show _ = (((if Ein s j i then cntD (Ein s j) i + 1 else cntD (Ein s j) i) : Nat) : Int)
        cases Ein s j i
        · simp
        · simp
    · obtain ⟨g, e, hg, hgj⟩ := hI
      have e4 : q 1 1 = s 1 1 := by rw [e, wr_ne (by decide)]
      refine b_Le_countEdgesInside_33 ⟨by omega, fun _ => ?_, fun c => absurd c (by omega)⟩
      rw [nat_suc]
      refine ih q ⟨g, e, fun S hS => ?_⟩
      by_cases d : S = j
      · rw [d]; exact hgj
      · exact hg S (by omega)
    · exact ⟨fu g j 0, by rw [e1, e, up_wr_wr, toNat_n], fun S hS => by rw [fu_ne (by omega)]; exact hg S hS, by rw [fu_eq]; rfl⟩
  · obtain ⟨g, e, hg⟩ := hI
    exact b_Le_countEdgesInside_12 ⟨by omega, fun _ => ⟨g, e, hg⟩, fun c => absurd c (by omega)⟩
theorem k_Le_subtractShifted {k0 k1 t : Nat} (hk0 : ar SC k0 2 21) (hk1 : ar SC k1 2 21) (hne : k1 ≠ k0) (ht : t ≤ 20) {s : Sto} : K_Le_subtractShifted k0 k1 t s (fun s' => s' = wr s k0 (fun i => if i < 21 then s k0 i - shn t (s k1) i else s k0 i)) := by
  refine e_Le_subtractShifted hk0 hk1 ?_
  refine loop_inv (α := Sto) (N := 21 - t) (fun j q => q = wr s k0 (fun i => if i < j + t then s k0 i - shn t (s k1) i else s k0 i)) (fun j q => H_Le_subtractShifted_2 _ k0 k1 t j q) (fun j q hj hI ih => ?_) (fun q hI => ?_) 0 s (by omega) ?_
  · refine b_Le_subtractShifted_2 hk0 hk1 ⟨by omega, fun c => absurd c (by omega), fun _ => ⟨by omega, fun c => absurd c (by omega), fun _ => ⟨by omega, by omega, by omega, fun s1 e1 => ?_⟩⟩⟩
    rw [nat_suc]
    refine ih s1 ?_
    rw [e1, hI, up_wr_wr, wr_eq, wr_ne hne, toNat_n, show Int.toNat ((j : Int) + (t : Int)) = j + t by omega]
    congr 1
    funext i
    unfold fu
    by_cases c : i = j + t
    · subst c
      rw [if_pos rfl, if_neg (by omega), if_pos (by omega), shn_at, if_neg (by omega), show j + t - t = j by omega]
    · rw [if_neg c]
      exact ite_congr (propext (by omega)) (fun _ => rfl) (fun _ => rfl)
  · have ee : q = wr s k0 (fun i => if i < 21 then s k0 i - shn t (s k1) i else s k0 i) := by
      rw [hI]
      congr 1
      funext i
      exact ite_congr (propext (by omega)) (fun _ => rfl) (fun _ => rfl)
    exact b_Le_subtractShifted_2 hk0 hk1 ⟨by omega, fun _ => ee, fun _ => ⟨by omega, fun _ => ee, fun c => absurd c (by omega)⟩⟩
  · show s = _
    rw [show (fun i => if i < 0 + t then s k0 i - shn t (s k1) i else s k0 i) = s k0 from funext fun i => by
      rw [shn_at]
      by_cases c : i < 0 + t
      · rw [if_pos c, if_pos (by omega)]; omega
      · rw [if_neg c], wr_self]
theorem k_Le_divideByYMinusOne {s : Sto} (f : Nat → Int) (hf : ∀ i, i < 21 → s 186 i = zm f i) (h20 : f 20 = 0) : K_Le_divideByYMinusOne s (fun s' => ∃ g, s' = wr s 186 g ∧ ∀ i, i < 21 → g i = f i) := by
  refine e_Le_divideByYMinusOne ?_
  suffices z : H_Le_divideByYMinusOne_5 (fun s' => ∃ g, s' = wr s 186 g ∧ ∀ i, i < 21 → g i = f i) (sh f (21 - 0)) (20 - ((0 : Nat) : Int)) s by
    have e0 : sh f (21 - 0) = 0 := h20
    rw [e0] at z
    exact z
  refine loop_inv (α := Sto) (N := 21) (fun j q => ∃ g, q = wr s 186 g ∧ (∀ i, 21 ≤ i + j → i < 21 → g i = f i) ∧ ∀ i, i + j < 21 → g i = zm f i) (fun j q => H_Le_divideByYMinusOne_5 _ (sh f (21 - j)) (20 - (j : Int)) q) (fun j q hj hI ih => ?_) (fun q hI => ?_) 0 s (by omega) ⟨s 186, (wr_self s 186).symm, fun i h1 h2 => absurd h1 (by omega), fun i h1 => hf i (by omega)⟩
  · obtain ⟨g, e, h1, h2⟩ := hI
    refine b_Le_divideByYMinusOne_5 ⟨by omega, fun c => absurd c (by omega), fun _ => ⟨by omega, by omega, fun s1 e1 => ?_⟩⟩
    have et : Int.toNat (20 - (j : Int)) = 20 - j := by omega
    rw [et] at e1 ⊢
    have e3 : sh f (21 - j) = f (20 - j) := by
      unfold sh
      rw [if_neg (by omega), show 21 - j - 1 = 20 - j by omega]
    have e2 : sh f (21 - j) + q 186 (20 - j) = sh f (21 - (j + 1)) := by
      rw [e, wr_eq, h2 (20 - j) (by omega), e3]
      unfold zm
      rw [show 21 - (j + 1) = 20 - j by omega]
      omega
    rw [e2, show (20 - (j : Int) - 1) = 20 - ((j + 1 : Nat) : Int) by omega]
    refine ih s1 ⟨fu g (20 - j) (f (20 - j)), by rw [e1, e, up_wr_wr, e3], fun i a b => ?_, fun i a => ?_⟩
    · by_cases d : i = 20 - j
      · rw [d, fu_eq]
      · rw [fu_ne d]; exact h1 i (by omega) b
    · rw [fu_ne (by omega)]; exact h2 i (by omega)
  · obtain ⟨g, e, h1, h2⟩ := hI
    exact b_Le_divideByYMinusOne_5 ⟨by omega, fun _ => ⟨g, e, fun i hi => h1 i (by omega) hi⟩, fun c => absurd c (by omega)⟩
