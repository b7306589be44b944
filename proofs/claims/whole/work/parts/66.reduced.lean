/-! the graph's own matrix, a unit row for the sink -/
def RLm (s : Sto) (i j : Nat) : Int := if i = (s 1 2).toNat ∨ j = (s 1 2).toNat ∨ j = (s 1 0).toNat then (if i = j then 1 else 0) else if i = j then s 13 i else - s (5 + i) j
theorem LM_id {s : Sto} (h : WG s) (hid : ∀ v, v < (s 1 0).toNat → s 14 v = (v : Int)) {i j : Nat} (hi : i < (s 1 0).toNat) (hj : j ≤ (s 1 0).toNat) : LM s 0 (s 1 1).toNat i j = RLm s i j := by
  have hn := h.1
  have hK := h.K
  have hKi := hid _ hK
  have fr1 : ∀ v, fre s v = true ↔ v < (s 1 0).toNat ∧ v ≠ (s 1 2).toNat := fun v => by
    rw [fre_iff, hKi]
    constructor
    · rintro ⟨a, _, c⟩; exact ⟨a, by omega⟩
    · rintro ⟨a, c⟩; exact ⟨a, hid v a, by omega⟩
  have edge : ∀ e, e < (s 1 1).toNat → lbl s (s 2 e) = (s 2 e).toNat ∧ lbl s (s 3 e) = (s 3 e).toNat := fun e he => by
    have hF := h.2.2.2.1 e (by omega)
    unfold lbl
    rw [hid _ (by omega), hid _ (by omega)]
    exact ⟨toNat_n _, toNat_n _⟩
  unfold LM RLm
  by_cases c : i = (s 1 2).toNat ∨ j = (s 1 2).toNat ∨ j = (s 1 0).toNat
  · rw [if_pos c, sumN_z (fun e he => by
      rw [if_neg (by rw [Nat.zero_testBit]; decide)]
      unfold eJ
      refine if_neg (fun z => ?_)
      have z1 := (fr1 i).mp z.1
      have z2 := (fr1 j).mp z.2
      omega)]
    by_cases d : i = j
    · have : fre s i = false := by
        cases q : fre s i
        · rfl
        · have := (fr1 i).mp q; omega
      rw [if_pos ⟨d, this⟩, if_pos d]; rfl
    · rw [if_neg (fun z => d z.1), if_neg d]; rfl
  · rw [if_neg c]
    have fi : fre s i = true := (fr1 i).mpr ⟨hi, by omega⟩
    have fj : fre s j = true := (fr1 j).mpr ⟨by omega, by omega⟩
    rw [if_neg (fun z => by rw [fi] at z; cases z.2)]
    by_cases d : i = j
    · subst d
      rw [if_pos rfl, h.2.2.2.2.2 i (by omega)]
      unfold dg
      rw [Int.zero_add]
      refine sumN_congr (fun e he => ?_)
      have hF := h.2.2.2.1 e (by omega)
      rw [if_neg (by rw [Nat.zero_testBit]; decide), (edge e he).1, (edge e he).2]
      unfold eJ dl dgE
      rw [if_pos ⟨fi, fi⟩]
      by_cases c1 : (s 2 e).toNat = i
      · rw [if_pos c1, if_neg (show ¬ (s 3 e).toNat = i by omega), if_pos (Or.inl (by omega))]; rfl
      · by_cases c2 : (s 3 e).toNat = i
        · rw [if_neg c1, if_pos c2, if_pos (Or.inr (by omega))]; rfl
        · rw [if_neg c1, if_neg c2, if_neg (by omega)]; rfl
    · rw [if_neg d, h.2.2.2.2.1 i j (by omega) (by omega), Int.zero_add]
      unfold jn
      rw [← sumN_neg]
      refine sumN_congr (fun e he => ?_)
      have hF := h.2.2.2.1 e (by omega)
      rw [if_neg (by rw [Nat.zero_testBit]; decide), (edge e he).1, (edge e he).2]
      unfold eJ dl jnE
      rw [if_pos ⟨fi, fj⟩]
      by_cases c1 : (s 2 e).toNat = i <;> by_cases c2 : (s 3 e).toNat = i <;> by_cases c3 : (s 2 e).toNat = j <;> by_cases c4 : (s 3 e).toNat = j <;> simp only [c1, c2, c3, c4, if_true, if_false, if_pos, if_neg, not_false_eq_true] <;> (split <;> omega)
