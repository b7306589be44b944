/-! rows' sums of the graph's matrix -/
theorem dl_sum (a n : Nat) : sumN n (fun j => dl a j) ≤ 1 := by
  by_cases c : a < n
  · rw [sumN_congr (g := fun j => if j = a then 1 else 0) (fun j _ => by unfold dl; exact ite_congr (propext eq_comm) (fun _ => rfl) (fun _ => rfl)), sumN_one 1 c]
    decide
  · rw [sumN_z (fun j hj => by unfold dl; rw [if_neg (by omega)])]
    decide
theorem eJ_row {s : Sto} (a b i n : Nat) : sumN n (fun j => ab (eJ s a b i j)) ≤ 2 * eJ s a b i i := by
  by_cases f : fre s i = true
  · have e1 : sumN n (fun j => ab (eJ s a b i j)) ≤ sumN n (fun j => ab (dl a i - dl b i) * (dl a j + dl b j)) := sumN_le (fun j _ => by
      have hb : ab (dl a j - dl b j) ≤ dl a j + dl b j := by unfold dl ab; split <;> split <;> decide
      have h2 := Int.mul_le_mul_of_nonneg_left hb (ab_nn (dl a i - dl b i))
      unfold eJ
      split
      · rw [ab_mul]; exact h2
      · have h3 := Int.mul_nonneg (ab_nn (dl a i - dl b i)) (ab_nn (dl a j - dl b j))
        have h4 : ab 0 = 0 := rfl
        omega)
    rw [sumN_mul, sumN_add] at e1
    have h1 := dl_sum a n
    have h2 := dl_sum b n
    have h3 : ab (dl a i - dl b i) * (sumN n (fun j => dl a j) + sumN n (fun j => dl b j)) ≤ ab (dl a i - dl b i) * 2 := Int.mul_le_mul_of_nonneg_left (by omega) (ab_nn _)
    have h4 : ab (dl a i - dl b i) = eJ s a b i i := by
      have h5 : eJ s a b i i = (dl a i - dl b i) * (dl a i - dl b i) := if_pos ⟨f, f⟩
      rw [h5]
      unfold dl ab
      split <;> split <;> rfl
    have e2 : sumN n (fun j => ab (eJ s a b i j)) ≤ ab (dl a i - dl b i) * 2 := Int.le_trans e1 h3
    omega
  · have e0 : ∀ j, eJ s a b i j = 0 := fun j => if_neg (fun z => f z.1)
    rw [e0, sumN_z (fun j _ => by rw [e0]; rfl)]
    decide
theorem SPm_row {s : Sto} (B i n : Nat) : ∀ m, sumN n (fun j => ab (SPm s B m i j)) ≤ 2 * SPm s B m i i := by
  intro m
  induction m with
  | zero => exact Int.le_of_eq (sumN_z (f := fun j => ab (SPm s B 0 i j)) (fun j _ => rfl))
  | succ m ih =>
    have st : ∀ y, SPm s B (m + 1) i y = SPm s B m i y + if B.testBit m = true then 0 else eJ s (lbl s (s 2 m)) (lbl s (s 3 m)) i y := fun _ => rfl
    by_cases c : B.testBit m = true
    · have st2 : ∀ y, SPm s B (m + 1) i y = SPm s B m i y := fun y => by rw [st, if_pos c, Int.add_zero]
      rw [st2, sumN_congr (fun j _ => by rw [st2])]
      exact ih
    · have st2 : ∀ y, SPm s B (m + 1) i y = SPm s B m i y + eJ s (lbl s (s 2 m)) (lbl s (s 3 m)) i y := fun y => by rw [st, if_neg c]
      have e1 : sumN n (fun j => ab (SPm s B (m + 1) i j)) ≤ sumN n (fun j => ab (SPm s B m i j) + ab (eJ s (lbl s (s 2 m)) (lbl s (s 3 m)) i j)) := sumN_le (fun j _ => by
        rw [st2]
        unfold ab
        omega)
      rw [sumN_add] at e1
      have e2 := eJ_row (s := s) (lbl s (s 2 m)) (lbl s (s 3 m)) i n
      rw [st2]
      omega
