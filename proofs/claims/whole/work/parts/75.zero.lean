/-! a corner that is 0 on the way: then the whole determinant is 0 -/
def ce (s : Sto) (a b i : Nat) : Int := if fre s i = true then dl a i - dl b i else 0
theorem eJ_ce (s : Sto) (a b i j : Nat) : eJ s a b i j = ce s a b i * ce s a b j := by
  unfold eJ ce
  by_cases c : fre s i = true <;> by_cases d : fre s j = true
  · rw [if_pos ⟨c, d⟩, if_pos c, if_pos d]
  · rw [if_neg (fun z => d z.2), if_neg d, Int.mul_zero]
  · rw [if_neg (fun z => c z.1), if_neg c, Int.zero_mul]
  · rw [if_neg (fun z => c z.1), if_neg c, Int.zero_mul]
/-- an edge's difference of X -/
def sE (s : Sto) (X : Nat → Int) (N e : Nat) : Int := sumN N (fun j => ce s (lbl s (s 2 e)) (lbl s (s 3 e)) j * X j)
theorem LM_X {s : Sto} {B m N : Nat} (X : Nat → Int) {i : Nat} (hi : i < N) : sumN N (fun j => LM s B m i j * X j) = (if fre s i = false then X i else 0) + sumN m (fun e => if B.testBit e = true then 0 else ce s (lbl s (s 2 e)) (lbl s (s 3 e)) i * sE s X N e) := by
  have e1 : sumN N (fun j => LM s B m i j * X j) = sumN N (fun j => (if j = i then (if fre s i = false then X i else 0) else 0) + sumN m (fun e => (if B.testBit e = true then 0 else eJ s (lbl s (s 2 e)) (lbl s (s 3 e)) i j) * X j)) := sumN_congr (fun j _ => by
    unfold LM
    rw [Int.add_mul, ← sumN_mulr]
    congr 1
    by_cases c : j = i
    · subst c
      rw [if_pos rfl]
      by_cases d : fre s j = false
      · rw [if_pos ⟨rfl, d⟩, if_pos d, Int.one_mul]
      · rw [if_neg (fun z => d z.2), if_neg d, Int.zero_mul]
    · rw [if_neg (fun z => c z.1.symm), if_neg c, Int.zero_mul])
  rw [e1, sumN_add, sumN_one _ hi, sumN_comm]
  congr 1
  refine sumN_congr (fun e _ => ?_)
  by_cases c : B.testBit e = true
  · rw [if_pos c]
    exact sumN_z (fun j _ => by rw [if_pos c, Int.zero_mul])
  · rw [if_neg c]
    unfold sE
    rw [← sumN_mul]
    exact sumN_congr (fun j _ => by rw [if_neg c, eJ_ce, Int.mul_assoc])
theorem sq_nn (x : Int) : 0 ≤ x * x := by
  by_cases c : 0 ≤ x
  · exact Int.mul_nonneg c c
  · have := Int.mul_nonneg (a := -x) (b := -x) (by omega) (by omega)
    rw [Int.neg_mul_neg] at this
    exact this
theorem sq_z {x : Int} (h : x * x ≤ 0) : x = 0 := by
  have h1 : x * x = 0 := by have := sq_nn x; omega
  exact (Int.mul_eq_zero.mp h1).elim id id
theorem LM_Q {s : Sto} {B m N : Nat} (X : Nat → Int) : sumN N (fun i => X i * sumN N (fun j => LM s B m i j * X j)) = sumN N (fun i => if fre s i = false then X i * X i else 0) + sumN m (fun e => if B.testBit e = true then 0 else sE s X N e * sE s X N e) := by
  have e1 : sumN N (fun i => X i * sumN N (fun j => LM s B m i j * X j)) = sumN N (fun i => (if fre s i = false then X i * X i else 0) + sumN m (fun e => if B.testBit e = true then 0 else ce s (lbl s (s 2 e)) (lbl s (s 3 e)) i * X i * sE s X N e)) := sumN_congr (fun i hi => by
    rw [LM_X X hi, Int.mul_add, ← sumN_mul]
    congr 1
    · split
      · rfl
      · exact Int.mul_zero _
    · refine sumN_congr (fun e _ => ?_)
      split
      · exact Int.mul_zero _
      · rw [← Int.mul_assoc, Int.mul_comm (X i)])
  rw [e1, sumN_add, sumN_comm]
  congr 1
  refine sumN_congr (fun e _ => ?_)
  by_cases c : B.testBit e = true
  · rw [if_pos c]
    exact sumN_z (fun i _ => if_pos c)
  · rw [if_neg c, sumN_congr (fun i _ => if_neg c), sumN_mulr]
    rfl
theorem LM_ker {s : Sto} {B m N : Nat} {X : Nat → Int} (h : sumN N (fun i => X i * sumN N (fun j => LM s B m i j * X j)) = 0) {i : Nat} (hi : i < N) : sumN N (fun j => LM s B m i j * X j) = 0 := by
  rw [LM_Q] at h
  have n1 : ∀ i, i < N → 0 ≤ (if fre s i = false then X i * X i else 0) := fun i _ => by split; exact sq_nn _; exact Int.le_refl 0
  have n2 : ∀ e, e < m → 0 ≤ (if B.testBit e = true then 0 else sE s X N e * sE s X N e) := fun e _ => by split; exact Int.le_refl 0; exact sq_nn _
  have s1 := sumN_nn n1
  have s2 := sumN_nn n2
  rw [LM_X X hi]
  have g1 := sumN_ge n1 hi
  have z1 : (if fre s i = false then X i else 0) = 0 := by
    by_cases c : fre s i = false
    · rw [if_pos c] at g1 ⊢
      exact sq_z (by omega)
    · exact if_neg c
  rw [z1, sumN_z (fun e he => ?_)]
  · rfl
  · have g2 := sumN_ge n2 he
    by_cases c : B.testBit e = true
    · exact if_pos c
    · rw [if_neg c] at g2 ⊢
      rw [sq_z (x := sE s X N e) (by omega), Int.mul_zero]
theorem LM_zero {s : Sto} {B m N k : Nat} (hk : k < N) (h0 : det k (LM s B m) ≠ 0) (h1 : det (k + 1) (LM s B m) = 0) : det N (LM s B m) = 0 := by
  apply Classical.byContradiction
  intro hd
  let X : Nat → Int := fun i => if i < k then NN (LM s B m) k i k else if i = k then - det k (LM s B m) else 0
  have row : ∀ l, sumN N (fun j => LM s B m l j * X j) = sumN k (fun j => LM s B m l j * NN (LM s B m) k j k) - LM s B m l k * det k (LM s B m) := by
    intro l
    have e := sumN_split (a := k + 1) (b := N - (k + 1)) (fun j => LM s B m l j * X j)
    rw [show k + 1 + (N - (k + 1)) = N by omega] at e
    rw [e, sumN_z (n := N - (k + 1)) (fun j _ => by
      show LM s B m l (k + 1 + j) * X (k + 1 + j) = 0
      rw [show X (k + 1 + j) = 0 by show (if k + 1 + j < k then _ else _) = _; rw [if_neg (by omega), if_neg (by omega)], Int.mul_zero])]
    show sumN k (fun j => LM s B m l j * X j) + LM s B m l k * X k + 0 = _
    rw [show X k = - det k (LM s B m) by show (if k < k then _ else _) = _; rw [if_neg (by omega), if_pos rfl], sumN_congr (g := fun j => LM s B m l j * NN (LM s B m) k j k) (fun j hj => by
      show LM s B m l j * X j = _
      rw [show X j = NN (LM s B m) k j k from if_pos hj]), Int.mul_neg]
    omega
  have hQ : sumN N (fun i => X i * sumN N (fun j => LM s B m i j * X j)) = 0 := sumN_z (fun i hi => by
    by_cases c : i < k
    · rw [row i, NN_sum c, Int.sub_self, Int.mul_zero]
    · by_cases d : i = k
      · subst d
        have e := NN_ge (A := LM s B m) (Nat.le_refl i) i
        rw [NN_pivot, h1] at e
        rw [row i, show sumN i (fun j => LM s B m i j * NN (LM s B m) i j i) - LM s B m i i * det i (LM s B m) = 0 by omega, Int.mul_zero]
      · rw [show X i = 0 by show (if i < k then _ else _) = _; rw [if_neg c, if_neg d], Int.zero_mul])
  have u := det_uniq (k := N) (A := LM s B m) (y := X) (z := fun _ => 0) (fun l hl => by
    rw [LM_ker hQ hl]
    exact (sumN_z (fun j _ => Int.mul_zero _)).symm) hd hk
  have e : X k = - det k (LM s B m) := by show (if k < k then _ else _) = _; rw [if_neg (by omega), if_pos rfl]
  rw [e] at u
  exact h0 (by omega)
