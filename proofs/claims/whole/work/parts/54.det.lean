/-! determinants, by the last row, with columns put in place of others -/
def cu (A : Nat → Nat → Int) (j : Nat) (c : Nat → Int) : Nat → Nat → Int := fun r i => if i = j then c r else A r i
def det : Nat → (Nat → Nat → Int) → Int
  | 0, _ => 1
  | k + 1, A => A k k * det k A - sumN k (fun i => A k i * det k (cu A i (fun r => A r k)))
theorem cu_eq (A : Nat → Nat → Int) (j : Nat) (c : Nat → Int) (r : Nat) : cu A j c r j = c r := if_pos rfl
theorem cu_ne {A : Nat → Nat → Int} {j i : Nat} {c : Nat → Int} {r : Nat} (h : i ≠ j) : cu A j c r i = A r i := if_neg h
theorem cu_cu (A : Nat → Nat → Int) (j : Nat) (c d : Nat → Int) : cu (cu A j c) j d = cu A j d := by
  funext r i
  unfold cu
  split <;> rfl
theorem cu_comm {A : Nat → Nat → Int} {i j : Nat} (h : i ≠ j) (c d : Nat → Int) : cu (cu A j c) i d = cu (cu A i d) j c := by
  funext r x
  unfold cu
  by_cases c1 : x = i
  · rw [if_pos c1, if_neg (by omega), if_pos c1]
  · rw [if_neg c1]
    split <;> rfl
theorem cu_self (A : Nat → Nat → Int) (j : Nat) : cu A j (fun r => A r j) = A := by
  funext r i
  unfold cu
  split
  · next h => rw [h]
  · rfl
theorem det_ext : ∀ (k : Nat) {A B : Nat → Nat → Int}, (∀ r i, r < k → i < k → A r i = B r i) → det k A = det k B := by
  intro k
  induction k with
  | zero => intro A B _; rfl
  | succ k ih =>
    intro A B h
    show A k k * det k A - sumN k (fun i => A k i * det k (cu A i (fun r => A r k))) = B k k * det k B - sumN k (fun i => B k i * det k (cu B i (fun r => B r k)))
    rw [h k k (by omega) (by omega), ih (fun r i hr hi => h r i (by omega) (by omega))]
    congr 1
    refine sumN_congr (fun i hi => ?_)
    rw [h k i (by omega) (by omega)]
    congr 1
    refine ih (fun r x hr hx => ?_)
    show (if x = i then A r k else A r x) = if x = i then B r k else B r x
    rw [h r k (by omega) (by omega), h r x (by omega) (by omega)]
theorem det_lt {k j : Nat} (hj : j < k) (A : Nat → Nat → Int) (v : Nat → Int) : det (k + 1) (cu A j v) = A k k * det k (cu A j v) - sumN k (fun i => if i = j then v k * det k (cu A j (fun r => A r k)) else A k i * det k (cu (cu A i (fun r => A r k)) j v)) := by
  show cu A j v k k * det k (cu A j v) - sumN k (fun i => cu A j v k i * det k (cu (cu A j v) i (fun r => cu A j v r k))) = _
  have e : (fun r => cu A j v r k) = fun r => A r k := funext fun r => cu_ne (by omega)
  rw [cu_ne (by omega), e]
  congr 1
  refine sumN_congr (fun i hi => ?_)
  by_cases c : i = j
  · rw [if_pos c, c, cu_eq, cu_cu]
  · rw [if_neg c, cu_ne c, cu_comm c]
theorem det_k {k : Nat} (A : Nat → Nat → Int) (v : Nat → Int) : det (k + 1) (cu A k v) = v k * det k A - sumN k (fun i => A k i * det k (cu A i v)) := by
  show cu A k v k k * det k (cu A k v) - sumN k (fun i => cu A k v k i * det k (cu (cu A k v) i (fun r => cu A k v r k))) = _
  have e : (fun r => cu A k v r k) = v := funext fun r => cu_eq A k v r
  rw [cu_eq, e, det_ext k (A := cu A k v) (B := A) (fun r i _ hi => cu_ne (by omega))]
  congr 1
  refine sumN_congr (fun i hi => ?_)
  rw [cu_ne (by omega)]
  congr 1
  refine det_ext k (fun r x _ hx => ?_)
  unfold cu
  split
  · rfl
  · rw [if_neg (by omega)]
theorem det_lin : ∀ (k : Nat) {j : Nat}, j < k → ∀ (A : Nat → Nat → Int) (x y : Int) (c d : Nat → Int), det k (cu A j (fun r => x * c r + y * d r)) = x * det k (cu A j c) + y * det k (cu A j d) := by
  intro k
  induction k with
  | zero => intro j hj; omega
  | succ k ih =>
    intro j hj A x y c d
    by_cases e : j = k
    · subst e
      rw [det_k, det_k, det_k]
      have h1 : sumN j (fun i => A j i * det j (cu A i (fun r => x * c r + y * d r))) = x * sumN j (fun i => A j i * det j (cu A i c)) + y * sumN j (fun i => A j i * det j (cu A i d)) := by
        rw [← sumN_mul, ← sumN_mul, ← sumN_add]
        refine sumN_congr (fun i hi => ?_)
        rw [ih hi]
        grind
      rw [h1]
      grind
    · have hj2 : j < k := by omega
      rw [det_lt hj2, det_lt hj2, det_lt hj2, ih hj2]
      have h1 : sumN k (fun i => if i = j then (x * c k + y * d k) * det k (cu A j (fun r => A r k)) else A k i * det k (cu (cu A i (fun r => A r k)) j (fun r => x * c r + y * d r))) = x * sumN k (fun i => if i = j then c k * det k (cu A j (fun r => A r k)) else A k i * det k (cu (cu A i (fun r => A r k)) j c)) + y * sumN k (fun i => if i = j then d k * det k (cu A j (fun r => A r k)) else A k i * det k (cu (cu A i (fun r => A r k)) j d)) := by
        rw [← sumN_mul, ← sumN_mul, ← sumN_add]
        refine sumN_congr (fun i hi => ?_)
        split
        · grind
        · rw [ih hj2]
          grind
      rw [h1]
      grind
theorem det_add {k j : Nat} (hj : j < k) (A : Nat → Nat → Int) (c d : Nat → Int) : det k (cu A j (fun r => c r + d r)) = det k (cu A j c) + det k (cu A j d) := by
  have := det_lin k hj A 1 1 c d
  simp only [Int.one_mul] at this
  exact this
/-- swapping out of vanishing -/
theorem swap_of {k i j : Nat} (hi : i < k) (hj : j < k) (hij : i ≠ j) (hz : ∀ A : Nat → Nat → Int, (∀ r, r < k → A r i = A r j) → det k A = 0) (A : Nat → Nat → Int) (c d : Nat → Int) : det k (cu (cu A i c) j d) = - det k (cu (cu A i d) j c) := by
  have h1 := hz (cu (cu A i (fun r => c r + d r)) j (fun r => c r + d r)) (fun r _ => by rw [cu_eq, cu_ne hij, cu_eq])
  rw [det_add hj, cu_comm (Ne.symm hij), cu_comm (Ne.symm hij), det_add hi, det_add hi] at h1
  have h2 := hz (cu (cu A j c) i c) (fun r _ => by rw [cu_eq, cu_ne (Ne.symm hij), cu_eq])
  have h3 := hz (cu (cu A j d) i d) (fun r _ => by rw [cu_eq, cu_ne (Ne.symm hij), cu_eq])
  rw [cu_comm (Ne.symm hij), cu_comm (Ne.symm hij) d c]
  omega
theorem det_alt : ∀ (k : Nat) {i j : Nat}, i < k → j < k → i ≠ j → ∀ A : Nat → Nat → Int, (∀ r, r < k → A r i = A r j) → det k A = 0 := by
  intro k
  induction k with
  | zero => intro i j hi; omega
  | succ k ih =>
    have low : ∀ {i j : Nat}, i < j → j < k + 1 → ∀ A : Nat → Nat → Int, (∀ r, r < k + 1 → A r i = A r j) → det (k + 1) A = 0 := by
      intro i j hij hj A h
      by_cases e : j = k
      · subst e
        show A j j * det j A - sumN j (fun x => A j x * det j (cu A x (fun r => A r j))) = 0
        have h1 : sumN j (fun x => A j x * det j (cu A x (fun r => A r j))) = sumN j (fun x => if x = i then A j j * det j A else 0) := by
          refine sumN_congr (fun x hx => ?_)
          by_cases c : x = i
          · rw [if_pos c, c, h j (by omega)]
            congr 1
            refine det_ext j (fun r y hr _ => ?_)
            unfold cu
            split
            · next q => rw [q, h r (by omega)]
            · rfl
          · rw [if_neg c, ih hx hij c (cu A x (fun r => A r j)) (fun r hr => by rw [cu_eq, cu_ne (Ne.symm c), h r (by omega)])]
            simp
        rw [h1, sumN_one _ hij]
        omega
      · have hj2 : j < k := by omega
        show A k k * det k A - sumN k (fun x => A k x * det k (cu A x (fun r => A r k))) = 0
        rw [ih (by omega) hj2 (by omega) A (fun r hr => h r (by omega))]
        have h1 : sumN k (fun x => A k x * det k (cu A x (fun r => A r k))) = sumN k (fun x => (if x = i then A k i * det k (cu A i (fun r => A r k)) else 0) + (if x = j then - (A k i * det k (cu A i (fun r => A r k))) else 0)) := by
          refine sumN_congr (fun x hx => ?_)
          by_cases c : x = i
          · rw [if_pos c, if_neg (by omega), c]; omega
          · by_cases c2 : x = j
            · rw [if_neg c, if_pos c2, c2, ← h k (by omega)]
              have sw := swap_of (k := k) (i := i) (j := j) (by omega) hj2 (by omega) (fun B hB => ih (by omega) hj2 (by omega) B hB) A (fun r => A r i) (fun r => A r k)
              have e1 : cu (cu A i (fun r => A r i)) j (fun r => A r k) = cu A j (fun r => A r k) := by rw [cu_self]
              have e2 : det k (cu (cu A i (fun r => A r k)) j (fun r => A r i)) = det k (cu A i (fun r => A r k)) := det_ext k (fun r y hr _ => by
                unfold cu
                split
                · next q => rw [if_neg (by omega), q]; exact h r (by omega)
                · rfl)
              rw [e1, e2] at sw
              rw [sw, Int.mul_neg]; omega
            · rw [if_neg c, if_neg c2, ih (i := i) (j := j) (by omega) hj2 (by omega) (cu A x (fun r => A r k)) (fun r hr => by rw [cu_ne (Ne.symm c), cu_ne (Ne.symm c2), h r (by omega)])]
              simp
        rw [h1, sumN_add, sumN_one _ (by omega), sumN_one _ hj2]
        omega
    intro i j hi hj hij A h
    by_cases c : i < j
    · exact low c hj A h
    · exact low (i := j) (j := i) (by omega) hi A (fun r hr => (h r hr).symm)
theorem det_swap {k i j : Nat} (hi : i < k) (hj : j < k) (hij : i ≠ j) (A : Nat → Nat → Int) (c d : Nat → Int) : det k (cu (cu A i c) j d) = - det k (cu (cu A i d) j c) :=
  swap_of hi hj hij (fun B hB => det_alt k hi hj hij B hB) A c d
