/-! Cramer's rule; rows -/
theorem sum_at {k i : Nat} (hi : i < k) (a : Int) (b : Nat → Int) : sumN k (fun x => if x = i then a else b x) = a + sumN k (fun x => if x = i then 0 else b x) := by
  have e := sumN_add k (fun x => if x = i then a else 0) (fun x => if x = i then 0 else b x)
  rw [sumN_one a hi] at e
  rw [← e]
  refine sumN_congr (fun x _ => ?_)
  split
  · omega
  · omega
theorem sum_anti {k : Nat} {H : Nat → Nat → Int} (h : ∀ i x, i < k → x < k → H i x = - H x i) : sumN k (fun i => sumN k (fun x => H i x)) = 0 := by
  have e := sumN_comm k k H
  have e2 : sumN k (fun x => sumN k (fun i => H i x)) = - sumN k (fun x => sumN k (fun i => H x i)) := by
    rw [← sumN_neg]
    refine sumN_congr (fun x hx => ?_)
    rw [← sumN_neg]
    exact sumN_congr (fun i hi => h i x hi hx)
  omega
theorem det_cramer : ∀ (k : Nat) (A : Nat → Nat → Int) (c : Nat → Int) (l : Nat), l < k → sumN k (fun i => A l i * det k (cu A i c)) = c l * det k A := by
  intro k
  induction k with
  | zero => intro A c l hl; omega
  | succ k ih =>
    intro A c l hl
    have hK : det (k + 1) A = A k k * det k A - sumN k (fun i => A k i * det k (cu A i (fun r => A r k))) := rfl
    show sumN k (fun i => A l i * det (k + 1) (cu A i c)) + A l k * det (k + 1) (cu A k c) = c l * det (k + 1) A
    rw [det_k]
    have h1 : sumN k (fun i => A l i * det (k + 1) (cu A i c)) = A k k * sumN k (fun i => A l i * det k (cu A i c)) - c k * sumN k (fun i => A l i * det k (cu A i (fun r => A r k))) - sumN k (fun i => sumN k (fun x => if x = i then 0 else A l i * (A k x * det k (cu (cu A x (fun r => A r k)) i c)))) := by
      rw [← sumN_mul, ← sumN_mul, ← sumN_sub, ← sumN_sub]
      refine sumN_congr (fun i hi => ?_)
      rw [det_lt hi, sum_at hi]
      have e : sumN k (fun x => if x = i then 0 else A l i * (A k x * det k (cu (cu A x (fun r => A r k)) i c))) = A l i * sumN k (fun x => if x = i then 0 else A k x * det k (cu (cu A x (fun r => A r k)) i c)) := by
        rw [← sumN_mul]
        refine sumN_congr (fun x _ => ?_)
        split
        · rw [Int.mul_zero]
        · rfl
      rw [e]
      grind
    by_cases hlk : l = k
    · subst hlk
      have h2 : sumN l (fun i => sumN l (fun x => if x = i then 0 else A l i * (A l x * det l (cu (cu A x (fun r => A r l)) i c)))) = 0 := sum_anti (fun i x hi hx => by
        by_cases d : x = i
        · rw [if_pos d, if_pos d.symm]; rfl
        · rw [if_neg d, if_neg (fun z => d z.symm), det_swap hx hi d, cu_comm (fun z => d z.symm)]
          grind)
      rw [h1, h2, hK]
      grind
    · have hl2 : l < k := by omega
      have h2 : sumN k (fun i => sumN k (fun x => if x = i then 0 else A l i * (A k x * det k (cu (cu A x (fun r => A r k)) i c)))) = c l * sumN k (fun x => A k x * det k (cu A x (fun r => A r k))) - A l k * sumN k (fun x => A k x * det k (cu A x c)) := by
        rw [sumN_comm, ← sumN_mul, ← sumN_mul, ← sumN_sub]
        refine sumN_congr (fun x hx => ?_)
        have e := ih (cu A x (fun r => A r k)) c l hl2
        have e1 : sumN k (fun i => cu A x (fun r => A r k) l i * det k (cu (cu A x (fun r => A r k)) i c)) = sumN k (fun i => if i = x then A l k * det k (cu A x c) else A l i * det k (cu (cu A x (fun r => A r k)) i c)) := sumN_congr (fun i _ => by
          by_cases d : i = x
          · rw [if_pos d, d, cu_eq, cu_cu]
          · rw [if_neg d, cu_ne d])
        rw [e1, sum_at hx] at e
        have e2 : sumN k (fun i => if x = i then 0 else A l i * (A k x * det k (cu (cu A x (fun r => A r k)) i c))) = A k x * sumN k (fun i => if i = x then 0 else A l i * det k (cu (cu A x (fun r => A r k)) i c)) := by
          rw [← sumN_mul]
          refine sumN_congr (fun i _ => ?_)
          by_cases d : i = x
          · rw [if_pos d, if_pos d.symm, Int.mul_zero]
          · rw [if_neg d, if_neg (fun z => d z.symm)]; grind
        rw [e2]
        grind
      rw [h1, h2, hK, ih A c l hl2, ih A (fun r => A r k) l hl2]
      grind
theorem det_zcol {k i : Nat} (hi : i < k) (A : Nat → Nat → Int) : det k (cu A i (fun _ => 0)) = 0 := by
  have := det_lin k hi A 0 0 (fun _ => 0) (fun _ => 0)
  simp only [Int.zero_mul, Int.add_zero] at this
  exact this
theorem det_sum {k i : Nat} (hi : i < k) (A : Nat → Nat → Int) (B : Nat → Nat → Int) (y : Nat → Int) : ∀ m, det k (cu A i (fun r => sumN m (fun j => B r j * y j))) = sumN m (fun j => y j * det k (cu A i (fun r => B r j))) := by
  intro m
  induction m with
  | zero => exact det_zcol hi A
  | succ m ih =>
    show det k (cu A i (fun r => sumN m (fun j => B r j * y j) + B r m * y m)) = sumN m (fun j => y j * det k (cu A i (fun r => B r j))) + y m * det k (cu A i (fun r => B r m))
    have e := det_lin k hi A 1 (y m) (fun r => sumN m (fun j => B r j * y j)) (fun r => B r m)
    simp only [Int.one_mul] at e
    rw [← ih, ← e]
    congr 2
    funext r
    rw [Int.mul_comm (y m)]
/-- a column that the columns make -/
theorem det_combo {k i : Nat} (hi : i < k) (A : Nat → Nat → Int) (y : Nat → Int) : det k (cu A i (fun r => sumN k (fun j => A r j * y j))) = y i * det k A := by
  rw [det_sum hi A A y k]
  have e : sumN k (fun j => y j * det k (cu A i (fun r => A r j))) = sumN k (fun j => if j = i then y i * det k A else 0) := sumN_congr (fun j hj => by
    by_cases c : j = i
    · rw [if_pos c, c, cu_self]
    · rw [if_neg c, det_alt k hi hj (Ne.symm c) (cu A i (fun r => A r j)) (fun r _ => by rw [cu_eq, cu_ne c])]
      simp)
  rw [e, sumN_one _ hi]
theorem det_uniq {k : Nat} {A : Nat → Nat → Int} {y z : Nat → Int} (h : ∀ l, l < k → sumN k (fun j => A l j * y j) = sumN k (fun j => A l j * z j)) (hd : det k A ≠ 0) {i : Nat} (hi : i < k) : y i = z i := by
  have e1 := det_combo hi A y
  have e2 := det_combo hi A z
  have e3 : det k (cu A i (fun r => sumN k (fun j => A r j * y j))) = det k (cu A i (fun r => sumN k (fun j => A r j * z j))) := det_ext k (fun r x hr _ => by
    unfold cu
    split
    · exact h r hr
    · rfl)
  rw [e1, e2] at e3
  exact Int.eq_of_mul_eq_mul_right hd e3
def ru (A : Nat → Nat → Int) (l : Nat) (c : Nat → Int) : Nat → Nat → Int := fun r i => if r = l then c i else A r i
theorem det_rk {k : Nat} (A : Nat → Nat → Int) (v : Nat → Int) : det (k + 1) (ru A k v) = v k * det k A - sumN k (fun i => v i * det k (cu A i (fun r => A r k))) := by
  show ru A k v k k * det k (ru A k v) - sumN k (fun i => ru A k v k i * det k (cu (ru A k v) i (fun r => ru A k v r k))) = _
  have e : ∀ i, ru A k v k i = v i := fun i => if_pos rfl
  rw [e, det_ext k (A := ru A k v) (B := A) (fun r i hr _ => if_neg (by omega))]
  congr 1
  refine sumN_congr (fun i hi => ?_)
  rw [e]
  congr 1
  refine det_ext k (fun r x hr _ => ?_)
  show (if x = i then ru A k v r k else ru A k v r x) = if x = i then A r k else A r x
  have hk : ∀ y, ru A k v r y = A r y := fun y => if_neg (by omega)
  rw [hk, hk]
theorem det_rlt {k l : Nat} (hl : l < k) (A : Nat → Nat → Int) (v : Nat → Int) : det (k + 1) (ru A l v) = A k k * det k (ru A l v) - sumN k (fun i => A k i * det k (ru (cu A i (fun r => A r k)) l (fun x => if x = i then v k else v x))) := by
  show ru A l v k k * det k (ru A l v) - sumN k (fun i => ru A l v k i * det k (cu (ru A l v) i (fun r => ru A l v r k))) = _
  have e : ∀ i, ru A l v k i = A k i := fun i => if_neg (by omega)
  rw [e]
  congr 1
  refine sumN_congr (fun i hi => ?_)
  rw [e]
  congr 1
  refine det_ext k (fun r x hr _ => ?_)
  unfold cu ru
  dsimp only
  split <;> split <;> rfl
theorem det_rlin : ∀ (k : Nat) {l : Nat}, l < k → ∀ (A : Nat → Nat → Int) (x y : Int) (c d : Nat → Int), det k (ru A l (fun r => x * c r + y * d r)) = x * det k (ru A l c) + y * det k (ru A l d) := by
  intro k
  induction k with
  | zero => intro l hl; omega
  | succ k ih =>
    intro l hl A x y c d
    by_cases e : l = k
    · subst e
      rw [det_rk, det_rk, det_rk]
      have h1 : sumN l (fun i => (x * c i + y * d i) * det l (cu A i (fun r => A r l))) = x * sumN l (fun i => c i * det l (cu A i (fun r => A r l))) + y * sumN l (fun i => d i * det l (cu A i (fun r => A r l))) := by
        rw [← sumN_mul, ← sumN_mul, ← sumN_add]
        exact sumN_congr (fun i hi => by grind)
      rw [h1]
      grind
    · have hl2 : l < k := by omega
      rw [det_rlt hl2, det_rlt hl2, det_rlt hl2, ih hl2]
      have h1 : sumN k (fun i => A k i * det k (ru (cu A i (fun r => A r k)) l (fun z => if z = i then x * c k + y * d k else x * c z + y * d z))) = x * sumN k (fun i => A k i * det k (ru (cu A i (fun r => A r k)) l (fun z => if z = i then c k else c z))) + y * sumN k (fun i => A k i * det k (ru (cu A i (fun r => A r k)) l (fun z => if z = i then d k else d z))) := by
        rw [← sumN_mul, ← sumN_mul, ← sumN_add]
        refine sumN_congr (fun i hi => ?_)
        have e2 : (fun z => if z = i then x * c k + y * d k else x * c z + y * d z) = fun z => x * (if z = i then c k else c z) + y * (if z = i then d k else d z) := by
          funext z
          split <;> rfl
        rw [e2, ih hl2]
        grind
      rw [h1]
      grind
theorem det_ralt : ∀ (k : Nat) {l m : Nat}, l < m → m < k → ∀ A : Nat → Nat → Int, (∀ i, i < k → A l i = A m i) → det k A = 0 := by
  intro k
  induction k with
  | zero => intro l m _ hm; omega
  | succ k ih =>
    intro l m hlm hm A h
    show A k k * det k A - sumN k (fun i => A k i * det k (cu A i (fun r => A r k))) = 0
    by_cases e : m = k
    · subst e
      have h1 := det_cramer m A (fun r => A r m) l hlm
      have h2 : sumN m (fun i => A m i * det m (cu A i (fun r => A r m))) = sumN m (fun i => A l i * det m (cu A i (fun r => A r m))) := sumN_congr (fun i hi => by rw [h i (by omega)])
      rw [h2, h1, h m (by omega)]
      omega
    · rw [ih hlm (by omega) A (fun i hi => h i (by omega)), sumN_z (fun i hi => by
        rw [ih hlm (by omega) (cu A i (fun r => A r k)) (fun x hx => by
          show (if x = i then A l k else A l x) = if x = i then A m k else A m x
          rw [h k (by omega), h x (by omega)])]
        exact Int.mul_zero _)]
      omega
theorem ru_self (A : Nat → Nat → Int) (l : Nat) : ru A l (A l) = A := by
  funext r i
  unfold ru
  split
  · next h => rw [h]
  · rfl
/-- a row and a column lengthened by others -/
theorem det_radd {k l m : Nat} (hl : l < k) (hm : m < k) (hlm : l ≠ m) (A : Nat → Nat → Int) (t : Int) : det k (ru A l (fun i => A l i + t * A m i)) = det k A := by
  have e := det_rlin k hl A 1 t (A l) (A m)
  simp only [Int.one_mul] at e
  have hz : det k (ru A l (A m)) = 0 := by
    have hq : ∀ i, i < k → ru A l (A m) l i = ru A l (A m) m i := fun i _ => by
      unfold ru
      rw [if_pos rfl, if_neg (Ne.symm hlm)]
    by_cases c : l < m
    · exact det_ralt k c hm _ hq
    · exact det_ralt k (l := m) (m := l) (by omega) hl _ (fun i hi => (hq i hi).symm)
  rw [e, ru_self, hz]
  omega
theorem det_cadd {k l m : Nat} (hl : l < k) (hm : m < k) (hlm : l ≠ m) (A : Nat → Nat → Int) (t : Int) : det k (cu A l (fun r => A r l + t * A r m)) = det k A := by
  have e := det_lin k hl A 1 t (fun r => A r l) (fun r => A r m)
  simp only [Int.one_mul] at e
  rw [e, cu_self, det_alt k hl hm hlm (cu A l (fun r => A r m)) (fun r _ => by rw [cu_eq, cu_ne (Ne.symm hlm)])]
  omega
/-- behind a unit column the rest of its row doesn't matter -/
theorem det_unit {k b : Nat} (hb : b < k) (A : Nat → Nat → Int) (h1 : A b b = 1) (h0 : ∀ r, r < k → r ≠ b → A r b = 0) : det k A = det k (ru A b (fun i => if i = b then 1 else 0)) := by
  have key : ∀ m, m ≤ k → det k A = det k (ru A b (fun i => if i < m ∧ i ≠ b then 0 else A b i)) := by
    intro m
    induction m with
    | zero =>
      intro _
      refine det_ext k (fun r i _ _ => ?_)
      unfold ru
      dsimp only
      split
      · next h => rw [if_neg (by omega), h]
      · rfl
    | succ m ih =>
      intro hm
      rw [ih (by omega)]
      by_cases c : m = b
      · refine det_ext k (fun r i _ _ => ?_)
        unfold ru
        dsimp only
        split
        · exact ite_congr (propext (by omega)) (fun _ => rfl) (fun _ => rfl)
        · rfl
      · rw [← det_cadd (l := m) (m := b) (by omega) hb c _ (- A b m)]
        refine det_ext k (fun r i hr _ => ?_)
        unfold cu ru
        dsimp only
        by_cases d : i = m
        · subst d
          rw [if_pos rfl]
          by_cases d2 : r = b
          · rw [if_pos d2, if_pos d2, if_neg (by omega), if_neg (by omega), if_pos (by omega), h1]
            omega
          · rw [if_neg d2, if_neg d2, h0 r hr d2]
            omega
        · rw [if_neg d]
          split
          · exact ite_congr (propext (by omega)) (fun _ => rfl) (fun _ => rfl)
          · rfl
  rw [key k (Nat.le_refl k)]
  refine det_ext k (fun r i _ hi => ?_)
  unfold ru
  dsimp only
  split
  · by_cases d : i = b
    · rw [if_neg (by omega), if_pos d, d, h1]
    · rw [if_pos (by omega), if_neg d]
  · rfl
theorem det_one : ∀ k, det k (fun r i => if r = i then 1 else 0) = 1 := by
  intro k
  induction k with
  | zero => rfl
  | succ k ih =>
    show (if k = k then (1 : Int) else 0) * det k (fun r i => if r = i then 1 else 0) - sumN k (fun i => (if k = i then (1 : Int) else 0) * det k (cu (fun r i => if r = i then 1 else 0) i (fun r => if r = k then 1 else 0))) = 1
    rw [ih, if_pos rfl, sumN_z (fun i hi => by rw [if_neg (by omega), Int.zero_mul])]
    rfl
theorem det_zrow {k l : Nat} (hl : l < k) (A : Nat → Nat → Int) (h : ∀ i, i < k → A l i = 0) : det k A = 0 := by
  have e := det_rlin k hl A 0 0 (A l) (A l)
  simp only [Int.zero_mul, Int.add_zero] at e
  rw [← e]
  refine det_ext k (fun r i _ hi => ?_)
  unfold ru
  dsimp only
  split
  · next q => rw [q, h i hi]
  · rfl
