/-! diagonal form modulo the determinant: the mathematics -/
theorem ru_eq (A : Nat → Nat → Int) (l : Nat) (c : Nat → Int) (i : Nat) : ru A l c l i = c i := if_pos rfl
theorem ru_ne {A : Nat → Nat → Int} {l r i : Nat} {c : Nat → Int} (h : r ≠ l) : ru A l c r i = A r i := if_neg h
theorem ru_comm {A : Nat → Nat → Int} {i j : Nat} (h : i ≠ j) (c d : Nat → Int) : ru (ru A i c) j d = ru (ru A j d) i c := by
  funext r x
  unfold ru
  by_cases e : r = j
  · rw [if_pos e, if_neg (by omega), if_pos e]
  · rw [if_neg e]
    by_cases f : r = i
    · rw [if_pos f, if_pos f]
    · rw [if_neg f, if_neg f, if_neg e]
theorem det_rone {k l : Nat} (hl : l < k) (A : Nat → Nat → Int) (x : Int) (c : Nat → Int) : det k (ru A l (fun r => x * c r)) = x * det k (ru A l c) := by
  have e := det_rlin k hl A x 0 c c
  simp only [Int.zero_mul, Int.add_zero] at e
  exact e
theorem det_rsum {k l : Nat} (hl : l < k) (A : Nat → Nat → Int) (c d : Nat → Int) : det k (ru A l (fun r => c r + d r)) = det k (ru A l c) + det k (ru A l d) := by
  have e := det_rlin k hl A 1 1 c d
  simp only [Int.one_mul] at e
  exact e
theorem det_req {k l m : Nat} (hl : l < k) (hm : m < k) (hlm : l ≠ m) (A : Nat → Nat → Int) (h : ∀ i, i < k → A l i = A m i) : det k A = 0 := by
  by_cases c : l < m
  · exact det_ralt k c hm A h
  · exact det_ralt k (l := m) (m := l) (by omega) hl A (fun i hi => (h i hi).symm)
theorem det_rswap {k i j : Nat} (hi : i < k) (hj : j < k) (hij : i ≠ j) (A : Nat → Nat → Int) (c d : Nat → Int) : det k (ru (ru A i c) j d) = - det k (ru (ru A i d) j c) := by
  have h1 := det_req hi hj hij (ru (ru A i (fun r => c r + d r)) j (fun r => c r + d r)) (fun r _ => by rw [ru_eq, ru_ne hij, ru_eq])
  rw [det_rsum hj, ru_comm hij, ru_comm hij, det_rsum hi, det_rsum hi] at h1
  have h2 := det_req hi hj hij (ru (ru A j c) i c) (fun r _ => by rw [ru_eq, ru_ne (Ne.symm hij), ru_eq])
  have h3 := det_req hi hj hij (ru (ru A j d) i d) (fun r _ => by rw [ru_eq, ru_ne (Ne.symm hij), ru_eq])
  rw [ru_comm hij, ru_comm hij d c]
  omega
theorem det_swr {k a b : Nat} (ha : a < k) (hb : b < k) (M : Nat → Nat → Int) : ab (det k (fun i j => M (sw2 a b i) j)) = ab (det k M) := by
  by_cases c : a = b
  · subst c
    rw [show (fun i j => M (sw2 a a i) j) = M from funext fun i => funext fun j => by
      unfold sw2
      by_cases d : i = a
      · rw [if_pos d, d]
      · rw [if_neg d, if_neg d]]
  · have e1 : (fun i j => M (sw2 a b i) j) = ru (ru M a (M b)) b (M a) := funext fun i => funext fun j => by
      unfold sw2 ru
      by_cases d : i = b
      · rw [if_pos d]
        by_cases f : i = a
        · exact absurd (f.symm.trans d) c
        · rw [if_neg f, if_pos d]
      · rw [if_neg d]
        by_cases f : i = a
        · rw [if_pos f, if_neg d, if_pos f]
        · rw [if_neg f, if_neg d, if_neg f]
    rw [e1, det_rswap ha hb c, ru_self, ru_self]
    unfold ab
    omega
theorem det_swc {k a b : Nat} (ha : a < k) (hb : b < k) (M : Nat → Nat → Int) : ab (det k (fun i j => M i (sw2 a b j))) = ab (det k M) := by
  by_cases c : a = b
  · subst c
    rw [show (fun i j => M i (sw2 a a j)) = M from funext fun i => funext fun j => by
      unfold sw2
      by_cases d : j = a
      · rw [if_pos d, d]
      · rw [if_neg d, if_neg d]]
  · have e1 : (fun i j => M i (sw2 a b j)) = cu (cu M a (fun r => M r b)) b (fun r => M r a) := funext fun i => funext fun j => by
      unfold sw2 cu
      by_cases d : j = b
      · rw [if_pos d]
        by_cases f : j = a
        · exact absurd (f.symm.trans d) c
        · rw [if_neg f, if_pos d]
      · rw [if_neg d]
        by_cases f : j = a
        · rw [if_pos f, if_neg d, if_pos f]
        · rw [if_neg f, if_neg d, if_neg f]
    rw [e1, det_swap ha hb c, cu_self, cu_self]
    unfold ab
    omega
/-- where the diagonal form stands: t corners are done, g divides what is behind -/
def DgF (N : Nat) (D g : Int) (t : Nat) (C : Nat → Nat → Int) : Prop :=
  (∀ i j, i < N → j < N → 0 ≤ C i j ∧ C i j < D) ∧ (∃ M : Nat → Nat → Int, ab (det N M) = D ∧ ∀ i j, i < N → j < N → D ∣ M i j - C i j) ∧
  (∀ i j, i < t → j < N → i ≠ j → C i j = 0 ∧ C j i = 0) ∧ g ∣ D ∧ ∀ i j, t ≤ i → t ≤ j → i < N → j < N → g ∣ C i j
theorem sw2_lt {a b i N : Nat} (ha : a < N) (hb : b < N) (hi : i < N) : sw2 a b i < N := by unfold sw2; split; exact hb; split; exact ha; exact hi
theorem sw2_ge {a b i t : Nat} (ha : t ≤ a) (hb : t ≤ b) : (t ≤ i → t ≤ sw2 a b i) ∧ (i < t → sw2 a b i = i) := by
  unfold sw2
  constructor
  · intro h; split; exact hb; split; exact ha; exact h
  · intro h; rw [if_neg (by omega), if_neg (by omega)]
theorem DgF.swr {N t a b : Nat} {D g : Int} {C C' : Nat → Nat → Int} (h : DgF N D g t C) (ha : t ≤ a ∧ a < N) (hb : t ≤ b ∧ b < N) (e : ∀ i j, i < N → j < N → C' i j = C (sw2 a b i) j) : DgF N D g t C' := by
  obtain ⟨h1, ⟨M, m1, m2⟩, h3, h4, h5⟩ := h
  refine ⟨fun i j hi hj => by rw [e i j hi hj]; exact h1 _ j (sw2_lt ha.2 hb.2 hi) hj, ⟨fun i j => M (sw2 a b i) j, (det_swr ha.2 hb.2 M).trans m1, fun i j hi hj => by rw [e i j hi hj]; exact m2 _ j (sw2_lt ha.2 hb.2 hi) hj⟩, fun i j hi hj hij => ⟨?_, ?_⟩, h4, fun i j hi hj hi2 hj2 => by rw [e i j hi2 hj2]; exact h5 _ j ((sw2_ge ha.1 hb.1).1 hi) hj (sw2_lt ha.2 hb.2 hi2) hj2⟩
  · rw [e i j (by omega) hj, (sw2_ge ha.1 hb.1).2 hi]
    exact (h3 i j hi hj hij).1
  · rw [e j i hj (by omega)]
    refine (h3 i _ hi (sw2_lt ha.2 hb.2 hj) ?_).2
    by_cases c : j < t
    · rw [(sw2_ge ha.1 hb.1).2 c]; exact hij
    · have := (sw2_ge (i := j) ha.1 hb.1).1 (by omega); omega
theorem DgF.swc {N t a b : Nat} {D g : Int} {C C' : Nat → Nat → Int} (h : DgF N D g t C) (ha : t ≤ a ∧ a < N) (hb : t ≤ b ∧ b < N) (e : ∀ i j, i < N → j < N → C' i j = C i (sw2 a b j)) : DgF N D g t C' := by
  obtain ⟨h1, ⟨M, m1, m2⟩, h3, h4, h5⟩ := h
  refine ⟨fun i j hi hj => by rw [e i j hi hj]; exact h1 i _ hi (sw2_lt ha.2 hb.2 hj), ⟨fun i j => M i (sw2 a b j), (det_swc ha.2 hb.2 M).trans m1, fun i j hi hj => by rw [e i j hi hj]; exact m2 i _ hi (sw2_lt ha.2 hb.2 hj)⟩, fun i j hi hj hij => ⟨?_, ?_⟩, h4, fun i j hi hj hi2 hj2 => by rw [e i j hi2 hj2]; exact h5 i _ hi ((sw2_ge ha.1 hb.1).1 hj) hi2 (sw2_lt ha.2 hb.2 hj2)⟩
  · rw [e i j (by omega) hj]
    refine (h3 i _ hi (sw2_lt ha.2 hb.2 hj) ?_).1
    by_cases c : j < t
    · rw [(sw2_ge ha.1 hb.1).2 c]; exact hij
    · have := (sw2_ge (i := j) ha.1 hb.1).1 (by omega); omega
  · rw [e j i hj (by omega), (sw2_ge ha.1 hb.1).2 hi]
    exact (h3 i j hi hj hij).2
theorem dvd_mod {D x y : Int} (h : D ∣ x - y) : D ∣ x - y % D := by
  have e := Int.emod_add_mul_ediv y D
  have h2 : D ∣ D * (y / D) := Int.dvd_mul_right _ _
  have h3 := Int.dvd_add h h2
  rw [show x - y % D = x - y + D * (y / D) by omega]
  exact h3
theorem dvd_emod {D g x : Int} (hg : g ∣ D) (h : g ∣ x) : g ∣ x % D := by
  have e := Int.emod_add_mul_ediv x D
  have h2 : g ∣ D * (x / D) := Int.dvd_trans hg (Int.dvd_mul_right _ _)
  have h3 := Int.dvd_sub h h2
  rw [show x % D = x - D * (x / D) by omega]
  exact h3
theorem DgF.row {N t a b : Nat} {D g x : Int} {C C' : Nat → Nat → Int} (h : DgF N D g t C) (hD : 0 < D) (ha : t ≤ a ∧ a < N) (hb : t ≤ b ∧ b < N) (hab : a ≠ b) (e : ∀ i j, i < N → j < N → C' i j = if i = b then (C b j + x * C a j) % D else C i j) : DgF N D g t C' := by
  obtain ⟨h1, ⟨M, m1, m2⟩, h3, h4, h5⟩ := h
  refine ⟨fun i j hi hj => ?_, ⟨ru M b (fun i => M b i + x * M a i), ?_, fun i j hi hj => ?_⟩, fun i j hi hj hij => ⟨?_, ?_⟩, h4, fun i j hi hj hi2 hj2 => ?_⟩
  · rw [e i j hi hj]
    split
    · exact ⟨Int.emod_nonneg _ (by omega), Int.emod_lt_of_pos _ hD⟩
    · exact h1 i j hi hj
  · rw [det_radd hb.2 ha.2 (Ne.symm hab)]; exact m1
  · rw [e i j hi hj]
    unfold ru
    by_cases c : i = b
    · rw [if_pos c, if_pos c]
      refine dvd_mod ?_
      have d1 := m2 b j hb.2 hj
      have d2 : D ∣ x * (M a j - C a j) := Int.dvd_mul_of_dvd_right (m2 a j ha.2 hj)
      have d3 := Int.dvd_add d1 d2
      rw [Int.mul_sub] at d3
      rw [show M b j + x * M a j - (C b j + x * C a j) = M b j - C b j + (x * M a j - x * C a j) by omega]
      exact d3
    · rw [if_neg c, if_neg c]; exact m2 i j hi hj
  · rw [e i j (by omega) hj, if_neg (by omega)]
    exact (h3 i j hi hj hij).1
  · rw [e j i hj (by omega)]
    by_cases c : j = b
    · rw [if_pos c, (h3 i b hi hb.2 (by omega)).2, (h3 i a hi ha.2 (by omega)).2, Int.mul_zero]
      rfl
    · rw [if_neg c]; exact (h3 i j hi hj hij).2
  · rw [e i j hi2 hj2]
    by_cases c : i = b
    · rw [if_pos c]
      exact dvd_emod h4 (Int.dvd_add (h5 b j hb.1 hj hb.2 hj2) (Int.dvd_mul_of_dvd_right (h5 a j ha.1 hj ha.2 hj2)))
    · rw [if_neg c]; exact h5 i j hi hj hi2 hj2
theorem DgF.col {N t a b : Nat} {D g x : Int} {C C' : Nat → Nat → Int} (h : DgF N D g t C) (hD : 0 < D) (ha : t ≤ a ∧ a < N) (hb : t ≤ b ∧ b < N) (hab : a ≠ b) (e : ∀ i j, i < N → j < N → C' i j = if j = b then (C i b + x * C i a) % D else C i j) : DgF N D g t C' := by
  obtain ⟨h1, ⟨M, m1, m2⟩, h3, h4, h5⟩ := h
  refine ⟨fun i j hi hj => ?_, ⟨cu M b (fun r => M r b + x * M r a), ?_, fun i j hi hj => ?_⟩, fun i j hi hj hij => ⟨?_, ?_⟩, h4, fun i j hi hj hi2 hj2 => ?_⟩
  · rw [e i j hi hj]
    split
    · exact ⟨Int.emod_nonneg _ (by omega), Int.emod_lt_of_pos _ hD⟩
    · exact h1 i j hi hj
  · rw [det_cadd hb.2 ha.2 (Ne.symm hab)]; exact m1
  · rw [e i j hi hj]
    unfold cu
    by_cases c : j = b
    · rw [if_pos c, if_pos c]
      refine dvd_mod ?_
      have d1 := m2 i b hi hb.2
      have d2 : D ∣ x * (M i a - C i a) := Int.dvd_mul_of_dvd_right (m2 i a hi ha.2)
      have d3 := Int.dvd_add d1 d2
      rw [Int.mul_sub] at d3
      rw [show M i b + x * M i a - (C i b + x * C i a) = M i b - C i b + (x * M i a - x * C i a) by omega]
      exact d3
    · rw [if_neg c, if_neg c]; exact m2 i j hi hj
  · rw [e i j (by omega) hj]
    by_cases c : j = b
    · rw [if_pos c, (h3 i b hi hb.2 (by omega)).1, (h3 i a hi ha.2 (by omega)).1, Int.mul_zero]
      rfl
    · rw [if_neg c]; exact (h3 i j hi hj hij).1
  · rw [e j i hj (by omega), if_neg (by omega)]
    exact (h3 i j hi hj hij).2
  · rw [e i j hi2 hj2]
    by_cases c : j = b
    · rw [if_pos c]
      exact dvd_emod h4 (Int.dvd_add (h5 i b hi hb.1 hi2 hb.2) (Int.dvd_mul_of_dvd_right (h5 i a hi ha.1 hi2 ha.2)))
    · rw [if_neg c]; exact h5 i j hi hj hi2 hj2
/-! at the end: the product of the corners' divisors is the determinant -/
theorem dvd_pp {D x y u v : Int} (h : D ∣ x - y) (h' : D ∣ u - v) : D ∣ x * u - y * v := by
  have a : D ∣ x * (u - v) := Int.dvd_mul_of_dvd_right h'
  have b : D ∣ (x - y) * v := Int.dvd_mul_of_dvd_left h
  have c := Int.dvd_add a b
  rw [Int.mul_sub, Int.sub_mul] at c
  rw [show x * u - y * v = x * u - x * v + (x * v - y * v) by omega]
  exact c
theorem dvd_sum {D : Int} {f g : Nat → Int} : ∀ {n : Nat}, (∀ i, i < n → D ∣ f i - g i) → D ∣ sumN n f - sumN n g
  | 0, _ => by show D ∣ 0 - 0; exact Int.dvd_zero D
  | n + 1, h => by
    have a := dvd_sum (n := n) (fun i hi => h i (by omega))
    have b := Int.dvd_add a (h n (by omega))
    show D ∣ sumN n f + f n - (sumN n g + g n)
    rw [show sumN n f + f n - (sumN n g + g n) = sumN n f - sumN n g + (f n - g n) by omega]
    exact b
theorem det_cong {D : Int} : ∀ (k : Nat) {A B : Nat → Nat → Int}, (∀ i j, i < k → j < k → D ∣ A i j - B i j) → D ∣ det k A - det k B
  | 0, _, _, _ => by show D ∣ 1 - 1; exact Int.dvd_zero D
  | k + 1, A, B, h => by
    show D ∣ A k k * det k A - sumN k (fun i => A k i * det k (cu A i (fun r => A r k))) - (B k k * det k B - sumN k (fun i => B k i * det k (cu B i (fun r => B r k))))
    have a := dvd_pp (h k k (by omega) (by omega)) (det_cong k (A := A) (B := B) (fun i j hi hj => h i j (by omega) (by omega)))
    have b := dvd_sum (D := D) (n := k) (f := fun i => A k i * det k (cu A i (fun r => A r k))) (g := fun i => B k i * det k (cu B i (fun r => B r k))) (fun i hi => dvd_pp (h k i (by omega) (by omega)) (det_cong k (fun r x hr hx => by
      unfold cu
      by_cases c : x = i
      · rw [if_pos c, if_pos c]; exact h r k (by omega) (by omega)
      · rw [if_neg c, if_neg c]; exact h r x (by omega) (by omega))))
    have c := Int.dvd_sub a b
    rw [show ∀ x y u v : Int, x - y - (u - v) = x - u - (y - v) by intros; omega]
    exact c
theorem det_diag : ∀ (k : Nat) {C : Nat → Nat → Int}, (∀ i j, i < k → j < k → i ≠ j → C i j = 0) → det k C = prodN k (fun i => C i i)
  | 0, _, _ => rfl
  | k + 1, C, h => by
    show C k k * det k C - sumN k (fun i => C k i * det k (cu C i (fun r => C r k))) = prodN k (fun i => C i i) * C k k
    rw [det_diag k (fun i j hi hj hij => h i j (by omega) (by omega) hij), sumN_z (fun i hi => by rw [h k i (by omega) (by omega) (by omega), Int.zero_mul]), Int.mul_comm]
    omega
theorem det_rows {N : Nat} {g : Nat → Int} {A : Nat → Nat → Int} : ∀ m, m ≤ N → det N (fun i j => if i < m then g i * A i j else A i j) = prodN m g * det N A := by
  intro m
  induction m with
  | zero =>
    intro _
    rw [show (fun i j => if i < 0 then g i * A i j else A i j) = A from funext fun i => funext fun j => if_neg (by omega)]
    show _ = 1 * det N A
    omega
  | succ m ih =>
    intro hm
    have e1 : (fun i j => if i < m + 1 then g i * A i j else A i j) = ru (fun i j => if i < m then g i * A i j else A i j) m (fun j => g m * A m j) := funext fun i => funext fun j => by
      unfold ru
      by_cases c : i = m
      · rw [if_pos (by omega), if_pos c, c]
      · rw [if_neg c]
        exact ite_congr (propext (by omega)) (fun _ => rfl) (fun _ => rfl)
    have e2 : ru (fun i j => if i < m then g i * A i j else A i j) m (fun j => A m j) = (fun i j => if i < m then g i * A i j else A i j) := funext fun i => funext fun j => by
      unfold ru
      by_cases c : i = m
      · rw [if_pos c, c, if_neg (by omega)]
      · rw [if_neg c]
    rw [e1, det_rone (by omega), e2, ih (by omega)]
    show g m * (prodN m g * det N A) = prodN m g * g m * det N A
    rw [← Int.mul_assoc, Int.mul_comm (g m)]
theorem gcd_prod {D : Int} (c : Nat → Int) : ∀ n, ((Int.gcd D (prodN n c) : Nat) : Int) ∣ prodN n (fun i => ((Int.gcd (c i) D : Nat) : Int))
  | 0 => by
    show ((Int.gcd D 1 : Nat) : Int) ∣ 1
    rw [Int.gcd_one]
    exact Int.dvd_refl 1
  | n + 1 => by
    show ((Int.gcd D (prodN n c * c n) : Nat) : Int) ∣ prodN n (fun i => ((Int.gcd (c i) D : Nat) : Int)) * ((Int.gcd (c n) D : Nat) : Int)
    have a := Int.ofNat_dvd.mpr (Int.gcd_mul_right_dvd_mul_gcd D (prodN n c) (c n))
    rw [Int.natCast_mul] at a
    refine Int.dvd_trans a ?_
    rw [Int.gcd_comm (c n) D]
    exact Int.mul_dvd_mul (gcd_prod c n) (Int.dvd_refl _)
theorem DgF.prod {N : Nat} {D g : Int} {C : Nat → Nat → Int} (h : DgF N D g N C) (hD : 0 < D) : prodN N (fun i => ((Int.gcd (C i i) D : Nat) : Int)) = D := by
  obtain ⟨h1, ⟨M, m1, m2⟩, h3, h4, h5⟩ := h
  have hM : D ∣ det N M := by
    have : ab (det N M) ∣ det N M := by unfold ab; exact Int.natAbs_dvd.mpr (Int.dvd_refl _)
    rw [m1] at this
    exact this
  have hM2 : det N M ∣ D := by
    rw [← m1]
    unfold ab
    exact Int.dvd_natAbs.mpr (Int.dvd_refl _)
  have a : D ∣ prodN N (fun i => C i i) := by
    rw [← det_diag N (fun i j hi hj hij => (h3 i j hi hj hij).1)]
    have := det_cong (D := D) N m2
    have h9 := Int.dvd_sub hM this
    rw [show det N M - (det N M - det N C) = det N C by omega] at h9
    exact h9
  have b : D ∣ prodN N (fun i => ((Int.gcd (C i i) D : Nat) : Int)) := by
    have := gcd_prod (D := D) (fun i => C i i) N
    rw [Int.gcd_eq_left (by omega) a] at this
    exact this
  have c : prodN N (fun i => ((Int.gcd (C i i) D : Nat) : Int)) ∣ D := by
    refine Int.dvd_trans ?_ hM2
    have e := det_rows (N := N) (g := fun i => ((Int.gcd (C i i) D : Nat) : Int)) (A := fun i j => M i j / ((Int.gcd (C i i) D : Nat) : Int)) N (Nat.le_refl N)
    rw [det_ext N (B := M) (fun i j hi hj => by
      rw [if_pos hi]
      refine Int.mul_ediv_cancel' ?_
      have g1 : ((Int.gcd (C i i) D : Nat) : Int) ∣ D := Int.gcd_dvd_right ..
      have g2 : ((Int.gcd (C i i) D : Nat) : Int) ∣ C i j := by
        by_cases c : i = j
        · rw [← c]; exact Int.gcd_dvd_left ..
        · rw [(h3 i j hi hj c).1]; exact Int.dvd_zero _
      have := Int.dvd_add (Int.dvd_trans g1 (m2 i j hi hj)) g2
      rw [show M i j - C i j + C i j = M i j by omega] at this
      exact this)] at e
    rw [e]
    exact Int.dvd_mul_right _ _
  have p : 0 ≤ prodN N (fun i => ((Int.gcd (C i i) D : Nat) : Int)) := prodN_nn N (fun i _ => by omega)
  exact Int.dvd_antisymm p (by omega) c b
