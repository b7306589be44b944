/-! no number of the elimination is too large -/
theorem sumN_part {f : Nat → Int} {n k j : Nat} (h : ∀ i, i < n → 0 ≤ f i) (hk : k ≤ j) (hj : j < n) : sumN k f + f j ≤ sumN n f := by
  have e := sumN_split (a := k) (b := n - k) f
  rw [show k + (n - k) = n by omega] at e
  have g := sumN_ge (n := n - k) (f := fun i => f (k + i)) (fun i hi => h (k + i) (by omega)) (k := j - k) (by omega)
  have e2 : f (k + (j - k)) = f j := by rw [show k + (j - k) = j by omega]
  omega
theorem sumN_mono {f : Nat → Int} {n k : Nat} (h : ∀ i, i < n → 0 ≤ f i) (hk : k ≤ n) : sumN k f ≤ sumN n f := by
  have e := sumN_split (a := k) (b := n - k) f
  rw [show k + (n - k) = n by omega] at e
  have g := sumN_nn (n := n - k) (f := fun i => f (k + i)) (fun i hi => h (k + i) (by omega))
  omega
theorem sN_cast (f : Nat → Nat) : ∀ n, sumN n (fun r => (f r : Int)) = ((sN n f : Nat) : Int)
  | 0 => rfl
  | n + 1 => by
    show sumN n _ + (f n : Int) = ((sN n f + f n : Nat) : Int)
    rw [sN_cast f n]
    omega
theorem sN_congr {f g : Nat → Nat} : ∀ {n : Nat}, (∀ i, i < n → f i = g i) → sN n f = sN n g
  | 0, _ => rfl
  | n + 1, h => by
    show sN n f + f n = sN n g + g n
    rw [sN_congr (fun i hi => h i (by omega)), h n (by omega)]
theorem prN_congr {f g : Nat → Nat} : ∀ {n : Nat}, (∀ i, i < n → f i = g i) → prN n f = prN n g
  | 0, _ => rfl
  | n + 1, h => by
    show prN n f * f n = prN n g * g n
    rw [prN_congr (fun i hi => h i (by omega)), h n (by omega)]
theorem dl_01 (a i : Nat) : dl a i = 0 ∨ dl a i = 1 := by unfold dl; split; exact Or.inr rfl; exact Or.inl rfl
theorem ce_sq (s : Sto) (a b i : Nat) : eJ s a b i i ≤ dl a i + dl b i ∧ eJ s a b i i ≤ 1 ∧ 0 ≤ eJ s a b i i := by
  rw [eJ_ce]
  unfold ce
  rcases dl_01 a i with p | p <;> rcases dl_01 b i with q | q <;> rw [p, q] <;> split <;> decide
theorem SPm_nn (s : Sto) (B m i : Nat) : 0 ≤ SPm s B m i i := sumN_nn (fun e _ => by split; exact Int.le_refl 0; exact (ce_sq s _ _ i).2.2)
theorem SPm_le (s : Sto) (B m i : Nat) : SPm s B m i i ≤ m := by
  have h := sumN_le (n := m) (f := fun e => if B.testBit e = true then 0 else eJ s (lbl s (s 2 e)) (lbl s (s 3 e)) i i) (g := fun _ => 1) (fun e _ => by split; decide; exact (ce_sq s _ _ i).2.1)
  rw [sumN_const] at h
  unfold SPm
  omega
theorem SPm_tr (s : Sto) (B m N : Nat) : sumN N (fun i => SPm s B m i i) ≤ 2 * m := by
  unfold SPm
  rw [sumN_comm]
  have h := sumN_le (n := m) (f := fun e => sumN N (fun i => if B.testBit e = true then 0 else eJ s (lbl s (s 2 e)) (lbl s (s 3 e)) i i)) (g := fun _ => 2) (fun e _ => by
    have h1 := sumN_le (n := N) (f := fun i => if B.testBit e = true then 0 else eJ s (lbl s (s 2 e)) (lbl s (s 3 e)) i i) (g := fun i => dl (lbl s (s 2 e)) i + dl (lbl s (s 3 e)) i) (fun i _ => by
      have a := dl_01 (lbl s (s 2 e)) i
      have b := dl_01 (lbl s (s 3 e)) i
      have c := ce_sq s (lbl s (s 2 e)) (lbl s (s 3 e)) i
      split <;> omega)
    rw [sumN_add] at h1
    have h2 : sumN N (dl (lbl s (s 2 e))) ≤ 1 := dl_sum _ N
    have h3 : sumN N (dl (lbl s (s 3 e))) ≤ 1 := dl_sum _ N
    omega)
  rw [sumN_const] at h
  omega
def dn (s : Sto) (B m r : Nat) : Nat := (SPm s B m r r).toNat
def Rn (s : Sto) (B m r : Nat) : Nat := if fre s r = true then 3 * dn s B m r else 1
theorem Rn_prod {s : Sto} {B k : Nat} {p : Nat → Nat} (h : WG s) (hL : LbR s) (h1 : ∀ f : Nat → Nat, sN k (fun r => f (p r)) ≤ sN (s 1 0).toNat f) : prN k (fun r => Rn s B (s 1 1).toNat (p r)) < 500000000 := by
  have hn := h.1
  have hm := h.2.1
  have hK := hL _ h.K
  refine prod_small (d := fun r => dn s B (s 1 1).toNat (p r)) (f := fun r => fre s (p r)) (fun r _ => ⟨Nat.le_refl _, ?_⟩) ?_ ?_
  · have a := SPm_le s B (s 1 1).toNat (p r)
    show (SPm s B (s 1 1).toNat (p r) (p r)).toNat ≤ 20
    omega
  · have a := h1 (fun r => if fre s r = true then 1 else 0)
    have b := sN_cast (fun r => if fre s r = true then 1 else 0) (s 1 0).toNat
    have c := sumN_le (n := (s 1 0).toNat) (f := fun r => ((if fre s r = true then 1 else 0 : Nat) : Int)) (g := fun r => 1 - if r = (s 14 (s 1 2).toNat).toNat then 1 else 0) (fun r hr => by
      by_cases q : fre s r = true
      · have := (fre_iff s r).mp q
        rw [if_pos q, if_neg (by omega)]; decide
      · rw [if_neg q]; split <;> decide)
    rw [sumN_sub, sumN_const, sumN_one 1 (by omega)] at c
    omega
  · have a := h1 (fun r => if fre s r = true then dn s B (s 1 1).toNat r else 0)
    have b := sN_cast (fun r => if fre s r = true then dn s B (s 1 1).toNat r else 0) (s 1 0).toNat
    have c := sumN_le (n := (s 1 0).toNat) (f := fun r => ((if fre s r = true then dn s B (s 1 1).toNat r else 0 : Nat) : Int)) (g := fun r => SPm s B (s 1 1).toNat r r) (fun r hr => by
      have e := SPm_nn s B (s 1 1).toNat r
      by_cases q : fre s r = true
      · rw [if_pos q]
        show (((SPm s B (s 1 1).toNat r r).toNat : Nat) : Int) ≤ _
        omega
      · rw [if_neg q]; exact e)
    have d := SPm_tr s B (s 1 1).toNat (s 1 0).toNat
    omega
theorem sN_part {f : Nat → Nat} {k i n : Nat} (hk : k ≤ i) (hi : i < n) : sN k f + f i ≤ sN n f := by
  have a := sumN_part (f := fun r => (f r : Int)) (n := n) (k := k) (j := i) (fun _ _ => by omega) hk hi
  rw [sN_cast, sN_cast] at a
  omega
theorem sN_mono {f : Nat → Nat} {k n : Nat} (hk : k ≤ n) : sN k f ≤ sN n f := by
  have a := sumN_mono (f := fun r => (f r : Int)) (n := n) (k := k) (fun _ _ => by omega) hk
  rw [sN_cast, sN_cast] at a
  omega
theorem Rn_one {s : Sto} {B k : Nat} (h : WG s) (hL : LbR s) (hk : k ≤ (s 1 0).toNat) : prodN k (fun r => (Rn s B (s 1 1).toNat r : Int)) < 500000000 := by
  rw [prodN_cast]
  have : prN k (Rn s B (s 1 1).toNat) < 500000000 := Rn_prod (B := B) (k := k) (p := fun r => r) h hL (fun f => sN_mono hk)
  omega
theorem Rn_two {s : Sto} {B k i : Nat} (h : WG s) (hL : LbR s) (hk : k ≤ i) (hi : i < (s 1 0).toNat) : prodN k (fun r => (Rn s B (s 1 1).toNat r : Int)) * (Rn s B (s 1 1).toNat i : Int) < 500000000 := by
  rw [prodN_cast]
  have a := Rn_prod (B := B) (k := k + 1) (p := fun r => if r = k then i else r) h hL (fun f => by
    show sN k (fun r => f (if r = k then i else r)) + f (if k = k then i else k) ≤ _
    rw [if_pos rfl, sN_congr (g := f) (fun r hr => by rw [if_neg (by omega)])]
    exact sN_part hk hi)
  have b : prN (k + 1) (fun r => Rn s B (s 1 1).toNat (if r = k then i else r)) = prN k (Rn s B (s 1 1).toNat) * Rn s B (s 1 1).toNat i := by
    show prN k (fun r => Rn s B (s 1 1).toNat (if r = k then i else r)) * Rn s B (s 1 1).toNat (if k = k then i else k) = _
    rw [if_pos rfl, prN_congr (g := Rn s B (s 1 1).toNat) (fun r hr => by rw [if_neg (by omega)])]
  rw [b] at a
  rw [← Int.natCast_mul]
  omega
/-- the graph's matrix with a right side below the degrees -/
def RS (s : Sto) (B : Nat) (A : Nat → Nat → Int) : Prop := (∀ i j, i < (s 1 0).toNat → j < (s 1 0).toNat → A i j = LM s B (s 1 1).toNat i j) ∧ ∀ i, i < (s 1 0).toNat → ab (A i (s 1 0).toNat) ≤ SPm s B (s 1 1).toNat i i
theorem RS.row {s : Sto} {B : Nat} {A : Nat → Nat → Int} (hA : RS s B A) {i : Nat} (hi : i < (s 1 0).toNat) : sumN (s 1 0).toNat (fun j => ab (A i j)) + ab (A i (s 1 0).toNat) ≤ (Rn s B (s 1 1).toNat i : Int) := by
  have h1 := sumN_le (n := (s 1 0).toNat) (f := fun j => ab (A i j)) (g := fun j => (if j = i then (if fre s i = false then 1 else 0) else 0) + ab (SPm s B (s 1 1).toNat i j)) (fun j hj => by
    rw [hA.1 i j hi hj, LM_SP]
    by_cases c : j = i
    · rw [if_pos c]
      by_cases d : fre s i = false
      · rw [if_pos ⟨c.symm, d⟩, if_pos d]; unfold ab; omega
      · rw [if_neg (fun z => d z.2), if_neg d]; unfold ab; omega
    · rw [if_neg (fun z => c z.1.symm), if_neg c]; unfold ab; omega)
  rw [sumN_add, sumN_one _ hi] at h1
  have h2 := SPm_row (s := s) B i (s 1 0).toNat (s 1 1).toNat
  have h3 := hA.2 i hi
  have h4 := SPm_nn s B (s 1 1).toNat i
  unfold Rn
  by_cases c : fre s i = true
  · rw [if_neg (by rw [c]; decide)] at h1
    rw [if_pos c]
    unfold dn
    omega
  · have c2 : fre s i = false := fre_no c
    rw [if_pos c2] at h1
    rw [if_neg c]
    rw [SPm_z (Or.inl c2)] at h2 h3 h4
    omega
theorem ab_lt {x : Int} (h : ab x < 500000000) : -9223372036854775808 ≤ x ∧ x < 9223372036854775808 := by unfold ab at h; omega
theorem ab_lt2 {x y : Int} (h : ab x < 500000000) (h' : ab y < 500000000) : -9223372036854775808 ≤ x * y ∧ x * y < 9223372036854775808 := by
  have e := ab_mul x y
  have e2 : ab x * ab y ≤ 500000000 * 500000000 := Int.mul_le_mul (by omega) (by omega) (ab_nn y) (by decide)
  unfold ab at e e2
  omega
theorem RS.det {s : Sto} {B : Nat} {A : Nat → Nat → Int} (h : WG s) (hL : LbR s) (hA : RS s B A) {k : Nat} (hk : k ≤ (s 1 0).toNat) : ab (det k A) < 500000000 :=
  Int.lt_of_le_of_lt (det_bd k (R := fun r => (Rn s B (s 1 1).toNat r : Int)) (fun r hr => by
    have a := hA.row (i := r) (by omega)
    have b := sumN_mono (n := (s 1 0).toNat) (f := fun x => ab (A r x)) (fun _ _ => ab_nn _) hk
    have c := ab_nn (A r (s 1 0).toNat)
    omega)) (Rn_one h hL hk)
theorem RS.NN {s : Sto} {B : Nat} {A : Nat → Nat → Int} (h : WG s) (hL : LbR s) (hA : RS s B A) {k i j : Nat} (hk : k ≤ (s 1 0).toNat) (hi : i < (s 1 0).toNat) (hj : j ≤ (s 1 0).toNat) : ab (NN A k i j) < 500000000 := by
  by_cases c : j < k
  · rw [NN_left c]
    split
    · exact hA.det h hL hk
    · decide
  · have b := NN_bd (A := A) (R := fun r => (Rn s B (s 1 1).toNat r : Int)) (k := k) (i := i) (j := j) (by omega) (fun r hr => by
      have a := hA.row (i := r) (by omega)
      by_cases d : j = (s 1 0).toNat
      · have b := sumN_mono (n := (s 1 0).toNat) (f := fun x => ab (A r x)) (fun _ _ => ab_nn _) hk
        rw [d]
        omega
      · have b := sumN_part (n := (s 1 0).toNat) (f := fun x => ab (A r x)) (k := k) (j := j) (fun _ _ => ab_nn _) (by omega) (by omega)
        have c := ab_nn (A r (s 1 0).toNat)
        omega)
    by_cases d : i < k
    · rw [if_pos d] at b
      exact Int.lt_of_le_of_lt b (Rn_one h hL hk)
    · rw [if_neg d] at b
      exact Int.lt_of_le_of_lt b (Rn_two h hL (by omega) hi)
theorem RS.MB {s : Sto} {B : Nat} {A : Nat → Nat → Int} (h : WG s) (hL : LbR s) (hA : RS s B A) : MB (s 1 0).toNat A :=
  ⟨fun k hk => ab_lt (hA.det h hL hk), fun k i j hk hi hj => ab_lt2 (hA.det h hL (by omega)) (hA.NN h hL (by omega) hi hj)⟩
