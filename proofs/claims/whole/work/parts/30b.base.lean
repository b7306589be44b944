/-! sums over ranges; loops by their steps; what a whole cell becomes -/
def sumN : Nat → (Nat → Int) → Int
  | 0, _ => 0
  | n + 1, f => sumN n f + f n
theorem sumN_congr : ∀ {n : Nat} {f g : Nat → Int}, (∀ i, i < n → f i = g i) → sumN n f = sumN n g
  | 0, _, _, _ => rfl
  | n + 1, f, g, h => by
    show sumN n f + f n = sumN n g + g n
    rw [sumN_congr (fun i hi => h i (by omega)), h n (by omega)]
theorem sumN_zero : ∀ n : Nat, sumN n (fun _ => 0) = 0
  | 0 => rfl
  | n + 1 => by show sumN n _ + 0 = 0; rw [sumN_zero n]; rfl
theorem sumN_z {n : Nat} {f : Nat → Int} (h : ∀ i, i < n → f i = 0) : sumN n f = 0 := (sumN_congr h).trans (sumN_zero n)
theorem sumN_add (n : Nat) (f g : Nat → Int) : sumN n (fun i => f i + g i) = sumN n f + sumN n g := by
  induction n with
  | zero => rfl
  | succ n ih => simp only [sumN, ih]; omega
theorem sumN_sub (n : Nat) (f g : Nat → Int) : sumN n (fun i => f i - g i) = sumN n f - sumN n g := by
  induction n with
  | zero => rfl
  | succ n ih => simp only [sumN, ih]; omega
theorem sumN_mul (n : Nat) (c : Int) (f : Nat → Int) : sumN n (fun i => c * f i) = c * sumN n f := by
  induction n with
  | zero => simp [sumN]
  | succ n ih => simp only [sumN, ih, Int.mul_add]
theorem sumN_mulr (n : Nat) (c : Int) (f : Nat → Int) : sumN n (fun i => f i * c) = sumN n f * c := by
  induction n with
  | zero => simp [sumN]
  | succ n ih => simp only [sumN, ih, Int.add_mul]
theorem sumN_neg (n : Nat) (f : Nat → Int) : sumN n (fun i => - f i) = - sumN n f := by
  induction n with
  | zero => rfl
  | succ n ih => simp only [sumN, ih]; omega
theorem sumN_comm (n m : Nat) (f : Nat → Nat → Int) : sumN n (fun i => sumN m (fun j => f i j)) = sumN m (fun j => sumN n (fun i => f i j)) := by
  induction n with
  | zero => exact (sumN_zero m).symm
  | succ n ih => simp only [sumN, ih, sumN_add]
theorem sumN_nn {n : Nat} {f : Nat → Int} (h : ∀ i, i < n → 0 ≤ f i) : 0 ≤ sumN n f := by
  induction n with
  | zero => exact Int.le_refl 0
  | succ n ih =>
    have h1 := ih (fun i hi => h i (by omega))
    have h2 := h n (by omega)
    show 0 ≤ sumN n f + f n
    omega
theorem sumN_le {n : Nat} {f g : Nat → Int} (h : ∀ i, i < n → f i ≤ g i) : sumN n f ≤ sumN n g := by
  induction n with
  | zero => exact Int.le_refl 0
  | succ n ih =>
    have h1 := ih (fun i hi => h i (by omega))
    have h2 := h n (by omega)
    show sumN n f + f n ≤ sumN n g + g n
    omega
theorem sumN_ge {n : Nat} {f : Nat → Int} (h : ∀ i, i < n → 0 ≤ f i) {k : Nat} (hk : k < n) : f k ≤ sumN n f := by
  induction n with
  | zero => omega
  | succ n ih =>
    show f k ≤ sumN n f + f n
    have h0 := sumN_nn (n := n) (f := f) (fun i hi => h i (by omega))
    have h2 := h n (by omega)
    by_cases e : k = n
    · subst e; omega
    · have := ih (fun i hi => h i (by omega)) (by omega); omega
theorem sumN_up {n : Nat} {f g : Nat → Int} {k : Nat} (hk : k < n) (h : ∀ i, i < n → i ≠ k → g i = f i) : sumN n g = sumN n f + (g k - f k) := by
  induction n with
  | zero => omega
  | succ n ih =>
    show sumN n g + g n = sumN n f + f n + (g k - f k)
    by_cases e : k = n
    · subst e
      rw [sumN_congr (f := g) (g := f) (fun i hi => h i (by omega) (by omega))]
      omega
    · rw [ih (by omega) (fun i hi hne => h i (by omega) hne), h n (by omega) (by omega)]
      omega
theorem sumN_one {n k : Nat} (x : Int) (hk : k < n) : sumN n (fun i => if i = k then x else 0) = x := by
  rw [sumN_up (f := fun _ => 0) hk (fun i _ hne => if_neg hne), sumN_zero, if_pos rfl]
  omega
theorem sumN_split {a b : Nat} (f : Nat → Int) : sumN (a + b) f = sumN a f + sumN b (fun i => f (a + i)) := by
  induction b with
  | zero => show sumN a f = sumN a f + 0; omega
  | succ b ih => show sumN (a + b) f + f (a + b) = sumN a f + (sumN b _ + f (a + b)); rw [ih]; omega
theorem sumN_const (n : Nat) (c : Int) : sumN n (fun _ => c) = n * c := by
  induction n with
  | zero => simp [sumN]
  | succ n ih => show sumN n _ + c = _; rw [ih, Int.natCast_succ, Int.add_mul, Int.one_mul]
/-- a loop, by an invariant -/
theorem loop_inv {α : Type} {N : Nat} (I H : Nat → α → Prop) (hs : ∀ j a, j < N → I j a → (∀ a', I (j + 1) a' → H (j + 1) a') → H j a) (he : ∀ a, I N a → H N a) : ∀ j a, j ≤ N → I j a → H j a := by
  have key : ∀ d j a, j + d = N → I j a → H j a := by
    intro d
    induction d with
    | zero => intro j a hj hI; rw [show j = N by omega] at hI ⊢; exact he a hI
    | succ d ih => intro j a hj hI; exact hs j a (by omega) hI (fun a' h' => ih (j + 1) a' (by omega) h')
  exact fun j a hj hI => key (N - j) j a (by omega) hI
theorem toNat_n (j : Nat) : Int.toNat (j : Int) = j := rfl
/-- a cell becomes f -/
def wr (s : Sto) (k : Nat) (f : Nat → Int) : Sto := fun k' i => if k' = k then f i else s k' i
theorem wr_eq (s : Sto) (k : Nat) (f : Nat → Int) (i : Nat) : wr s k f k i = f i := if_pos rfl
theorem wr_ne {s : Sto} {k k' : Nat} {f : Nat → Int} {i : Nat} (h : k' ≠ k) : wr s k f k' i = s k' i := if_neg h
theorem wr_self (s : Sto) (k : Nat) : wr s k (s k) = s := by
  funext k' i
  by_cases h : k' = k
  · rw [h, wr_eq]
  · rw [wr_ne h]
theorem wr_wr (s : Sto) (k : Nat) (f g : Nat → Int) : wr (wr s k f) k g = wr s k g := by
  funext k' i
  by_cases h : k' = k
  · rw [h, wr_eq, wr_eq]
  · rw [wr_ne h, wr_ne h, wr_ne h]
/-- a function is given another value -/
def fu (f : Nat → Int) (i : Nat) (x : Int) : Nat → Int := fun i' => if i' = i then x else f i'
theorem fu_eq (f : Nat → Int) (i : Nat) (x : Int) : fu f i x i = x := if_pos rfl
theorem fu_ne {f : Nat → Int} {i i' : Nat} {x : Int} (h : i' ≠ i) : fu f i x i' = f i' := if_neg h
theorem up_wr (s : Sto) (k i : Nat) (x : Int) : up s k i x = wr s k (fu (s k) i x) := by
  funext k' i'
  by_cases h : k' = k
  · subst h
    rw [wr_eq]
    by_cases e : i' = i
    · rw [e, up_eq, fu_eq]
    · rw [up_i e, fu_ne e]
  · rw [up_k h, wr_ne h]
theorem up_wr_wr (s : Sto) (k i : Nat) (f : Nat → Int) (x : Int) : up (wr s k f) k i x = wr s k (fu f i x) := by
  rw [up_wr, wr_wr]
  congr 1
  funext i'
  unfold fu
  rw [wr_eq]
