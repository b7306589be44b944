/-! deleting and contracting, on matrices -/
def UU (b : Nat) (A : Nat → Nat → Int) : Nat → Nat → Int := fun r i => if r = b ∨ i = b then (if r = i then 1 else 0) else A r i
def FO (a b : Nat) (A : Nat → Nat → Int) : Nat → Nat → Int := fun r i => (if r = a then A a i + A b i else A r i) + (if i = a then (if r = a then A a b + A b b else A r b) else 0)
theorem det_unit_add {N b : Nat} (hb : b < N) (A : Nat → Nat → Int) : det N (fun r i => A r i + if r = b ∧ i = b then 1 else 0) = det N A + det N (UU b A) := by
  have e1 : (fun r i => A r i + if r = b ∧ i = b then 1 else 0) = cu A b (fun r => A r b + if r = b then 1 else 0) := by
    funext r i
    unfold cu
    by_cases c : i = b
    · rw [if_pos c, c]
      congr 1
      exact ite_congr (propext (by omega)) (fun _ => rfl) (fun _ => rfl)
    · rw [if_neg c, if_neg (fun z => c z.2)]; omega
  rw [e1, det_add hb, cu_self]
  congr 1
  rw [det_unit hb _ (by rw [cu_eq, if_pos rfl]) (fun r _ hr => by rw [cu_eq, if_neg hr])]
  refine det_ext N (fun r i _ _ => ?_)
  unfold ru cu UU
  dsimp only
  by_cases c : r = b
  · rw [if_pos c, if_pos (Or.inl c), c]
    exact ite_congr (propext eq_comm) (fun _ => rfl) (fun _ => rfl)
  · rw [if_neg c]
    by_cases d : i = b
    · rw [if_pos d, if_pos (Or.inr d), d]
    · rw [if_neg d, if_neg (by omega)]
theorem det_fold {N a b : Nat} (ha : a < N) (hb : b < N) (hab : a ≠ b) (A : Nat → Nat → Int) : det N (FO a b A) = det N A := by
  rw [← det_radd ha hb hab A 1, ← det_cadd ha hb hab (ru A a (fun i => A a i + 1 * A b i)) 1]
  refine det_ext N (fun r i _ _ => ?_)
  unfold FO cu ru
  dsimp only
  by_cases c : i = a
  · rw [if_pos c, if_pos c, c]
    by_cases d : r = a
    · rw [if_pos d, if_pos d, if_pos d, if_pos d]; omega
    · rw [if_neg d, if_neg d, if_neg d, if_neg d]; omega
  · rw [if_neg c, if_neg c]
    by_cases d : r = a
    · rw [if_pos d, if_pos d]; omega
    · rw [if_neg d, if_neg d]; omega
/-- an edge between a and b, both free: without it, and with its ends merged -/
theorem det_edge {N a b : Nat} (ha : a < N) (hb : b < N) (hab : a ≠ b) (A : Nat → Nat → Int) : det N (fun r i => A r i + (dl a r - dl b r) * (dl a i - dl b i)) = det N A + det N (UU b (FO a b A)) := by
  rw [← det_fold ha hb hab (fun r i => A r i + (dl a r - dl b r) * (dl a i - dl b i)), ← det_fold ha hb hab A, ← det_unit_add hb]
  refine det_ext N (fun r i _ _ => ?_)
  unfold FO dl
  dsimp only
  grind
