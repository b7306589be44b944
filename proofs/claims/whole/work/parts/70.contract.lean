/-! merged labels: the folded matrix with a unit row and column -/
theorem LM_SP (s : Sto) (B m i j : Nat) : LM s B m i j = (if i = j ∧ fre s i = false then 1 else 0) + SPm s B m i j := rfl
theorem SPm_z {s : Sto} {i j : Nat} (h : fre s i = false ∨ fre s j = false) (B m : Nat) : SPm s B m i j = 0 := sumN_z (fun e _ => by
  split
  · rfl
  · unfold eJ
    refine if_neg (fun z => ?_)
    rcases h with q | q
    · rw [q] at z; cases z.1
    · rw [q] at z; cases z.2)
theorem LM_mrg {s : Sto} {a b : Nat} (hab : a ≠ b) (ha : s 14 a = (a : Int)) (hb : fre s b = true) (B m : Nat) (hl : ∀ e, e < m → 0 ≤ s 14 (s 2 e).toNat ∧ 0 ≤ s 14 (s 3 e).toNat) (i j : Nat) : LM (mrg s a b) B m i j = UU b (if fre s a = true then FO a b (LM s B m) else LM s B m) i j := by
  have nb : fre (mrg s a b) b = false := by
    cases c : fre (mrg s a b) b
    · rfl
    · exact absurd rfl ((mrg_fre hab ha hb b).mp c).2
  unfold UU
  by_cases c : i = b ∨ j = b
  · rw [if_pos c, LM_SP, SPm_z (by rcases c with q | q <;> rw [q]; exact Or.inl nb; exact Or.inr nb)]
    by_cases d : i = j
    · rw [if_pos d, if_pos ⟨d, by rcases c with q | q; rw [q]; exact nb; rw [d, q]; exact nb⟩]; rfl
    · rw [if_neg d, if_neg (fun z => d z.1)]; rfl
  · rw [if_neg c]
    have hi : i ≠ b := fun z => c (Or.inl z)
    have hj : j ≠ b := fun z => c (Or.inr z)
    have fi : fre (mrg s a b) i = fre s i := by
      have q := mrg_fre hab ha hb i
      cases c1 : fre (mrg s a b) i <;> cases c2 : fre s i
      · rfl
      · have := q.mpr ⟨c2, hi⟩; rw [c1] at this; cases this
      · have := (q.mp c1).1; rw [c2] at this; cases this
      · rfl
    rw [LM_SP, fi, SPm_mrg hab ha hb hi hj B m hl]
    by_cases f : fre s a = true
    · rw [if_pos f]
      unfold FO
      rw [LM_SP, LM_SP, LM_SP, LM_SP, LM_SP, LM_SP]
      rw [if_neg (c := b = j ∧ fre s b = false) (fun z => hj z.1.symm), if_neg (c := a = b ∧ fre s a = false) (fun z => hab z.1), if_neg (c := b = b ∧ fre s b = false) (fun z => by rw [hb] at z; cases z.2), if_neg (c := i = b ∧ fre s i = false) (fun z => hi z.1)]
      by_cases c1 : i = a
      · subst c1
        by_cases c2 : j = i
        · subst c2
          simp only [f, if_true, and_self]
          omega
        · simp only [f, c2, if_true, if_false, and_true, and_false, false_and]
          omega
      · by_cases c2 : j = a
        · subst c2
          simp only [f, c1, if_true, if_false, and_true, false_and]
          omega
        · simp only [c1, c2, if_false, false_and]
          omega
    · rw [if_neg f, LM_SP]
      rw [if_neg (c := i = a ∧ fre s a = true) (fun z => f z.2), if_neg (c := j = a ∧ fre s a = true) (fun z => f z.2), if_neg (c := (i = a ∧ j = a) ∧ fre s a = true) (fun z => f z.2)]
      omega
