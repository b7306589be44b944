/-! the determinant counts trees: one edge more -/
theorem LM_more {s : Sto} {B M e : Nat} (he : e < M) (hB : B.testBit e = false) (i j : Nat) : LM s B M i j = LM s (B ||| 2 ^ e) M i j + eJ s (lbl s (s 2 e)) (lbl s (s 3 e)) i j := by
  rw [LM_SP, LM_SP]
  unfold SPm
  rw [sumN_up (f := fun x => if (B ||| 2 ^ e).testBit x = true then 0 else eJ s (lbl s (s 2 x)) (lbl s (s 3 x)) i j) (g := fun x => if B.testBit x = true then 0 else eJ s (lbl s (s 2 x)) (lbl s (s 3 x)) i j) (k := e) he (fun x _ hx => by
    have : (B ||| 2 ^ e).testBit x = B.testBit x := by rw [tb_or, decide_eq_false (fun z => hx z.symm), Bool.or_false]
    rw [this])]
  have h1 : (B ||| 2 ^ e).testBit e = true := by rw [tb_or]; simp
  rw [if_pos h1, if_neg (c := B.testBit e = true) (by rw [hB]; decide)]
  omega
theorem eJ_same (s : Sto) (a i j : Nat) : eJ s a a i j = 0 := by
  unfold eJ
  split
  · rw [Int.sub_self]; simp
  · rfl
theorem eJ_sym (s : Sto) (a b i j : Nat) : eJ s a b i j = eJ s b a i j := by
  unfold eJ
  split
  · grind
  · rfl
/-- without the edge, and with its ends merged -/
theorem det_two {s : Sto} {N a b B M e : Nat} (ha2 : a < N) (hb2 : b < N) (hab : a ≠ b) (ha : s 14 a = (a : Int)) (hb : fre s b = true) (he : e < M) (hB : B.testBit e = false) (hl : ∀ e, e < M → 0 ≤ s 14 (s 2 e).toNat ∧ 0 ≤ s 14 (s 3 e).toNat) (hlab : (lbl s (s 2 e) = a ∧ lbl s (s 3 e) = b) ∨ (lbl s (s 2 e) = b ∧ lbl s (s 3 e) = a)) : det N (LM s B M) = det N (LM s (B ||| 2 ^ e) M) + det N (LM (mrg s a b) B M) := by
  have e1 : ∀ i j, LM s B M i j = LM s (B ||| 2 ^ e) M i j + eJ s a b i j := fun i j => by
    rw [LM_more he hB]
    rcases hlab with ⟨q1, q2⟩ | ⟨q1, q2⟩
    · rw [q1, q2]
    · rw [q1, q2, eJ_sym]
  have e2 : det N (LM (mrg s a b) B M) = det N (LM (mrg s a b) (B ||| 2 ^ e) M) := det_ext N (fun i j _ _ => by
    rw [LM_more he hB]
    have h1 := hl e he
    have e3 : lbl (mrg s a b) (mrg s a b 2 e) = a := by
      rw [mrg_ne s a b (by decide), mrg_lbl _ h1.1]
      rcases hlab with ⟨q1, q2⟩ | ⟨q1, q2⟩
      · rw [q1, if_neg hab]
      · rw [q1, if_pos rfl]
    have e4 : lbl (mrg s a b) (mrg s a b 3 e) = a := by
      rw [mrg_ne s a b (by decide), mrg_lbl _ h1.2]
      rcases hlab with ⟨q1, q2⟩ | ⟨q1, q2⟩
      · rw [q2, if_pos rfl]
      · rw [q2, if_neg hab]
    rw [e3, e4, eJ_same]
    omega)
  have e5 : det N (LM (mrg s a b) (B ||| 2 ^ e) M) = det N (UU b (if fre s a = true then FO a b (LM s (B ||| 2 ^ e) M) else LM s (B ||| 2 ^ e) M)) := det_ext N (fun i j _ _ => LM_mrg hab ha hb _ _ hl i j)
  rw [e2, e5]
  by_cases f : fre s a = true
  · rw [if_pos f, ← det_edge ha2 hb2 hab]
    refine det_ext N (fun i j _ _ => ?_)
    rw [e1]
    congr 1
    unfold eJ
    by_cases c : fre s i = true ∧ fre s j = true
    · rw [if_pos c]
    · rw [if_neg c]
      have z : ∀ x, ¬ fre s x = true → dl a x - dl b x = 0 := fun x hx => by
        unfold dl
        rw [if_neg (fun q => hx (by rw [← q]; exact f)), if_neg (fun q => hx (by rw [← q]; exact hb))]
        rfl
      by_cases d : fre s i = true
      · rw [z j (fun q => c ⟨d, q⟩), Int.mul_zero]
      · rw [z i d, Int.zero_mul]
  · rw [if_neg f, ← det_unit_add hb2]
    refine det_ext N (fun i j _ _ => ?_)
    rw [e1]
    congr 1
    unfold eJ
    have z : ∀ x, fre s x = true → dl a x - dl b x = if x = b then -1 else 0 := fun x hx => by
      unfold dl
      rw [if_neg (fun q => f (by rw [q]; exact hx))]
      by_cases q : x = b
      · rw [if_pos q.symm, if_pos q]; rfl
      · rw [if_neg (fun y => q y.symm), if_neg q]; rfl
    by_cases c : fre s i = true ∧ fre s j = true
    · rw [if_pos c, z i c.1, z j c.2]
      by_cases d1 : i = b <;> by_cases d2 : j = b <;> simp [d1, d2]
    · rw [if_neg c, if_neg (fun q => c ⟨by rw [q.1]; exact hb, by rw [q.2]; exact hb⟩)]
