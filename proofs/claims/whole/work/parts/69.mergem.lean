/-! the matrix when two labels are merged -/
def SPm (s : Sto) (B m i j : Nat) : Int := sumN m (fun e => if B.testBit e = true then 0 else eJ s (lbl s (s 2 e)) (lbl s (s 3 e)) i j)
def mrg (s : Sto) (a b : Nat) : Sto := wr s 14 (fun v => if s 14 v = (b : Int) then (a : Int) else s 14 v)
theorem mrg_ne (s : Sto) (a b : Nat) {k i : Nat} (h : k ≠ 14) : mrg s a b k i = s k i := wr_ne h
theorem mrg_at (s : Sto) (a b v : Nat) : mrg s a b 14 v = if s 14 v = (b : Int) then (a : Int) else s 14 v := wr_eq _ _ _ _
theorem mrg_fre {s : Sto} {a b : Nat} (hab : a ≠ b) (ha : s 14 a = (a : Int)) (hb : fre s b = true) (v : Nat) : fre (mrg s a b) v = true ↔ fre s v = true ∧ v ≠ b := by
  have hb2 := (fre_iff s b).mp hb
  have e1 : mrg s a b 1 0 = s 1 0 := mrg_ne s a b (by decide)
  have e2 : mrg s a b 1 2 = s 1 2 := mrg_ne s a b (by decide)
  rw [fre_iff, fre_iff, e1, e2, mrg_at, mrg_at, if_neg hb2.2.2]
  constructor
  · rintro ⟨h1, h2, h3⟩
    by_cases c : s 14 v = (b : Int)
    · rw [if_pos c] at h2
      have : v = a := by omega
      rw [this, ha] at c
      omega
    · rw [if_neg c] at h2
      exact ⟨⟨h1, h2, h3⟩, fun z => c (by rw [h2, z])⟩
  · rintro ⟨⟨h1, h2, h3⟩, h4⟩
    exact ⟨h1, by rw [if_neg (by omega)]; exact h2, h3⟩
theorem mrg_lbl {s : Sto} {a b : Nat} (x : Int) (hx : 0 ≤ s 14 x.toNat) : lbl (mrg s a b) x = if lbl s x = b then a else lbl s x := by
  unfold lbl
  rw [mrg_at]
  by_cases c : s 14 x.toNat = (b : Int)
  · rw [if_pos c, if_pos (by omega), toNat_n]
  · rw [if_neg c, if_neg (by omega)]
theorem dl_mrg {a b x i : Nat} (hib : i ≠ b) : dl (if x = b then a else x) i = dl x i + if i = a then dl x b else 0 := by
  unfold dl
  by_cases c : x = b
  · rw [if_pos c]
    by_cases d : i = a
    · rw [if_pos d, if_pos d.symm, if_neg (by omega), if_pos c]; rfl
    · rw [if_neg d, if_neg (fun z => d z.symm), if_neg (by omega)]; rfl
  · rw [if_neg c]
    split <;> split <;> rfl
theorem SPm_mrg {s : Sto} {a b i j : Nat} (hab : a ≠ b) (ha : s 14 a = (a : Int)) (hb : fre s b = true) (hi : i ≠ b) (hj : j ≠ b) (B : Nat) : ∀ m, (∀ e, e < m → 0 ≤ s 14 (s 2 e).toNat ∧ 0 ≤ s 14 (s 3 e).toNat) → SPm (mrg s a b) B m i j = SPm s B m i j + (if i = a ∧ fre s a = true then SPm s B m b j else 0) + (if j = a ∧ fre s a = true then SPm s B m i b else 0) + (if (i = a ∧ j = a) ∧ fre s a = true then SPm s B m b b else 0) := by
  intro m
  induction m with
  | zero => intro _; show (0 : Int) = 0 + (if i = a ∧ fre s a = true then 0 else 0) + (if j = a ∧ fre s a = true then 0 else 0) + (if (i = a ∧ j = a) ∧ fre s a = true then 0 else 0); simp
  | succ m ih =>
    intro h
    have i1 := ih (fun e he => h e (by omega))
    have hm := h m (by omega)
    have st : ∀ (q : Sto) (x y : Nat), SPm q B (m + 1) x y = SPm q B m x y + if B.testBit m = true then 0 else eJ q (lbl q (q 2 m)) (lbl q (q 3 m)) x y := fun _ _ _ => rfl
    rw [st, st, st, st, st, i1]
    by_cases c : B.testBit m = true
    · simp only [if_pos c, Int.add_zero]
    · simp only [if_neg c]
      rw [mrg_ne _ _ _ (by decide), mrg_ne _ _ _ (by decide), mrg_lbl _ hm.1, mrg_lbl _ hm.2]
      unfold eJ
      have fi := mrg_fre hab ha hb i
      have fj := mrg_fre hab ha hb j
      rw [dl_mrg hi, dl_mrg hi, dl_mrg hj, dl_mrg hj]
      generalize lbl s (s 2 m) = p
      generalize lbl s (s 3 m) = q
      generalize hP : SPm s B m i j = P1
      generalize SPm s B m b j = P2
      generalize SPm s B m i b = P3
      generalize SPm s B m b b = P4
      have e1 : (if fre (mrg s a b) i = true ∧ fre (mrg s a b) j = true then (dl p i + (if i = a then dl p b else 0) - (dl q i + if i = a then dl q b else 0)) * (dl p j + (if j = a then dl p b else 0) - (dl q j + if j = a then dl q b else 0)) else 0) = (if fre s i = true ∧ fre s j = true then (dl p i + (if i = a then dl p b else 0) - (dl q i + if i = a then dl q b else 0)) * (dl p j + (if j = a then dl p b else 0) - (dl q j + if j = a then dl q b else 0)) else 0) := ite_congr (propext ⟨fun z => ⟨(fi.mp z.1).1, (fj.mp z.2).1⟩, fun z => ⟨fi.mpr ⟨z.1, hi⟩, fj.mpr ⟨z.2, hj⟩⟩⟩) (fun _ => rfl) (fun _ => rfl)
      rw [e1]
      by_cases c1 : i = a <;> by_cases c2 : j = a <;> by_cases c3 : fre s a = true <;> by_cases c4 : fre s i = true <;> by_cases c5 : fre s j = true <;> simp only [c1, c2, c3, c4, c5, hb, if_true, if_false, and_true, true_and, and_false, false_and, and_self] <;> grind
