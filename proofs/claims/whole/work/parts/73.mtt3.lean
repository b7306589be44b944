/-! the determinant counts trees -/
theorem bc_two {a b m : Nat} (h : ∀ e, a.testBit e = true → b.testBit e = false) : bc a m + bc b m ≤ m := by
  unfold bc
  rw [← sumN_add]
  have e := sumN_le (n := m) (f := fun e => (if a.testBit e = true then (1 : Int) else 0) + if b.testBit e = true then 1 else 0) (g := fun _ => 1) (fun e _ => by
    by_cases c : a.testBit e = true
    · rw [if_pos c, if_neg (by rw [h e c]; decide)]; decide
    · rw [if_neg c]
      split <;> decide)
  rw [sumN_const] at e
  omega
theorem mtt : ∀ (d : Nat) {s : Sto} {w B : Nat}, WG s → LabP (s 2) (s 3) (s 1 0).toNat (s 1 1).toNat (fun e => w.testBit e = true) (s 14) → cntL (s 14) (s 1 0).toNat + bc w (s 1 1).toNat = s 1 0 → (∀ e, w.testBit e = true → e < (s 1 1).toNat) → (∀ e, w.testBit e = true → B.testBit e = false) → s 1 1 ≤ bc w (s 1 1).toNat + bc B (s 1 1).toNat + d → det (s 1 0).toNat (LM s B (s 1 1).toNat) = tau s w B := by
  intro d
  induction d with
  | zero =>
    intro s w B h hL hc hw hwB hd
    have hm := h.2.1
    refine mtt_end h hL hc hw hwB (fun e he => ?_)
    cases c : w.testBit e
    · cases c2 : B.testBit e
      · have h1 := bc_or he c2
        have h2 := bc_two (a := w) (b := B ||| 2 ^ e) (m := (s 1 1).toNat) (fun i hi => by
          rw [tb_or, hwB i hi, Bool.false_or, decide_eq_false_iff_not]
          intro z
          rw [z, hi] at c
          cases c)
        omega
      · exact Or.inr rfl
    · exact Or.inl rfl
  | succ d ih =>
    intro s w B h hL hc hw hwB hd
    have hn := h.1
    have hm := h.2.1
    have hK := h.K
    by_cases hall : ∀ e, e < (s 1 1).toNat → w.testBit e = true ∨ B.testBit e = true
    · exact mtt_end h hL hc hw hwB hall
    obtain ⟨e, hx⟩ := Classical.not_forall.mp hall
    have he : e < (s 1 1).toNat := Classical.byContradiction fun z => hx (fun q => absurd q z)
    have hwe : w.testBit e = false := by
      cases c : w.testBit e
      · rfl
      · exact absurd (fun _ => Or.inl c) hx
    have hBe : B.testBit e = false := by
      cases c : B.testBit e
      · rfl
      · exact absurd (fun _ => Or.inr c) hx
    have hF := h.2.2.2.1
    have bB := bc_or he hBe
    have bw := bc_or he hwe
    have hwB' : ∀ i, w.testBit i = true → (B ||| 2 ^ e).testBit i = false := fun i hi => by
      rw [tb_or, hwB i hi, Bool.false_or, decide_eq_false_iff_not]
      intro z
      rw [z, hi] at hwe
      cases hwe
    have i1 := ih (B := B ||| 2 ^ e) h hL hc hw hwB' (by omega)
    have lF := hL.1 (s 2 e).toNat (by have := hF e (by omega); omega)
    have lS := hL.1 (s 3 e).toNat (by have := hF e (by omega); omega)
    by_cases same : s 14 (s 2 e).toNat = s 14 (s 3 e).toNat
    · rw [tau_circle h hwe (fun X hX => hL.2.2 X hX _ _ (by have := hF e (by omega); omega) (by have := hF e (by omega); omega) same), ← i1]
      refine det_ext _ (fun i j _ _ => ?_)
      have : lbl s (s 2 e) = lbl s (s 3 e) := by unfold lbl; rw [same]
      rw [LM_more he hBe, this, eJ_same]
      omega
    · have fin : ∀ u z, ((u = (s 2 e).toNat ∧ z = (s 3 e).toNat) ∨ (u = (s 3 e).toNat ∧ z = (s 2 e).toNat)) → fre s (s 14 z).toNat = true → det (s 1 0).toNat (LM s B (s 1 1).toNat) = tau s w B := by
        intro u z huz hfz
        have hFe := hF e (by omega)
        have lu := hL.1 u (by omega)
        have lz := hL.1 z (by omega)
        have hne : s 14 u ≠ s 14 z := by
          rcases huz with ⟨q1, q2⟩ | ⟨q1, q2⟩
          · rw [q1, q2]; exact same
          · rw [q1, q2]; exact fun y => same y.symm
        generalize ha : (s 14 u).toNat = a at *
        generalize hb : (s 14 z).toNat = b at *
        have hua : s 14 u = (a : Int) := by omega
        have hzb : s 14 z = (b : Int) := by omega
        rw [det_two (a := a) (b := b) (by omega) (by omega) (by omega) (by rw [lu.2]; exact hua) hfz he hBe (fun i hi => by
          have := hF i (by omega)
          exact ⟨(hL.1 _ (by omega)).1.1, (hL.1 _ (by omega)).1.1⟩) (by
          unfold lbl
          rcases huz with ⟨q1, q2⟩ | ⟨q1, q2⟩
          · left; rw [← q1, ← q2]; exact ⟨ha, hb⟩
          · right; rw [← q1, ← q2]; exact ⟨hb, ha⟩), i1, tau_split s w B e]
        have k1 : ∀ k i, k ≠ 14 → mrg s a b k i = s k i := fun k i hk => mrg_ne s a b hk
        have m2 : mrg s a b 2 = s 2 := funext fun i => k1 2 i (by decide)
        have m3 : mrg s a b 3 = s 3 := funext fun i => k1 3 i (by decide)
        have m10 : mrg s a b 1 0 = s 1 0 := k1 1 0 (by decide)
        have m11 : mrg s a b 1 1 = s 1 1 := k1 1 1 (by decide)
        have mg := lab_merge (L' := mrg s a b 14) (fun i hi => by have := hF i (by omega); omega) hL he huz hne (fun v hv => by rw [mrg_at, hua, hzb])
        have i2 := ih (s := mrg s a b) (w := w ||| 2 ^ e) (B := B) (h.of (fun k i _ hk => k1 k i (by omega))) (by
          rw [m2, m3, m10, m11]
          exact mg.1.T (fun i _ => by rw [tb_or, Bool.or_eq_true, decide_eq_true_eq]; exact ⟨fun y => y.imp id Eq.symm, fun y => y.imp id Eq.symm⟩)) (by rw [m10, m11, mg.2, bw]; omega) (fun i hi => by
          rw [m11]
          rw [tb_or, Bool.or_eq_true, decide_eq_true_eq] at hi
          rcases hi with y | y
          · exact hw i y
          · rw [← y]; exact he) (fun i hi => by
          rw [tb_or, Bool.or_eq_true, decide_eq_true_eq] at hi
          rcases hi with y | y
          · exact hwB i y
          · rw [← y]; exact hBe) (by rw [m11, bw]; omega)
        rw [m10, m11, tau_of (fun k i _ hk => k1 k i (by omega))] at i2
        rw [i2]
        omega
      by_cases f : fre s (s 14 (s 3 e).toNat).toNat = true
      · exact fin _ _ (Or.inl ⟨rfl, rfl⟩) f
      · refine fin _ _ (Or.inr ⟨rfl, rfl⟩) ((fre_iff s _).mpr ⟨by omega, by rw [lF.2]; omega, fun z => ?_⟩)
        refine f ((fre_iff s _).mpr ⟨by omega, by rw [lS.2]; omega, fun y => same (by omega)⟩)
