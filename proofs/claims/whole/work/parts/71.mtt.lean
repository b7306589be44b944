/-! the determinant counts trees -/
theorem tau_of {s q : Sto} (h : ∀ k i, 1 ≤ k → k ≤ 3 → q k i = s k i) (w B : Nat) : tau q w B = tau s w B := by
  have h1 : q 1 = s 1 := funext fun i => h 1 i (by decide) (by decide)
  have h2 : q 2 = s 2 := funext fun i => h 2 i (by decide) (by decide)
  have h3 : q 3 = s 3 := funext fun i => h 3 i (by decide) (by decide)
  unfold tau tre SpT
  rw [h1, h2, h3]
theorem fre_no {s : Sto} {v : Nat} (h : ¬ fre s v = true) : fre s v = false := by
  cases c : fre s v
  · rfl
  · exact absurd c h
/-- all edges decided -/
theorem mtt_end {s : Sto} (h : WG s) {w B : Nat} (hL : LabP (s 2) (s 3) (s 1 0).toNat (s 1 1).toNat (fun e => w.testBit e = true) (s 14)) (hc : cntL (s 14) (s 1 0).toNat + bc w (s 1 1).toNat = s 1 0) (hw : ∀ e, w.testBit e = true → e < (s 1 1).toNat) (hwB : ∀ e, w.testBit e = true → B.testBit e = false) (hall : ∀ e, e < (s 1 1).toNat → w.testBit e = true ∨ B.testBit e = true) : det (s 1 0).toNat (LM s B (s 1 1).toNat) = tau s w B := by
  have hn := h.1
  have hK := h.K
  have lK := hL.1 _ hK
  have sp : ∀ i j, SPm s B (s 1 1).toNat i j = 0 := fun i j => sumN_z (fun e he => by
    split
    · rfl
    · next c =>
      have hwe := (hall e he).resolve_right c
      have hl := hL.2.1 e he hwe
      have : lbl s (s 2 e) = lbl s (s 3 e) := by unfold lbl; rw [hl]
      unfold eJ
      rw [this]
      split
      · rw [Int.sub_self]; simp
      · rfl)
  have hT : ∀ T, tre s w B T → T = w := fun T z => by
    apply Nat.eq_of_testBit_eq
    intro e
    cases c : T.testBit e <;> cases d : w.testBit e
    · rfl
    · have := z.2.1 e d; rw [c] at this; cases this
    · have h1 := (hall e (z.1.1 e c)).resolve_left (fun q => by rw [d] at q; cases q)
      have := z.2.2 e h1; rw [c] at this; cases this
    · rfl
  by_cases f : ∃ v, fre s v = true
  · obtain ⟨v, hv⟩ := f
    have hv2 := (fre_iff s v).mp hv
    rw [det_zrow hv2.1 (LM s B (s 1 1).toNat) (fun i _ => by rw [LM_SP, sp, if_neg (fun z => by rw [hv] at z; cases z.2)]; rfl)]
    refine (sumN_z (fun T _ => ind_f (fun z => ?_))).symm
    have e1 := hT T z
    have := z.1.2.2 (fun x => s 14 x = s 14 (s 1 2).toNat) rfl (fun e he hTe => by rw [hL.2.1 e he (by rw [← e1]; exact hTe)]) v hv2.1
    have h3 := hv2.2
    rw [h3.1] at this
    exact h3.2 this.symm
  · have nf : ∀ v, fre s v = false := fun v => fre_no (fun z => f ⟨v, z⟩)
    have self : ∀ v, v < (s 1 0).toNat → s 14 v = s 14 (s 1 2).toNat := fun v hv => by
      have lv := hL.1 v hv
      apply Classical.byContradiction
      intro c
      refine f ⟨(s 14 v).toNat, (fre_iff s _).mpr ⟨by omega, by rw [lv.2]; omega, by omega⟩⟩
    have c1 : cntL (s 14) (s 1 0).toNat = 1 := by
      unfold cntL
      rw [sumN_congr (g := fun v => if v = (s 14 (s 1 2).toNat).toNat then 1 else 0) (fun v hv => ?_), sumN_one 1 (by omega)]
      rw [self v hv]
      exact ite_congr (propext (by omega)) (fun _ => rfl) (fun _ => rfl)
    have hS : SpT s w := ⟨hw, by omega, fun X hX hcl v hv => (hL.2.2 X (fun e he q => hcl e he q) v _ hv hK (self v hv)).mpr hX⟩
    have e1 : tau s w B = 1 := by
      unfold tau
      rw [sumN_congr (g := fun T => if T = w then 1 else 0) (fun T _ => ?_), sumN_one 1 (lt_pow hw)]
      by_cases d : T = w
      · rw [if_pos d, d, ind_t ⟨hS, fun _ q => q, fun e q => by
          cases z : w.testBit e
          · rfl
          · have := hwB e z; rw [q] at this; cases this⟩]
      · rw [if_neg d, ind_f (fun z => d (hT T z))]
    rw [e1, ← det_one (s 1 0).toNat]
    refine det_ext _ (fun i j _ _ => ?_)
    rw [LM_SP, sp]
    by_cases d : i = j
    · rw [if_pos ⟨d, nf i⟩, if_pos d]; rfl
    · rw [if_neg (fun z => d z.1), if_neg d]; rfl
