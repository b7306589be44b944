/-! the whole graph's matrix -/
theorem lab_id {F S : Nat → Int} {N m : Nat} {T : Nat → Prop} {L : Nat → Int} (h : LabP F S N m T L) (hT : ∀ e, e < m → ¬ T e) : ∀ v, v < N → L v = (v : Int) := by
  intro v hv
  have h1 := h.1 v hv
  have h2 := (h.2.2 (fun x => x = v) (fun e he t => absurd t (hT e he)) (L v).toNat v (by omega) hv h1.2).mpr rfl
  omega
theorem no_bit {e : Nat} (he : e < 32) : ¬ bitI 0 e := by
  have h := bitI_n (a := 0) (e := e) (by decide) he
  rw [Nat.zero_testBit] at h
  intro z
  exact absurd (h.mp z) (by decide)
/-- the end of fillWhole -/
def FwP (s s' : Sto) : Prop := (∀ k i, k ≠ 14 → k < 42 ∨ k = 43 ∨ k = 44 ∨ 52 < k → s' k i = s k i) ∧ s' 42 1 = s 42 1 ∧ (∀ v, v < (s 1 0).toNat → s' 14 v = (v : Int)) ∧ MA s' (s 1 0).toNat (LM s' 0 (s 1 1).toNat)
theorem LM_of {s q : Sto} (h : ∀ k i, k < 42 → q k i = s k i) (B m : Nat) : LM q B m = LM s B m := by
  have h1 : q 1 = s 1 := funext fun i => h 1 i (by decide)
  have h2 : q 2 = s 2 := funext fun i => h 2 i (by decide)
  have h3 : q 3 = s 3 := funext fun i => h 3 i (by decide)
  have h14 : q 14 = s 14 := funext fun i => h 14 i (by decide)
  funext i j
  unfold LM eJ lbl
  rw [fre_of h1 h14, h2, h3, h14]
theorem k_Ma_fillWhole {s : Sto} (h : WG s) : K_Ma_fillWhole s (FwP s) := by
  have hn := h.1
  have hm := h.2.1
  refine e_Ma_fillWhole ⟨_, k_Gr_findParts h, ?_⟩
  rintro r s3 ⟨a, b, c⟩
  have g1 : WG s3 := h.of (fun k i _ _ => a k i (by omega))
  have e10 : s3 1 0 = s 1 0 := a 1 0 (by decide)
  have e11 : s3 1 1 = s 1 1 := a 1 1 (by decide)
  have hid := lab_id b (fun e he => no_bit (by omega))
  have g2 : LbR s3 := fun v hv => by
    rw [e10] at hv ⊢
    rw [hid v hv]
    omega
  refine ⟨_, k_Ma_fill (B := 0) g1 (by decide) g2, ?_⟩
  rintro s8 ⟨f1, f2, f3⟩
  rw [e10, e11] at f3
  refine ⟨fun k i h1 h2 => (f1 k i h2).trans (a k i h1), f2.trans (a 42 1 (by decide)), fun v hv => (f1 14 v (by decide)).trans (hid v hv), ?_⟩
  rw [LM_of (fun k i hk => f1 k i (Or.inl hk))]
  exact f3
