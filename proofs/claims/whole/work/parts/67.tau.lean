/-! trees that hold w and miss B -/
theorem cn_bc {s : Sto} (h : WG s) {A : Nat} (hA : CN s A) : s 1 0 - 1 ≤ bc A (s 1 1).toNat := by
  have hn := h.1
  have hT := wl_SpT h (decT A) (hA.marked h)
  have hs : bc (wl s (decT A) (s 1 1).toNat).2.2.1 (s 1 1).toNat ≤ bc A (s 1 1).toNat := bc_sub (fun e he q => by
    have hU := (wl_inv h (decT A) (s 1 1).toNat).1 e q
    rw [← wl_in h A _ e hU]
    exact q)
  have h2 := hT.2.1
  omega
def tre (s : Sto) (w B T : Nat) : Prop := SpT s T ∧ (∀ e, w.testBit e = true → T.testBit e = true) ∧ ∀ e, B.testBit e = true → T.testBit e = false
noncomputable def tau (s : Sto) (w B : Nat) : Int := sumN (2 ^ (s 1 1).toNat) (fun T => ind (tre s w B T))
theorem tau_split (s : Sto) (w B e : Nat) : tau s w B = tau s (w ||| 2 ^ e) B + tau s w (B ||| 2 ^ e) := by
  unfold tau
  rw [← sumN_add]
  refine sumN_congr (fun T _ => ?_)
  have h1 : tre s (w ||| 2 ^ e) B T ↔ tre s w B T ∧ T.testBit e = true := by
    unfold tre
    constructor
    · rintro ⟨a, b, c⟩
      exact ⟨⟨a, fun i hi => b i (by rw [tb_or, hi]; rfl), c⟩, b e (by rw [tb_or]; simp)⟩
    · rintro ⟨⟨a, b, c⟩, d⟩
      refine ⟨a, fun i hi => ?_, c⟩
      rw [tb_or, Bool.or_eq_true, decide_eq_true_eq] at hi
      rcases hi with z | z
      · exact b i z
      · rw [← z]; exact d
  have h2 : tre s w (B ||| 2 ^ e) T ↔ tre s w B T ∧ T.testBit e = false := by
    unfold tre
    constructor
    · rintro ⟨a, b, c⟩
      exact ⟨⟨a, b, fun i hi => c i (by rw [tb_or, hi]; rfl)⟩, c e (by rw [tb_or]; simp)⟩
    · rintro ⟨⟨a, b, c⟩, d⟩
      refine ⟨a, b, fun i hi => ?_⟩
      rw [tb_or, Bool.or_eq_true, decide_eq_true_eq] at hi
      rcases hi with z | z
      · exact c i z
      · rw [← z]; exact d
  by_cases c : tre s w B T
  · cases q : T.testBit e
    · rw [ind_t c, ind_f (fun z => by have := (h1.mp z).2; rw [q] at this; cases this), ind_t (h2.mpr ⟨c, q⟩)]; rfl
    · rw [ind_t c, ind_t (h1.mpr ⟨c, q⟩), ind_f (fun z => by have := (h2.mp z).2; rw [q] at this; cases this)]; rfl
  · rw [ind_f c, ind_f (fun z => c (h1.mp z).1), ind_f (fun z => c (h2.mp z).1)]; rfl
/-- no tree holds a circle -/
theorem no_circle {s : Sto} (h : WG s) {w e T : Nat} (hT : SpT s T) (hw : ∀ i, w.testBit i = true → T.testBit i = true) (he : T.testBit e = true) (hwe : w.testBit e = false) (hj : ∀ X : Nat → Prop, (∀ i, i < (s 1 1).toNat → w.testBit i = true → (X (s 2 i).toNat ↔ X (s 3 i).toNat)) → (X (s 2 e).toNat ↔ X (s 3 e).toNat)) : False := by
  have hn := h.1
  obtain ⟨A, hA⟩ := mask_of (fun i => T.testBit i = true ∧ i ≠ e) (s 1 1).toNat
  have heM := hT.1 e he
  have hAe : A.testBit e = false := by
    cases q : A.testBit e
    · rfl
    · exact absurd rfl ((hA e).mp q).2.2
  have hCN : CN s A := by
    intro X hX hcl
    have hw2 : X (s 2 e).toNat ↔ X (s 3 e).toNat := hj X (fun i hi hwi => hcl i hi ((hA i).mpr ⟨hi, hw i hwi, fun z => by rw [z, hwe] at hwi; cases hwi⟩))
    refine hT.2.2 X hX (fun i hi hTi => ?_)
    by_cases d : i = e
    · rw [d]; exact hw2
    · exact hcl i hi ((hA i).mpr ⟨hi, hTi, d⟩)
  have h1 := cn_bc h hCN
  have h2 := bc_or heM hAe
  have h3 : bc (A ||| 2 ^ e) (s 1 1).toNat ≤ bc T (s 1 1).toNat := bc_sub (fun i hi q => by
    rw [tb_or, Bool.or_eq_true, decide_eq_true_eq] at q
    rcases q with z | z
    · exact ((hA i).mp z).2.1
    · rw [← z]; exact he)
  have h4 := hT.2.1
  omega
theorem tau_circle {s : Sto} (h : WG s) {w B e : Nat} (hwe : w.testBit e = false) (hj : ∀ X : Nat → Prop, (∀ i, i < (s 1 1).toNat → w.testBit i = true → (X (s 2 i).toNat ↔ X (s 3 i).toNat)) → (X (s 2 e).toNat ↔ X (s 3 e).toNat)) : tau s w B = tau s w (B ||| 2 ^ e) := by
  rw [tau_split s w B e]
  have : tau s (w ||| 2 ^ e) B = 0 := sumN_z (fun T _ => ind_f (fun z => no_circle h z.1 (fun i hi => z.2.1 i (by rw [tb_or, hi]; rfl)) (z.2.1 e (by rw [tb_or]; simp)) hwe hj))
  omega
