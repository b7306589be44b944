/-! sets of edges by the part of node 0 -/
def Ein (s : Sto) (S e : Nat) : Bool := S.testBit (s 2 e).toNat && S.testBit (s 3 e).toNat
/-- the edges of A inside S hold S together with node 0 -/
def cS (s : Sto) (S A : Nat) : Prop := ∀ X : Nat → Prop, X 0 → (∀ e, Ein s S e = true → A.testBit e = true → (X (s 2 e).toNat ↔ X (s 3 e).toNat)) → ∀ v, S.testBit v = true → X v
noncomputable def PS (s : Sto) (S : Nat) : Nat → Int := SW (Ein s S) (fun A => ind (cS s S A)) (s 1 1).toNat 0
/-- p is the part of node 0 in S by the edges of A -/
def cP (s : Sto) (S p A : Nat) : Prop := (∀ X : Nat → Prop, X 0 → (∀ e, Ein s S e = true → A.testBit e = true → (X (s 2 e).toNat ↔ X (s 3 e).toNat)) → ∀ v, p.testBit v = true → X v) ∧ ∀ e, Ein s S e = true → A.testBit e = true → p.testBit (s 2 e).toNat = p.testBit (s 3 e).toNat
theorem mask_of (q : Nat → Prop) : ∀ n, ∃ a : Nat, ∀ v, a.testBit v = true ↔ v < n ∧ q v := by
  intro n
  induction n with
  | zero => exact ⟨0, fun v => ⟨fun z => (by rw [Nat.zero_testBit] at z; cases z), fun z => absurd z.1 (Nat.not_lt_zero v)⟩⟩
  | succ n ih =>
    obtain ⟨a, ha⟩ := ih
    by_cases c : q n
    · refine ⟨a ||| 2 ^ n, fun v => ?_⟩
      rw [tb_or, Bool.or_eq_true, ha v, decide_eq_true_eq]
      constructor
      · rintro (z | z)
        · exact ⟨by omega, z.2⟩
        · rw [← z]; exact ⟨by omega, c⟩
      · rintro ⟨z1, z2⟩
        by_cases d : v = n
        · right; exact d.symm
        · left; exact ⟨by omega, z2⟩
    · refine ⟨a, fun v => ?_⟩
      rw [ha v]
      constructor
      · rintro ⟨z1, z2⟩; exact ⟨by omega, z2⟩
      · rintro ⟨z1, z2⟩
        refine ⟨?_, z2⟩
        by_cases d : v = n
        · rw [d] at z2; exact absurd z2 c
        · omega
theorem sub_tb {p S : Nat} (h : p &&& S = p) {v : Nat} (hv : p.testBit v = true) : S.testBit v = true := by
  rw [← h, Nat.testBit_and, Bool.and_eq_true] at hv
  exact hv.2
theorem sub_of {p S : Nat} (h : ∀ v, p.testBit v = true → S.testBit v = true) : p &&& S = p := by
  apply Nat.eq_of_testBit_eq
  intro i
  rw [Nat.testBit_and]
  cases c : p.testBit i
  · rfl
  · rw [h i c]; rfl
/-- there is just one part -/
theorem part_one {s : Sto} {S : Nat} (hS : S < 2 ^ 8) (h0 : S.testBit 0 = true) (A : Nat) : (1 : Int) = sumN (2 ^ 8) (fun p => (if p.testBit 0 = true ∧ p &&& S = p then 1 else 0) * ind (cP s S p A)) := by
  obtain ⟨p0, hp0⟩ := mask_of (fun v => S.testBit v = true ∧ ∀ X : Nat → Prop, X 0 → (∀ e, Ein s S e = true → A.testBit e = true → (X (s 2 e).toNat ↔ X (s 3 e).toNat)) → X v) 8
  have hb : ∀ v, S.testBit v = true → v < 8 := fun v hv => by
    apply Classical.byContradiction
    intro c
    have : S < 2 ^ v := Nat.lt_of_lt_of_le hS (Nat.pow_le_pow_right (by decide) (by omega))
    rw [Nat.testBit_lt_two_pow this] at hv
    cases hv
  have hp : ∀ v, p0.testBit v = true ↔ S.testBit v = true ∧ ∀ X : Nat → Prop, X 0 → (∀ e, Ein s S e = true → A.testBit e = true → (X (s 2 e).toNat ↔ X (s 3 e).toNat)) → X v := fun v => by
    rw [hp0 v]
    exact ⟨fun z => z.2, fun z => ⟨hb v z.1, z⟩⟩
  have hc0 : p0.testBit 0 = true := (hp 0).mpr ⟨h0, fun X hX _ => hX⟩
  have hsub : p0 &&& S = p0 := sub_of (fun v hv => ((hp v).mp hv).1)
  have hcP : cP s S p0 A := by
    refine ⟨fun X hX hcl v hv => ((hp v).mp hv).2 X hX hcl, fun e he hAe => ?_⟩
    have hE := he
    unfold Ein at he
    rw [Bool.and_eq_true] at he
    have k : ∀ a b, S.testBit b = true → (∀ X : Nat → Prop, (∀ e, Ein s S e = true → A.testBit e = true → (X (s 2 e).toNat ↔ X (s 3 e).toNat)) → (X a ↔ X b)) → p0.testBit a = true → p0.testBit b = true := fun a b hSb hab ha => (hp b).mpr ⟨hSb, fun X hX hcl => (hab X hcl).mp (((hp a).mp ha).2 X hX hcl)⟩
    cases c1 : p0.testBit (s 2 e).toNat <;> cases c2 : p0.testBit (s 3 e).toNat
    · rfl
    · have := k _ _ he.1 (fun X hcl => (hcl e hE hAe).symm) c2; rw [c1] at this; cases this
    · have := k _ _ he.2 (fun X hcl => hcl e hE hAe) c1; rw [c2] at this; cases this
    · rfl
  have huq : ∀ p, p.testBit 0 = true → cP s S p A → p = p0 := fun p h1 h2 => by
    apply Nat.eq_of_testBit_eq
    intro v
    cases c1 : p.testBit v <;> cases c2 : p0.testBit v
    · rfl
    · have := hcP.1 (fun u => p.testBit u = true) h1 (fun e he hAe => by rw [h2.2 e he hAe]) v c2
      rw [c1] at this; cases this
    · have := h2.1 (fun u => p0.testBit u = true) hc0 (fun e he hAe => by rw [hcP.2 e he hAe]) v c1
      rw [c2] at this; cases this
    · rfl
  have hlt : p0 < 2 ^ 8 := lt_pow (fun v hv => hb v ((hp v).mp hv).1)
  rw [sumN_congr (g := fun p => if p = p0 then 1 else 0) (fun p _ => ?_), sumN_one 1 hlt]
  by_cases d : p = p0
  · rw [if_pos d, d, if_pos ⟨hc0, hsub⟩, ind_t hcP]; rfl
  · rw [if_neg d]
    by_cases d1 : p.testBit 0 = true ∧ p &&& S = p
    · rw [if_pos d1, ind_f (fun z => d (huq p d1.1 z))]; rfl
    · rw [if_neg d1]; simp
theorem SW_congrD {D : Nat → Bool} {g g' : Nat → Int} (m : Nat) : ∀ a, (∀ b, (∀ e, b.testBit e = true → a.testBit e = true ∨ (D e = true ∧ e < m)) → g b = g' b) → SW D g m a = SW D g' m a := by
  induction m with
  | zero => intro a h; funext i; show g a * del0 i = g' a * del0 i; rw [h a (fun e q => Or.inl q)]
  | succ m ih =>
    intro a h
    unfold SW
    have h1 := ih a (fun b hb => h b (fun e q => (hb e q).imp id (fun z => ⟨z.1, by omega⟩)))
    by_cases c : D m = true
    · rw [if_pos c, if_pos c, h1, ih (a ||| 2 ^ m) (fun b hb => h b (fun e q => by
        rcases hb e q with z | z
        · rw [tb_or, Bool.or_eq_true, decide_eq_true_eq] at z
          rcases z with z | z
          · exact Or.inl z
          · right; rw [← z]; exact ⟨c, by omega⟩
        · exact Or.inr ⟨z.1, by omega⟩))]
    · rw [if_neg c, if_neg c]; exact h1
theorem part_fac {s : Sto} {S p : Nat} (h0 : p.testBit 0 = true) (hp : p &&& S = p) : SW (Ein s S) (fun A => ind (cP s S p A)) (s 1 1).toNat 0 = shn (cntD (Ein s (S ^^^ p)) (s 1 1).toNat) (PS s p) := by
  have hsub : ∀ v, p.testBit v = true → S.testBit v = true := fun v => sub_tb hp
  have hx : ∀ v, (S ^^^ p).testBit v = (S.testBit v && !p.testBit v) := fun v => by
    rw [Nat.testBit_xor]
    cases c : p.testBit v
    · simp
    · rw [hsub v c]; rfl
  -- three sorts of edges
  have hdec : ∀ e, Ein s S e = ((Ein s p e || Ein s (S ^^^ p) e) || (Ein s S e && (p.testBit (s 2 e).toNat != p.testBit (s 3 e).toNat))) := fun e => by
    unfold Ein
    rw [hx, hx]
    have a := hsub (s 2 e).toNat
    have b := hsub (s 3 e).toNat
    cases c1 : p.testBit (s 2 e).toNat <;> cases c2 : p.testBit (s 3 e).toNat <;> cases c3 : S.testBit (s 2 e).toNat <;> cases c4 : S.testBit (s 3 e).toNat <;> simp_all
  rw [SW_congr (D' := fun e => (Ein s p e || Ein s (S ^^^ p) e) || (Ein s S e && (p.testBit (s 2 e).toNat != p.testBit (s 3 e).toNat))) (g' := fun A => ind (cP s S p A)) hdec (fun _ => rfl)]
  rw [SW_forbid (D := fun e => Ein s p e || Ein s (S ^^^ p) e) (D3 := fun e => Ein s S e && (p.testBit (s 2 e).toNat != p.testBit (s 3 e).toNat))]
  · rw [SW_free (D1 := Ein s p) (D2 := Ein s (S ^^^ p)) (b := 0)]
    · congr 1
      unfold PS
      refine SW_congrD _ 0 (fun b hb => ind_c ?_)
      have hb2 : ∀ e, b.testBit e = true → Ein s p e = true := fun e q => by
        rcases hb e q with z | z
        · rw [Nat.zero_testBit] at z; cases z
        · exact z.1
      have hpS : ∀ e, Ein s p e = true → Ein s S e = true := fun e q => by
        unfold Ein at *
        rw [Bool.and_eq_true] at *
        exact ⟨hsub _ q.1, hsub _ q.2⟩
      constructor
      · intro z X hX hcl v hv
        exact z.1 X hX (fun e _ hAe => hcl e (hb2 e hAe) hAe) v hv
      · intro z
        refine ⟨fun X hX hcl v hv => z X hX (fun e he hAe => hcl e (hpS e he) hAe) v hv, fun e he hAe => ?_⟩
        have := hb2 e hAe
        unfold Ein at this
        rw [Bool.and_eq_true] at this
        rw [this.1, this.2]
    · intro e he
      unfold Ein at *
      rw [Bool.and_eq_true] at he
      rw [hx, he.1]
      simp
    · intro a b hab
      refine ind_c ?_
      -- edges off p don't matter
      have key : ∀ a b : Nat, (∀ e, Ein s (S ^^^ p) e = false → a.testBit e = b.testBit e) → cP s S p a → cP s S p b := by
        intro a b hab z
        have hcr : ∀ e, Ein s S e = true → b.testBit e = true → p.testBit (s 2 e).toNat = p.testBit (s 3 e).toNat := fun e he hbe => by
          cases c : Ein s (S ^^^ p) e
          · exact z.2 e he (by rw [hab e c]; exact hbe)
          · unfold Ein at c
            rw [hx, hx] at c
            simp only [Bool.and_eq_true, Bool.not_eq_true'] at c
            rw [c.1.2, c.2.2]
        refine ⟨fun X hX hcl v hv => ?_, hcr⟩
        have := z.1 (fun u => p.testBit u = true → X u) (fun _ => hX) (fun e he hae => ?_) v hv hv
        · exact this
        · have h2 := z.2 e he hae
          cases c : p.testBit (s 2 e).toNat
          · rw [c] at h2
            rw [← h2]
            exact ⟨fun _ q => (by cases q), fun _ q => (by cases q)⟩
          · rw [c] at h2
            rw [← h2]
            have c3 : Ein s (S ^^^ p) e = false := by
              unfold Ein
              rw [hx, c]; simp
            have h3 := hcl e he (by rw [← hab e c3]; exact hae)
            exact ⟨fun q _ => h3.mp (q rfl), fun q _ => h3.mpr (q rfl)⟩
      exact ⟨key a b hab, key b a (fun e he => (hab e he).symm)⟩
    · intro e _; rfl
  · intro e he
    unfold Ein at *
    rw [hx, hx] at he
    revert he
    generalize p.testBit (s 2 e).toNat = q1
    generalize p.testBit (s 3 e).toNat = q2
    generalize S.testBit (s 2 e).toNat = q3
    generalize S.testBit (s 3 e).toNat = q4
    revert q1 q2 q3 q4
    decide
  · intro A e he hAe
    rw [Bool.and_eq_true, bne_iff_ne] at he
    exact ind_f (fun z => he.2 (z.2 e he.1 hAe))
/-- all sets of edges in S, by the part of node 0 -/
theorem comp_sum {s : Sto} {S : Nat} (hS : S < 2 ^ 8) (h0 : S.testBit 0 = true) (i : Nat) : shn (cntD (Ein s S) (s 1 1).toNat) del0 i = sumN (2 ^ 8) (fun p => if p.testBit 0 = true ∧ p &&& S = p then shn (cntD (Ein s (S ^^^ p)) (s 1 1).toNat) (PS s p) i else 0) := by
  rw [← SW_one (D := Ein s S) (s 1 1).toNat 0, SW_congr (D' := Ein s S) (g' := fun A => sumN (2 ^ 8) (fun p => (if p.testBit 0 = true ∧ p &&& S = p then 1 else 0) * ind (cP s S p A))) (fun _ => rfl) (part_one hS h0), SW_sum]
  refine sumN_congr (fun p _ => ?_)
  rw [SW_scale]
  by_cases c : p.testBit 0 = true ∧ p &&& S = p
  · rw [if_pos c, if_pos c, part_fac c.1 c.2]; omega
  · rw [if_neg c, if_neg c]; omega
/-- for all nodes: the connected sets of the whole graph -/
theorem PS_all {s : Sto} (h : WG s) : PS s (2 ^ (s 1 0).toNat - 1) = SW (fun _ => true) (fun A => ind (CN s A)) (s 1 1).toNat 0 := by
  have hn := h.1
  have hb : ∀ v, (2 ^ (s 1 0).toNat - 1).testBit v = decide (v < (s 1 0).toNat) := fun v => Nat.testBit_two_pow_sub_one _ v
  have hE : ∀ e, e < (s 1 1).toNat → Ein s (2 ^ (s 1 0).toNat - 1) e = true := fun e he => by
    have hF := h.2.2.2.1 e (by omega)
    unfold Ein
    rw [hb, hb]
    simp only [Bool.and_eq_true, decide_eq_true_eq]
    omega
  have hD : ∀ (g : Nat → Int) m, m ≤ (s 1 1).toNat → ∀ a, SW (Ein s (2 ^ (s 1 0).toNat - 1)) g m a = SW (fun _ => true) g m a := by
    intro g m
    induction m with
    | zero => intro _ a; rfl
    | succ m ih =>
      intro hm a
      unfold SW
      rw [if_pos (hE m (by omega)), if_pos rfl, ih (by omega), ih (by omega)]
  unfold PS
  rw [hD _ _ (Nat.le_refl _)]
  refine SW_congrD _ 0 (fun A hA => ind_c ?_)
  have hA2 : ∀ e, A.testBit e = true → e < (s 1 1).toNat := fun e q => by
    rcases hA e q with z | z
    · rw [Nat.zero_testBit] at z; cases z
    · exact z.2
  have hK := h.K
  -- from one root to another
  have mv : ∀ r r' : Nat, r < (s 1 0).toNat → r' < (s 1 0).toNat → (∀ X : Nat → Prop, X r → (∀ e, A.testBit e = true → (X (s 2 e).toNat ↔ X (s 3 e).toNat)) → ∀ v, v < (s 1 0).toNat → X v) → ∀ X : Nat → Prop, X r' → (∀ e, A.testBit e = true → (X (s 2 e).toNat ↔ X (s 3 e).toNat)) → ∀ v, v < (s 1 0).toNat → X v := by
    intro r r' hr hr' z X hX hcl v hv
    have key := z (fun u => (X u ↔ X r)) Iff.rfl (fun e he => by rw [hcl e he])
    exact (key v hv).mpr ((key r' hr').mp hX)
  constructor
  · intro z X hX hcl v hv
    refine mv 0 (s 1 2).toNat (by omega) hK (fun Y hY hYc u hu => z Y hY (fun e _ he => hYc e he) u (by rw [hb]; simpa using hu)) X hX (fun e he => hcl e (hA2 e he) he) v hv
  · intro z X hX hcl v hv
    have hv2 : v < (s 1 0).toNat := by rw [hb] at hv; simpa using hv
    exact mv (s 1 2).toNat 0 hK (by omega) (fun Y hY hYc u hu => z Y hY (fun e _ he => hYc e he) u hu) X hX (fun e he => hcl e (hE e (hA2 e he)) he) v hv2
