/-! the sum over connected sets of edges is the sum over trees by level -/
theorem zmn_sum (k K : Nat) (f : Nat → Nat → Int) : zmn k (fun i => sumN K (fun t => f t i)) = fun i => sumN K (fun t => zmn k (f t) i) := by
  induction k with
  | zero => rfl
  | succ k ih =>
    show zm (zmn k _) = _
    rw [ih]
    funext i
    show (if i = 0 then 0 else sumN K (fun t => zmn k (f t) (i - 1))) - sumN K (fun t => zmn k (f t) i) = sumN K (fun t => (if i = 0 then 0 else zmn k (f t) (i - 1)) - zmn k (f t) i)
    rw [sumN_sub]
    by_cases c : i = 0
    · simp only [if_pos c, sumN_zero]
    · simp only [if_neg c]
theorem zmn_scale (k : Nat) (c : Int) (f : Nat → Int) : zmn k (fun i => c * f i) = fun i => c * zmn k f i := by
  induction k with
  | zero => rfl
  | succ k ih =>
    show zm (zmn k _) = _
    rw [ih]
    funext i
    show (if i = 0 then 0 else c * zmn k f (i - 1)) - c * zmn k f i = c * ((if i = 0 then 0 else zmn k f (i - 1)) - zmn k f i)
    by_cases d : i = 0
    · simp only [if_pos d]; grind
    · simp only [if_neg d]; grind
/-- a set of edges connects all nodes -/
def CN (s : Sto) (A : Nat) : Prop := ∀ X : Nat → Prop, X (s 1 2).toNat → (∀ e, e < (s 1 1).toNat → A.testBit e = true → (X (s 2 e).toNat ↔ X (s 3 e).toNat)) → ∀ v, v < (s 1 0).toNat → X v
theorem SpT.cn {s : Sto} {T : Nat} (h : SpT s T) : CN s T := h.2.2
theorem CN.marked {s : Sto} (h : WG s) {A : Nat} (hA : CN s A) : ∀ v, v < (s 1 0).toNat → (wl s (decT A) (s 1 1).toNat).1.testBit v = true := by
  refine hA (fun v => (wl s (decT A) (s 1 1).toNat).1.testBit v = true) (wlk_K _ _ _ _ _ _) (fun e he hTe => ?_)
  have key : ∀ t, ∀ i, (wl s (decT A) t).2.1.testBit i = true → A.testBit i = true → (wl s (decT A) t).1.testBit (s 2 i).toNat = true ∧ (wl s (decT A) t).1.testBit (s 3 i).toNat = true := by
    intro t
    induction t with
    | zero => intro i q; have q : (0 : Nat).testBit i = true := q; rw [Nat.zero_testBit] at q; cases q
    | succ t ih =>
      intro i q hTi
      rcases wl_cases h (decT A) t with ⟨e1, -⟩ | ⟨e, v, o, he, hv, ho, hvK, hXv, hXo, hFS, hU, e1⟩
      · rw [e1] at q ⊢; exact ih i q hTi
      · rw [e1] at q ⊢
        by_cases di : i = e
        · have hd : decT A e v ((wl s (decT A) t).2.2.2 v + 1) = true := by rw [← di]; exact hTi
          rw [if_pos hd, di]
          dsimp only
          rw [tb_or, tb_or]
          rcases hFS with ⟨a, b⟩ | ⟨a, b⟩ <;> rw [a, b, toNat_n, toNat_n, hXo] <;> simp
        · have hd : decide (e = i) = false := by simpa using fun z => di z.symm
          have q2 : (wl s (decT A) t).2.1.testBit i = true := by
            split at q <;> dsimp only at q <;> rw [tb_or, hd, Bool.or_false] at q <;> exact q
          obtain ⟨a, b⟩ := ih i q2 hTi
          split <;> dsimp only
          · rw [tb_or, tb_or, a, b]; exact ⟨rfl, rfl⟩
          · exact ⟨a, b⟩
  have hb := wl_end h (decT A) e he
  cases q : (wl s (decT A) (s 1 1).toNat).2.1.testBit e
  · unfold bdr at hb
    rw [q] at hb
    simp only [Bool.not_false, Bool.and_true, bne_eq_false_iff_eq] at hb
    rw [hb]
  · obtain ⟨a, b⟩ := key _ e q hTe
    rw [a, b]
/-- of the edges looked at those of A are in what the walk finds -/
theorem wl_in {s : Sto} (h : WG s) (A t : Nat) : ∀ e, (wl s (decT A) t).2.1.testBit e = true → (wl s (decT A) t).2.2.1.testBit e = A.testBit e := by
  induction t with
  | zero => intro i q; have q : (0 : Nat).testBit i = true := q; rw [Nat.zero_testBit] at q; cases q
  | succ t ih =>
    intro i q
    have hI := wl_inv h (decT A) t
    rcases wl_cases h (decT A) t with ⟨e1, -⟩ | ⟨e, v, o, he, hv, ho, hvK, hXv, hXo, hFS, hU, e1⟩
    · rw [e1] at q ⊢; exact ih i q
    · rw [e1] at q ⊢
      have hTe : (wl s (decT A) t).2.2.1.testBit e = false := by
        cases z : (wl s (decT A) t).2.2.1.testBit e
        · rfl
        · have := hI.1 e z; rw [hU] at this; cases this
      by_cases di : i = e
      · by_cases hd : decT A e v ((wl s (decT A) t).2.2.2 v + 1) = true
        · rw [if_pos hd, di]
          dsimp only
          rw [tb_or]
          have : A.testBit e = true := hd
          rw [this]; simp
        · rw [if_neg hd, di]
          dsimp only
          rw [hTe]
          have : ¬ A.testBit e = true := hd
          simpa using this
      · have hd : decide (e = i) = false := by simpa using fun z => di z.symm
        have q2 : (wl s (decT A) t).2.1.testBit i = true := by
          split at q <;> dsimp only at q <;> rw [tb_or, hd, Bool.or_false] at q <;> exact q
        have := ih i q2
        split <;> dsimp only
        · rw [tb_or, hd, Bool.or_false]; exact this
        · exact this
/-- the edges looked at in the walk by T -/
def uOf (s : Sto) (T : Nat) : Nat := (wl s (decT T) (s 1 1).toNat).2.1
/-- the edges not looked at -/
def lvT (s : Sto) (T : Nat) : Nat := cntD (fun e => !(uOf s T).testBit e) (s 1 1).toNat
/-- if A agrees with T on what T's walk looks at, both walks are one -/
theorem wl_agree {s : Sto} (h : WG s) {T A : Nat} (hA : ∀ e, e < (s 1 1).toNat → (uOf s T).testBit e = true → A.testBit e = T.testBit e) : ∀ t, t ≤ (s 1 1).toNat → wl s (decT T) t = wl s (decT A) t := wl_alike (fun t ht q => by
  have w := wl_step (s := s) (dec := decT T) (t := t) q
  generalize fnd (bdr (s 2) (s 3) (wl s (decT T) t).1 (wl s (decT T) t).2.1) (s 1 1).toNat = e at *
  have := ((wl_more h (decT T) (t + 1) ((s 1 1).toNat - (t + 1))).1 e (by rw [w]; split <;> dsimp only <;> rw [tb_or] <;> simp)).1
  rw [show t + 1 + ((s 1 1).toNat - (t + 1)) = (s 1 1).toNat by omega] at this
  exact (hA e q this).symm)
theorem lt_pow {a M : Nat} (h : ∀ e, a.testBit e = true → e < M) : a < 2 ^ M := Nat.lt_pow_two_of_testBit a (fun i hi => by
  cases c : a.testBit i
  · rfl
  · have := h i c; omega)
/-- each connected set belongs to one tree -/
theorem cn_trees {s : Sto} (h : WG s) (A : Nat) : ind (CN s A) = sumN (2 ^ (s 1 1).toNat) (fun T => ind (SpT s T) * ind (∀ e, e < (s 1 1).toNat → (uOf s T).testBit e = true → A.testBit e = T.testBit e)) := by
  -- such a tree is the one that A's walk finds
  have uq : ∀ T, SpT s T → (∀ e, e < (s 1 1).toNat → (uOf s T).testBit e = true → A.testBit e = T.testBit e) → T = (wl s (decT A) (s 1 1).toNat).2.2.1 := fun T hT hA => by
    rw [← wl_agree h hA _ (Nat.le_refl _)]
    exact (hT.found h).symm
  by_cases c : CN s A
  · rw [ind_t c]
    have hT := wl_SpT h (decT A) (c.marked h)
    have ht := wl_tree h (decT A) (s 1 1).toNat (Nat.le_refl _)
    generalize hT0 : (wl s (decT A) (s 1 1).toNat).2.2.1 = T0 at *
    have hag : ∀ e, e < (s 1 1).toNat → (uOf s T0).testBit e = true → A.testBit e = T0.testBit e := fun e _ q => by
      unfold uOf at q
      rw [← ht] at q
      rw [← wl_in h A _ e q, hT0]
    have e1 : sumN (2 ^ (s 1 1).toNat) (fun T => ind (SpT s T) * ind (∀ e, e < (s 1 1).toNat → (uOf s T).testBit e = true → A.testBit e = T.testBit e)) = sumN (2 ^ (s 1 1).toNat) (fun T => if T = T0 then 1 else 0) := sumN_congr (fun T _ => by
      by_cases d : T = T0
      · rw [if_pos d, d, ind_t hT, ind_t hag]; rfl
      · rw [if_neg d]
        by_cases d1 : SpT s T
        · rw [ind_f (fun z => d (uq T d1 z))]; simp
        · rw [ind_f d1]; simp)
    rw [e1, sumN_one 1 (lt_pow hT.1)]
  · rw [ind_f c]
    refine (sumN_z (fun T _ => ?_)).symm
    by_cases d1 : SpT s T
    · rw [ind_t d1, ind_f (fun z => c ?_)]
      · simp
      · intro X hX hcl
        refine d1.2.2 X hX (fun e he hTe => hcl e he ?_)
        have hf := d1.found h
        have hU : (uOf s T).testBit e = true := (wl_inv h (decT T) (s 1 1).toNat).1 e (by rw [hf]; exact hTe)
        rw [z e he hU]
        exact hTe
    · rw [ind_f d1]; simp
theorem merino {s : Sto} (h : WG s) : SW (fun _ => true) (fun A => ind (CN s A)) (s 1 1).toNat 0 = zmn ((s 1 0).toNat - 1) (fun i => sumN (2 ^ (s 1 1).toNat) (fun T => ind (SpT s T) * shn (lvT s T) del0 i)) := by
  have hn := h.1
  rw [SW_congr (fun _ => rfl) (cn_trees h), zmn_sum]
  funext i
  rw [SW_sum]
  refine sumN_congr (fun T _ => ?_)
  rw [SW_scale, zmn_scale, SW_agree (s 1 1).toNat 0 (Nat.le_refl _) (fun e _ => Nat.zero_testBit e) (fun e h1 h2 => by omega)]
  by_cases c : SpT s T
  · have e1 : cntD (fun e => (uOf s T).testBit e && T.testBit e) (s 1 1).toNat = (s 1 0).toNat - 1 := by
      have hb := c.2.1
      rw [← cntD_bc] at hb
      have : cntD (fun e => (uOf s T).testBit e && T.testBit e) (s 1 1).toNat = cntD (fun e => T.testBit e) (s 1 1).toNat := cntD_congr (fun e he => by
        cases q : T.testBit e
        · rw [Bool.and_false]
        · have : (uOf s T).testBit e = true := (wl_inv h (decT T) (s 1 1).toNat).1 e (by rw [c.found h]; exact q)
          rw [this]; rfl)
      omega
    rw [e1]
    rfl
  · rw [ind_f c]; simp
