/-! the reference's graph: what changed, begin and join leave behind -/
/-- joins counted over the first edges -/
def mJ (s : Sto) : Nat → Nat → Int
  | 0, _ => 0
  | e + 1, x => mJ s e x + (if Int.toNat (8 * s 1 e + s 2 e) = x then 1 else 0) + (if Int.toNat (8 * s 2 e + s 1 e) = x then 1 else 0)
/-- degrees counted over the first edges -/
def mD (s : Sto) : Nat → Nat → Int
  | 0, _ => 0
  | e + 1, v => mD s e v + (if Int.toNat (s 1 e) = v then 1 else 0) + (if Int.toNat (s 2 e) = v then 1 else 0)
theorem mJ_congr {s t : Sto} : ∀ m, (∀ e, e < m → s 1 e = t 1 e ∧ s 2 e = t 2 e) → ∀ x, mJ s m x = mJ t m x
  | 0, _, _ => rfl
  | m + 1, h, x => by
    have h1 := h m (Nat.lt_succ_self m)
    have h2 := mJ_congr m (fun e he => h e (by omega)) x
    simp only [mJ, h1.1, h1.2, h2]
theorem mD_congr {s t : Sto} : ∀ m, (∀ e, e < m → s 1 e = t 1 e ∧ s 2 e = t 2 e) → ∀ x, mD s m x = mD t m x
  | 0, _, _ => rfl
  | m + 1, h, x => by
    have h1 := h m (Nat.lt_succ_self m)
    have h2 := mD_congr m (fun e he => h e (by omega)) x
    simp only [mD, h1.1, h1.2, h2]
/-- what changed leaves of s: s' -/
def MoCh (s s' : Sto) : Prop :=
  (∀ k i, k ≠ 3 → k ≠ 4 → k ≠ 9 → ¬ (k = 0 ∧ (i = 11 ∨ i = 21)) → s' k i = s k i) ∧ (∀ x, x < 64 → s' 3 x = mJ s (s 0 1).toNat x) ∧ (∀ v, v < 8 → s' 4 v = mD s (s 0 1).toNat v) ∧ s' 0 11 = 0 ∧ s' 0 21 = 0 ∧ (∀ i, i < 3 → s' 9 i = 0)
/-- the edges of the reference are edges between nodes 0 to 7 -/
def MoEd (s : Sto) : Prop := 0 ≤ s 0 1 ∧ s 0 1 ≤ 20 ∧ ∀ e, e < (s 0 1).toNat → 0 ≤ s 1 e ∧ s 1 e < 8 ∧ 0 ≤ s 2 e ∧ s 2 e < 8
theorem nat_suc (j : Nat) : ((j : Int) + 1) = ((j + 1 : Nat) : Int) := by omega
theorem mo_ch_145 {Q : Sto → Prop} {s0 : Sto} (hQ : ∀ s', (∀ k i, k ≠ 9 → ¬ (k = 0 ∧ i = 21) → s' k i = s0 k i) → s' 0 21 = 0 → (∀ i, i < 3 → s' 9 i = 0) → Q s') :
    ∀ (n j : Nat) (s : Sto), j + n = 3 → (∀ k i, k ≠ 9 → s k i = s0 k i) → (∀ i, i < j → s 9 i = 0) → H_Mo_changed_145 Q j s := by
  intro n
  induction n with
  | zero =>
    intro j s hj h1 h2
    refine b_Mo_changed_145 ⟨by omega, fun _ s' e => ?_, fun h => absurd h (by omega)⟩
    subst e
    refine hQ _ (fun k i hk hn => ?_) (up_eq _ _ _ _) (fun i hi => ?_)
    · rw [up_ne hn]; exact h1 k i hk
    · rw [up_k (by decide)]; exact h2 i (by omega)
  | succ n ih =>
    intro j s hj h1 h2
    refine b_Mo_changed_145 ⟨by omega, fun h => absurd h (by omega), fun _ => ⟨by omega, fun s' e => ?_⟩⟩
    subst e
    rw [nat_suc]
    refine ih (j + 1) _ (by omega) (fun k i hk => ?_) (fun i hi => ?_)
    · rw [up_k hk]; exact h1 k i hk
    · by_cases c : i = j
      · subst c; rw [show Int.toNat (i : Int) = i from rfl]; exact up_eq _ _ _ _
      · rw [up_i (by simpa using c)]; exact h2 i (by omega)
theorem mo_ch_44 {Q : Sto → Prop} {s0 : Sto} (hE : MoEd s0) (hQ : ∀ s', (∀ k i, k ≠ 3 → k ≠ 4 → ¬ (k = 0 ∧ i = 11) → s' k i = s0 k i) → s' 0 11 = 0 → (∀ x, x < 64 → s' 3 x = mJ s0 (s0 0 1).toNat x) → (∀ v, v < 8 → s' 4 v = mD s0 (s0 0 1).toNat v) → H_Mo_changed_145 Q 0 s') :
    ∀ (n j : Nat) (s : Sto), j + n = (s0 0 1).toNat → (∀ k i, k ≠ 3 → k ≠ 4 → s k i = s0 k i) → (∀ x, x < 64 → s 3 x = mJ s0 j x) → (∀ v, v < 8 → s 4 v = mD s0 j v) → H_Mo_changed_44 Q j s := by
  obtain ⟨hm0, hm1, hE⟩ := hE
  intro n
  induction n with
  | zero =>
    intro j s hj h1 h2 h3
    have e01 : s 0 1 = s0 0 1 := h1 0 1 (by decide) (by decide)
    refine b_Mo_changed_44 ⟨by omega, fun _ s' e => ?_, fun h => absurd h (by omega)⟩
    subst e
    have hj' : j = (s0 0 1).toNat := by omega
    subst hj'
    refine hQ _ (fun k i hk hk4 hn => ?_) (up_eq _ _ _ _) (fun x hx => ?_) (fun v hv => ?_)
    · rw [up_ne hn]; exact h1 k i hk hk4
    · rw [up_k (by decide)]; exact h2 x hx
    · rw [up_k (by decide)]; exact h3 v hv
  | succ n ih =>
    intro j s hj h1 h2 h3
    have e01 : s 0 1 = s0 0 1 := h1 0 1 (by decide) (by decide)
    obtain ⟨a1, a2, a3, a4⟩ := hE j (by omega)
    have f1 : s 1 j = s0 1 j := h1 1 j (by decide) (by decide)
    have f2 : s 2 j = s0 2 j := h1 2 j (by decide) (by decide)
    have ej : Int.toNat (j : Int) = j := rfl
    refine b_Mo_changed_44 ⟨by omega, fun h => absurd h (by omega), fun _ => ?_⟩
    rw [ej, f1, f2]
    generalize hu : s0 1 j = u at a1 a2
    generalize hw : s0 2 j = w at a3 a4
    refine ⟨by omega, by omega, by omega, by omega, fun s1 e1 => ?_⟩
    have g1 : s1 1 j = u := by rw [e1, up_k (by decide), f1, hu]
    have g2 : s1 2 j = w := by rw [e1, up_k (by decide), f2, hw]
    rw [g1, g2]
    refine ⟨by omega, by omega, by omega, by omega, fun s2 e2 => ?_⟩
    have g1 : s2 1 j = u := by rw [e2, up_k (by decide), g1]
    have g2 : s2 2 j = w := by rw [e2, up_k (by decide), g2]
    rw [g1]
    refine ⟨by omega, by omega, by omega, fun s3 e3 => ?_⟩
    have g2 : s3 2 j = w := by rw [e3, up_k (by decide), g2]
    rw [g2]
    refine ⟨by omega, by omega, by omega, fun s4 e4 => ?_⟩
    rw [nat_suc]
    have k3 : ∀ x, s4 3 x = s2 3 x := fun x => by rw [e4, up_k (by decide), e3, up_k (by decide)]
    have k4 : ∀ x, s2 4 x = s 4 x := fun x => by rw [e2, up_k (by decide), e1, up_k (by decide)]
    refine ih (j + 1) s4 (by omega) (fun k i hk hk4 => ?_) (fun x hx => ?_) (fun v hv => ?_)
    · rw [e4, up_k hk4, e3, up_k hk4, e2, up_k hk, e1, up_k hk]; exact h1 k i hk hk4
    · rw [k3]
      show _ = mJ s0 j x + (if Int.toNat (8 * s0 1 j + s0 2 j) = x then 1 else 0) + (if Int.toNat (8 * s0 2 j + s0 1 j) = x then 1 else 0)
      rw [hu, hw, ← h2 x hx, e2]
      unfold up
      rw [e1]
      unfold up
      by_cases c1 : Int.toNat (8 * u + w) = x <;> by_cases c2 : Int.toNat (8 * w + u) = x <;> simp [c1, c2] <;> omega
    · show _ = mD s0 j v + (if Int.toNat (s0 1 j) = v then 1 else 0) + (if Int.toNat (s0 2 j) = v then 1 else 0)
      rw [hu, hw, ← h3 v hv, ← k4, e4]
      unfold up
      rw [e3]
      unfold up
      by_cases c1 : Int.toNat u = v <;> by_cases c2 : Int.toNat w = v <;> simp [c1, c2] <;> omega
theorem mo_ch_23 {Q : Sto → Prop} {s0 : Sto} (hQ : ∀ s', (∀ k i, k ≠ 4 → s' k i = s0 k i) → (∀ i, i < 8 → s' 4 i = 0) → H_Mo_changed_44 Q 0 s') :
    ∀ (n j : Nat) (s : Sto), j + n = 8 → (∀ k i, k ≠ 4 → s k i = s0 k i) → (∀ i, i < j → s 4 i = 0) → H_Mo_changed_23 Q j s := by
  intro n
  induction n with
  | zero =>
    intro j s hj h1 h2
    exact b_Mo_changed_23 ⟨by omega, fun _ => hQ s h1 (fun i hi => h2 i (by omega)), fun h => absurd h (by omega)⟩
  | succ n ih =>
    intro j s hj h1 h2
    refine b_Mo_changed_23 ⟨by omega, fun h => absurd h (by omega), fun _ => ⟨by omega, fun s' e => ?_⟩⟩
    subst e
    rw [nat_suc]
    refine ih (j + 1) _ (by omega) (fun k i hk => ?_) (fun i hi => ?_)
    · rw [up_k hk]; exact h1 k i hk
    · by_cases c : i = j
      · subst c; rw [show Int.toNat (i : Int) = i from rfl]; exact up_eq _ _ _ _
      · rw [up_i (by simpa using c)]; exact h2 i (by omega)
theorem mo_ch_2 {Q : Sto → Prop} {s0 : Sto} (hQ : ∀ s', (∀ k i, k ≠ 3 → s' k i = s0 k i) → (∀ i, i < 64 → s' 3 i = 0) → H_Mo_changed_23 Q 0 s') :
    ∀ (n j : Nat) (s : Sto), j + n = 64 → (∀ k i, k ≠ 3 → s k i = s0 k i) → (∀ i, i < j → s 3 i = 0) → H_Mo_changed_2 Q j s := by
  intro n
  induction n with
  | zero =>
    intro j s hj h1 h2
    exact b_Mo_changed_2 ⟨by omega, fun _ => hQ s h1 (fun i hi => h2 i (by omega)), fun h => absurd h (by omega)⟩
  | succ n ih =>
    intro j s hj h1 h2
    refine b_Mo_changed_2 ⟨by omega, fun h => absurd h (by omega), fun _ => ⟨by omega, fun s' e => ?_⟩⟩
    subst e
    rw [nat_suc]
    refine ih (j + 1) _ (by omega) (fun k i hk => ?_) (fun i hi => ?_)
    · rw [up_k hk]; exact h1 k i hk
    · by_cases c : i = j
      · subst c; rw [show Int.toNat (i : Int) = i from rfl]; exact up_eq _ _ _ _
      · rw [up_i (by simpa using c)]; exact h2 i (by omega)
theorem k_Mo_changed {s : Sto} {Q : Sto → Prop} (hE : MoEd s) (hQ : ∀ s', MoCh s s' → Q s') : K_Mo_changed s Q := by
  refine e_Mo_changed ?_
  refine mo_ch_2 (s0 := s) (fun s1 a1 a2 => ?_) 64 0 s rfl (fun _ _ _ => rfl) (fun i h => absurd h (by omega))
  refine mo_ch_23 (s0 := s1) (fun s2 b1 b2 => ?_) 8 0 s1 rfl (fun _ _ _ => rfl) (fun i h => absurd h (by omega))
  have hs2 : ∀ k i, k ≠ 3 → k ≠ 4 → s2 k i = s k i := fun k i h3 h4 => by rw [b1 k i h4, a1 k i h3]
  have h01 : s2 0 1 = s 0 1 := hs2 0 1 (by decide) (by decide)
  have hc : ∀ e, e < (s 0 1).toNat → s2 1 e = s 1 e ∧ s2 2 e = s 2 e := fun e _ => ⟨hs2 1 e (by decide) (by decide), hs2 2 e (by decide) (by decide)⟩
  have hE2 : MoEd s2 := by
    refine ⟨by rw [h01]; exact hE.1, by rw [h01]; exact hE.2.1, fun e he => ?_⟩
    rw [h01] at he
    rw [(hc e he).1, (hc e he).2]
    exact hE.2.2 e he
  refine mo_ch_44 (s0 := s2) hE2 (fun s3 c1 c2 c3 c4 => ?_) (s2 0 1).toNat 0 s2 (by omega) (fun _ _ _ _ => rfl) (fun x hx => by rw [b1 3 x (by decide)]; exact a2 x hx) (fun v hv => b2 v hv)
  refine mo_ch_145 (s0 := s3) (fun s4 d1 d2 d3 => hQ s4 ⟨fun k i h3 h4 h9 hn => ?_, fun x hx => ?_, fun v hv => ?_, ?_, d2, d3⟩) 3 0 s3 rfl (fun _ _ _ => rfl) (fun i h => absurd h (by omega))
  · rw [d1 k i h9 (fun q => hn ⟨q.1, Or.inr q.2⟩), c1 k i h3 h4 (fun q => hn ⟨q.1, Or.inl q.2⟩)]
    exact hs2 k i h3 h4
  · rw [d1 3 x (by decide) (by simp), c3 x hx, h01]
    exact mJ_congr _ hc x
  · rw [d1 4 v (by decide) (by simp), c4 v hv, h01]
    exact mD_congr _ hc v
  · rw [d1 0 11 (by decide) (by simp)]
    exact c2
/-- what begin leaves of s: s' -/
def MoBe (x1 : Int) (s s' : Sto) : Prop :=
  (∀ k i, k ≠ 3 → k ≠ 4 → k ≠ 5 → k ≠ 9 → ¬ (k = 0 ∧ (i = 0 ∨ i = 1 ∨ i = 2 ∨ i = 11 ∨ i = 21)) → s' k i = s k i) ∧ s' 0 0 = x1 ∧ s' 0 1 = 0 ∧ s' 0 2 = 0 ∧ (∀ x, x < 64 → s' 3 x = 0) ∧ (∀ v, v < 8 → s' 4 v = 0) ∧ (∀ v, v < 8 → s' 5 v = 0) ∧ s' 0 11 = 0 ∧ s' 0 21 = 0 ∧ (∀ i, i < 3 → s' 9 i = 0)
theorem mo_be_17 {Q : Sto → Prop} {s0 : Sto} (hQ : ∀ s', (∀ k i, k ≠ 5 → s' k i = s0 k i) → (∀ i, i < 8 → s' 5 i = 0) → K_Mo_changed s' Q) :
    ∀ (n j : Nat) (s : Sto), j + n = 8 → (∀ k i, k ≠ 5 → s k i = s0 k i) → (∀ i, i < j → s 5 i = 0) → H_Mo_begin_17 Q j s := by
  intro n
  induction n with
  | zero =>
    intro j s hj h1 h2
    exact b_Mo_begin_17 ⟨by omega, fun _ => ⟨Q, hQ s h1 (fun i hi => h2 i (by omega)), fun _ h => h⟩, fun h => absurd h (by omega)⟩
  | succ n ih =>
    intro j s hj h1 h2
    refine b_Mo_begin_17 ⟨by omega, fun h => absurd h (by omega), fun _ => ⟨by omega, fun s' e => ?_⟩⟩
    subst e
    rw [nat_suc]
    refine ih (j + 1) _ (by omega) (fun k i hk => ?_) (fun i hi => ?_)
    · rw [up_k hk]; exact h1 k i hk
    · by_cases c : i = j
      · subst c; rw [show Int.toNat (i : Int) = i from rfl]; exact up_eq _ _ _ _
      · rw [up_i (by simpa using c)]; exact h2 i (by omega)
theorem k_Mo_begin {x1 : Int} {s : Sto} {Q : Sto → Prop} (hQ : ∀ s', MoBe x1 s s' → Q s') : K_Mo_begin x1 s Q := by
  refine e_Mo_begin (fun s1 e1 s2 e2 s3 e3 => ?_)
  have hs3 : ∀ k i, ¬ (k = 0 ∧ (i = 0 ∨ i = 1 ∨ i = 2)) → s3 k i = s k i := fun k i h => by
    rw [e3, up_ne (fun q => h ⟨q.1, Or.inr (Or.inr q.2)⟩), e2, up_ne (fun q => h ⟨q.1, Or.inr (Or.inl q.2)⟩), e1, up_ne (fun q => h ⟨q.1, Or.inl q.2⟩)]
  have h0 : s3 0 0 = x1 := by rw [e3, up_i (by decide), e2, up_i (by decide), e1]; exact up_eq _ _ _ _
  have h1 : s3 0 1 = 0 := by rw [e3, up_i (by decide), e2]; exact up_eq _ _ _ _
  have h2 : s3 0 2 = 0 := by rw [e3]; exact up_eq _ _ _ _
  refine mo_be_17 (s0 := s3) (fun s4 a1 a2 => ?_) 8 0 s3 rfl (fun _ _ _ => rfl) (fun i h => absurd h (by omega))
  have g1 : s4 0 1 = 0 := (a1 0 1 (by decide)).trans h1
  refine k_Mo_changed ⟨by omega, by omega, fun e he => absurd he (by rw [g1]; exact Nat.not_lt_zero e)⟩ (fun s5 hc => hQ s5 ?_)
  obtain ⟨c1, c2, c3, c4, c5, c6⟩ := hc
  rw [g1] at c2 c3
  refine ⟨fun k i h3 h4 h5 h9 hn => ?_, ?_, ?_, ?_, c2, c3, fun v hv => ?_, c4, c5, c6⟩
  · rw [c1 k i h3 h4 h9 (fun q => hn ⟨q.1, by omega⟩), a1 k i h5]
    exact hs3 k i (fun q => hn ⟨q.1, by omega⟩)
  · rw [c1 0 0 (by decide) (by decide) (by decide) (by omega), a1 0 0 (by decide)]; exact h0
  · rw [c1 0 1 (by decide) (by decide) (by decide) (by omega)]; exact g1
  · rw [c1 0 2 (by decide) (by decide) (by decide) (by omega), a1 0 2 (by decide)]; exact h2
  · rw [c1 5 v (by decide) (by decide) (by decide) (by omega)]; exact a2 v hv
/-- the store with the edge at the end -/
def moAdd (x1 x2 : Int) (s : Sto) : Sto := up (up (up s 1 (s 0 1).toNat x1) 2 (s 0 1).toNat x2) 0 1 (s 0 1 + 1)
theorem k_Mo_join {x1 x2 : Int} {s : Sto} {Q : Sto → Prop} (hE : MoEd s) (hm : s 0 1 < 20) (h1 : 0 ≤ x1 ∧ x1 < 8) (h2 : 0 ≤ x2 ∧ x2 < 8) (hQ : ∀ s', MoCh (moAdd x1 x2 s) s' → Q s') : K_Mo_join x1 x2 s Q := by
  obtain ⟨b1, b2, b3⟩ := hE
  refine e_Mo_join ⟨by omega, fun s1 e1 => ?_⟩
  have g1 : s1 0 1 = s 0 1 := by rw [e1, up_k (by decide)]
  rw [g1]
  refine ⟨by omega, fun s2 e2 s3 e3 => ?_⟩
  have g2 : s2 0 1 = s 0 1 := by rw [e2, up_k (by decide), g1]
  have hs : s3 = moAdd x1 x2 s := by rw [e3, g2, e2, e1]; rfl
  subst hs
  refine ⟨Q, k_Mo_changed ?_ hQ, fun _ h => h⟩
  have g3 : moAdd x1 x2 s 0 1 = s 0 1 + 1 := up_eq _ _ _ _
  refine ⟨by omega, by omega, fun e he => ?_⟩
  have p1 : moAdd x1 x2 s 1 e = if e = (s 0 1).toNat then x1 else s 1 e := by
    unfold moAdd
    rw [up_k (by decide), up_k (by decide)]
    unfold up
    by_cases c : e = (s 0 1).toNat <;> simp [c]
  have p2 : moAdd x1 x2 s 2 e = if e = (s 0 1).toNat then x2 else s 2 e := by
    unfold moAdd
    rw [up_k (by decide)]
    unfold up
    by_cases c : e = (s 0 1).toNat <;> simp [c]
  rw [p1, p2]
  by_cases c : e = (s 0 1).toNat
  · rw [if_pos c, if_pos c]; omega
  · rw [if_neg c, if_neg c]
    exact b3 e (by omega)
