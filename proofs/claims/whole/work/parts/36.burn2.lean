/-! the two burning tests; what the rounds mean -/
theorem k_Bu_allBurn {k : Nat} (hk : ar SC k 1 8) (hkk : 39 < k) {s : Sto} (h : WG s) (hc : ∀ v, v < 8 → -1000000 ≤ s k v ∧ s k v ≤ 1000000) : K_Bu_allBurn k s (fun r s' => BurnP s (fun v => s 13 v - s k v) s' r) := by
  have hn := h.1
  refine e_Bu_allBurn hk ?_
  refine loop_inv (α := Sto) (N := (s 1 0).toNat) (fun j q => (∀ k i, k ≠ 39 → q k i = s k i) ∧ ∀ v : Nat, v < j → q 39 v = s 13 v - s k v) (fun j q => H_Bu_allBurn_2 _ k j q) (fun j q hj hI ih => ?_) (fun q hI => ?_) 0 s (by omega) ⟨fun _ _ _ => rfl, fun v hv => absurd hv (by omega)⟩
  · obtain ⟨i1, i2⟩ := hI
    have q0 : q 1 0 = s 1 0 := i1 1 0 (by decide)
    refine b_Bu_allBurn_2 hk ⟨by omega, fun c => absurd c (by omega), fun _ => ⟨_, k_Gr_degreeOf (by rw [q0]; exact hn) (by unfold R32; omega), ?_⟩⟩
    rintro r s' ⟨rfl, hr⟩
    refine ⟨by omega, by omega, fun s1 e1 => ?_⟩
    rw [nat_suc]
    refine ih s1 ⟨fun k i hk => by rw [e1, up_k hk]; exact i1 k i hk, fun v hv => ?_⟩
    rw [e1, toNat_n]
    by_cases e : v = j
    · subst e
      rw [up_eq, ← i1 13 v (by decide), ← i1 k v (by omega)]
      rw [toNat_n] at hr
      omega
    · rw [up_i e]; exact i2 v (by omega)
  · obtain ⟨i1, i2⟩ := hI
    have q0 : q 1 0 = s 1 0 := i1 1 0 (by decide)
    have q2 : q 1 2 = s 1 2 := i1 1 2 (by decide)
    have hq : WG q := h.of (fun k i h1 h2 => i1 k i (by omega))
    refine b_Bu_allBurn_2 hk ⟨by omega, fun _ => ⟨_, k_Bu_spreadFire (need := fun v => s 13 v - s k v) hq (fun v hv => ⟨i2 v (by omega), ?_⟩), ?_⟩, fun c => absurd c (by omega)⟩
    · have h1 := h.D (v := v) (by omega)
      have h2 := hc v (by omega)
      unfold R32
      omega
    · rintro r s' ⟨a1, a2, a3, a4⟩
      have hJ : ∀ v w, v < (s 1 0).toNat → w < (s 1 0).toNat → Jm q v w = Jm s v w := fun v w hv hw => i1 (5 + v) w (by omega)
      rw [q0, q2] at a3 a4
      have hR := rnd_congr (need := fun v => s 13 v - s k v) (K := (s 1 2).toNat) hJ (fun _ _ => rfl)
      have hA : AllB (Jm q) (fun v => s 13 v - s k v) (s 1 2).toNat (s 1 0).toNat ↔ AllB (Jm s) (fun v => s 13 v - s k v) (s 1 2).toNat (s 1 0).toNat := by
        unfold AllB
        constructor <;> intro z v hv <;> have := z v hv <;> rw [hR _ v hv] at * <;> exact this
      rw [hA] at a4
      refine ⟨by omega, fun k i h1 h2 => by rw [a1 k i h1]; exact i1 k i h2, fun v hv => by rw [a3 v hv]; exact hR _ v hv, a4⟩
theorem k_Bu_allBurnBySecondRule {k : Nat} (hk : ar SC k 1 8) (hkk : 39 < k) {s : Sto} (h : WG s) (hc : ∀ v, v < 8 → -1000000 ≤ s k v ∧ s k v ≤ 1000000) : K_Bu_allBurnBySecondRule k s (fun r s' => BurnP s (fun v => s k v + 1) s' r) := by
  have hn := h.1
  refine e_Bu_allBurnBySecondRule hk ?_
  refine loop_inv (α := Sto) (N := (s 1 0).toNat) (fun j q => (∀ k i, k ≠ 39 → q k i = s k i) ∧ ∀ v : Nat, v < j → q 39 v = s k v + 1) (fun j q => H_Bu_allBurnBySecondRule_2 _ k j q) (fun j q hj hI ih => ?_) (fun q hI => ?_) 0 s (by omega) ⟨fun _ _ _ => rfl, fun v hv => absurd hv (by omega)⟩
  · obtain ⟨i1, i2⟩ := hI
    have q0 : q 1 0 = s 1 0 := i1 1 0 (by decide)
    refine b_Bu_allBurnBySecondRule_2 hk ⟨by omega, fun c => absurd c (by omega), fun _ => ⟨by omega, by omega, fun s1 e1 => ?_⟩⟩
    rw [nat_suc]
    refine ih s1 ⟨fun k i hk => by rw [e1, up_k hk]; exact i1 k i hk, fun v hv => ?_⟩
    rw [e1, toNat_n]
    by_cases e : v = j
    · subst e
      rw [up_eq, i1 k v (by omega)]
    · rw [up_i e]; exact i2 v (by omega)
  · obtain ⟨i1, i2⟩ := hI
    have q0 : q 1 0 = s 1 0 := i1 1 0 (by decide)
    have q2 : q 1 2 = s 1 2 := i1 1 2 (by decide)
    have hq : WG q := h.of (fun k i h1 h2 => i1 k i (by omega))
    refine b_Bu_allBurnBySecondRule_2 hk ⟨by omega, fun _ => ⟨_, k_Bu_spreadFire (need := fun v => s k v + 1) hq (fun v hv => ⟨i2 v (by omega), ?_⟩), ?_⟩, fun c => absurd c (by omega)⟩
    · have h2 := hc v (by omega)
      unfold R32
      omega
    · rintro r s' ⟨a1, a2, a3, a4⟩
      have hJ : ∀ v w, v < (s 1 0).toNat → w < (s 1 0).toNat → Jm q v w = Jm s v w := fun v w hv hw => i1 (5 + v) w (by omega)
      rw [q0, q2] at a3 a4
      have hR := rnd_congr (need := fun v => s k v + 1) (K := (s 1 2).toNat) hJ (fun _ _ => rfl)
      have hA : AllB (Jm q) (fun v => s k v + 1) (s 1 2).toNat (s 1 0).toNat ↔ AllB (Jm s) (fun v => s k v + 1) (s 1 2).toNat (s 1 0).toNat := by
        unfold AllB
        constructor <;> intro z v hv <;> have := z v hv <;> rw [hR _ v hv] at * <;> exact this
      rw [hA] at a4
      refine ⟨by omega, fun k i h1 h2 => by rw [a1 k i h1]; exact i1 k i h2, fun v hv => by rw [a3 v hv]; exact hR _ v hv, a4⟩
theorem k_Bu_hasBurnt {v : Nat} {s : Sto} (h : 2 ≤ s 1 0 ∧ s 1 0 ≤ 8) (hv : (v : Int) < s 1 0) (hr : R32 (s 38 v)) : K_Bu_hasBurnt v s (fun r s' => s' = s ∧ (r = 1 ∧ s 38 v ≠ -1 ∨ r = 0 ∧ s 38 v = -1)) := by
  have hx : R32 (v : Int) := by unfold R32; omega
  unfold R32 at hr
  refine e_Bu_hasBurnt ⟨_, k_Gr_hasNode h hx, ?_⟩
  rintro r s' ⟨rfl, hr9⟩
  refine ⟨by omega, fun c => absurd hr9 (by omega), fun _ => ⟨by omega, ?_⟩⟩
  rw [toNat_n]
  exact ⟨hr, fun c => ⟨rfl, Or.inr ⟨rfl, c⟩⟩, fun c => ⟨rfl, Or.inl ⟨rfl, c⟩⟩⟩
section R
variable {J : Nat → Nat → Int} {need : Nat → Int} {K N : Nat}
/-- what burns at the next round -/
def nob (J : Nat → Nat → Int) (need : Nat → Int) (K N t : Nat) : Prop := ∀ v, v < N → rnd J need K N t v = -1 → sumN N (fun w => if rnd J need K N t w = -1 then 0 else J v w) < need v
theorem nob_same {t : Nat} (h : nob J need K N t) : ∀ v, v < N → rnd J need K N (t + 1) v = rnd J need K N t v := by
  intro v hv
  conv => lhs; unfold rnd
  exact if_neg (fun z => by have := h v hv z.1; omega)
theorem nob_next {t : Nat} (h : nob J need K N t) : nob J need K N (t + 1) := by
  intro v hv hb
  rw [nob_same h v hv] at hb
  rw [sumN_congr (g := fun w => if rnd J need K N t w = -1 then 0 else J v w) (fun w hw => by rw [nob_same h w hw])]
  exact h v hv hb
theorem nob_le {t : Nat} (h : nob J need K N t) : ∀ d, nob J need K N (t + d)
  | 0 => h
  | d + 1 => nob_next (nob_le h d)
theorem cntB_suc {t : Nat} (h : ¬ nob J need K N t) : cntB J need K N t + 1 ≤ cntB J need K N (t + 1) := by
  obtain ⟨v, hv⟩ := Classical.not_forall.mp h
  simp only [Classical.not_imp] at hv
  obtain ⟨hv, hb, hs⟩ := hv
  have h1 := sumN_up (n := N) (f := fun u => if rnd J need K N t u = -1 then (0 : Int) else 1) (g := fun u => if u = v then 1 else if rnd J need K N t u = -1 then 0 else 1) hv (fun i _ hi => if_neg hi)
  have h2 := sumN_le (n := N) (f := fun u => if u = v then (1 : Int) else if rnd J need K N t u = -1 then 0 else 1) (g := fun u => if rnd J need K N (t + 1) u = -1 then 0 else 1) (fun u hu => by
    by_cases e : u = v
    · subst e
      have : rnd J need K N (t + 1) u = (t : Int) + 1 := by
        conv => lhs; unfold rnd
        exact if_pos ⟨hb, by omega⟩
      rw [if_pos rfl, if_neg (by omega)]; decide
    · rw [if_neg e]
      by_cases c : rnd J need K N t u = -1
      · rw [if_pos c]; split <;> decide
      · rw [if_neg c, rnd_keep c, if_neg c]; decide)
  rw [if_pos rfl, if_pos hb] at h1
  unfold cntB
  omega
theorem cntB_bd (t : Nat) : cntB J need K N t ≤ N := by
  have := sumN_le (n := N) (f := fun u => if rnd J need K N t u = -1 then (0 : Int) else 1) (g := fun _ => 1) (fun u _ => by split <;> decide)
  rw [sumN_const] at this
  unfold cntB
  omega
/-- after N rounds nothing burns any more -/
theorem rnd_fix (hK : K < N) : nob J need K N N := by
  apply Classical.byContradiction
  intro h
  have key : ∀ t, t ≤ N → (t : Int) + 1 ≤ cntB J need K N t := by
    intro t
    induction t with
    | zero =>
      intro _
      have := sumN_ge (n := N) (f := fun u => if rnd J need K N 0 u = -1 then (0 : Int) else 1) (fun u _ => by split <;> decide) hK
      have e : rnd J need K N 0 K = 0 := if_pos rfl
      rw [if_neg (by omega)] at this
      exact this
    | succ t ih =>
      intro ht
      have h1 := ih (by omega)
      have h2 : ¬ nob J need K N t := fun z => h (by
        have := nob_le z (N - t)
        rw [show t + (N - t) = N by omega] at this
        exact this)
      have := cntB_suc h2
      omega
  have h1 := key N (Nat.le_refl N)
  have h2 := cntB_bd (J := J) (need := need) (K := K) (N := N) N
  omega
theorem rnd_at {t : Nat} (ht : t ≤ N) {w : Nat} : rnd J need K N t w = -1 ↔ rnd J need K N N w = -1 ∨ (t : Int) < rnd J need K N N w := by
  have hd := rnd_keeps (J := J) (need := need) (K := K) (N := N) (t := t) (v := w)
  constructor
  · intro h
    by_cases c : rnd J need K N N w = -1
    · exact Or.inl c
    · refine Or.inr ?_
      have key : ∀ d, rnd J need K N (t + d) w = -1 ∨ (t : Int) < rnd J need K N (t + d) w := by
        intro d
        induction d with
        | zero => exact Or.inl h
        | succ d ih =>
          rw [← Nat.add_assoc]
          conv => lhs; lhs; unfold rnd
          conv => rhs; rhs; unfold rnd
          split
          · right; omega
          · exact ih
      have := key (N - t)
      rw [show t + (N - t) = N by omega] at this
      exact this.resolve_left c
  · intro h
    apply Classical.byContradiction
    intro c
    have e := hd c (N - t)
    rw [show t + (N - t) = N by omega] at e
    have hb := rnd_bd J need K N t w
    rcases h with h | h <;> omega
/-- a set without the sink, of which no node has enough edges out of it, doesn't burn -/
theorem rnd_unb {U : Nat → Prop} (hJ : ∀ v w, v < N → w < N → 0 ≤ J v w) (hK : ¬ U K) (hU : ∀ v, v < N → U v → ∀ f : Nat → Int, (∀ w, w < N → f w = 0 ∨ ¬ U w ∧ f w = J v w) → sumN N f < need v) : ∀ t v, v < N → U v → rnd J need K N t v = -1 := by
  intro t
  induction t with
  | zero =>
    intro v hv hUv
    unfold rnd
    refine if_neg (fun e => ?_)
    have e : v = K := e
    rw [e] at hUv
    exact hK hUv
  | succ t ih =>
    intro v hv hUv
    unfold rnd
    rw [if_neg]
    · exact ih v hv hUv
    · rintro ⟨-, h2⟩
      have := hU v hv hUv (fun w => if rnd J need K N t w = -1 then 0 else J v w) (fun w hw => by
        by_cases c : rnd J need K N t w = -1
        · exact Or.inl (if_pos c)
        · exact Or.inr ⟨fun z => c (ih w hw z), if_neg c⟩)
      omega
/-- the round at which a node burns -/
theorem rnd_when {v : Nat} (hvK : v ≠ K) (h : rnd J need K N N v ≠ -1) : ∃ t, t < N ∧ rnd J need K N N v = (t : Int) + 1 ∧ rnd J need K N t v = -1 ∧ need v ≤ sumN N (fun w => if rnd J need K N t w = -1 then 0 else J v w) := by
  have key : ∀ m, m ≤ N → rnd J need K N m v ≠ -1 → ∃ t, t < m ∧ rnd J need K N m v = (t : Int) + 1 ∧ rnd J need K N t v = -1 ∧ need v ≤ sumN N (fun w => if rnd J need K N t w = -1 then 0 else J v w) := by
    intro m
    induction m with
    | zero => intro _ h; exact absurd (show rnd J need K N 0 v = -1 from if_neg hvK) h
    | succ m ih =>
      intro hm h
      by_cases c : rnd J need K N m v = -1 ∧ need v ≤ sumN N (fun w => if rnd J need K N m w = -1 then 0 else J v w)
      · refine ⟨m, by omega, ?_, c.1, c.2⟩
        conv => lhs; unfold rnd
        exact if_pos c
      · have e : rnd J need K N (m + 1) v = rnd J need K N m v := by
          conv => lhs; unfold rnd
          exact if_neg c
        rw [e] at h ⊢
        obtain ⟨t, h1, h2⟩ := ih (by omega) h
        exact ⟨t, by omega, h2⟩
  exact key N (Nat.le_refl N) h
end R
