/-! burning, round by round -/
def rnd (J : Nat → Nat → Int) (need : Nat → Int) (K N : Nat) : Nat → Nat → Int
  | 0 => fun v => if v = K then 0 else -1
  | t + 1 => fun v => if rnd J need K N t v = -1 ∧ need v ≤ sumN N (fun w => if rnd J need K N t w = -1 then 0 else J v w) then (t : Int) + 1 else rnd J need K N t v
theorem rnd_bd (J : Nat → Nat → Int) (need : Nat → Int) (K N : Nat) (t v : Nat) : -1 ≤ rnd J need K N t v ∧ rnd J need K N t v ≤ t := by
  induction t with
  | zero => unfold rnd; split <;> omega
  | succ t ih => unfold rnd; split <;> omega
theorem rnd_keep {J : Nat → Nat → Int} {need : Nat → Int} {K N t v : Nat} (h : rnd J need K N t v ≠ -1) : rnd J need K N (t + 1) v = rnd J need K N t v := by
  conv => lhs; unfold rnd
  exact if_neg (fun c => h c.1)
theorem rnd_keeps {J : Nat → Nat → Int} {need : Nat → Int} {K N t v : Nat} (h : rnd J need K N t v ≠ -1) : ∀ d, rnd J need K N (t + d) v = rnd J need K N t v
  | 0 => rfl
  | d + 1 => by
    have := rnd_keeps h d
    rw [← Nat.add_assoc, rnd_keep (by rw [this]; exact h), this]
theorem rnd_congr {J J' : Nat → Nat → Int} {need need' : Nat → Int} {K N : Nat} (hJ : ∀ v w, v < N → w < N → J v w = J' v w) (hn : ∀ v, v < N → need v = need' v) : ∀ t v, v < N → rnd J need K N t v = rnd J' need' K N t v := by
  intro t
  induction t with
  | zero => intro v hv; rfl
  | succ t ih =>
    intro v hv
    unfold rnd
    rw [ih v hv, hn v hv, sumN_congr (g := fun w => if rnd J' need' K N t w = -1 then 0 else J' v w) (fun w hw => by rw [ih w hw, hJ v w hv hw])]
def cntB (J : Nat → Nat → Int) (need : Nat → Int) (K N t : Nat) : Int := sumN N (fun v => if rnd J need K N t v = -1 then 0 else 1)
abbrev Jm (s : Sto) : Nat → Nat → Int := fun u v => s (5 + u) v
theorem k_Bu_edgesToBurnt {v : Nat} {x : Int} {s : Sto} (h : WG s) (hv : v < 8) (hx : R32 x) (hr : ∀ w : Nat, (w : Int) < s 1 0 → R32 (s 38 w)) : K_Bu_edgesToBurnt v x s (fun r s' => s' = s ∧ r = sumN (s 1 0).toNat (fun w => if s 38 w ≠ -1 ∧ s 38 w < x then s (5 + v) w else 0)) := by
  have hn := h.1
  unfold R32 at *
  refine e_Bu_edgesToBurnt ?_
  refine loop_inv (α := Int × Sto) (N := (s 1 0).toNat) (fun j a => a.2 = s ∧ a.1 = sumN j (fun w => if s 38 w ≠ -1 ∧ s 38 w < x then s (5 + v) w else 0)) (fun j a => H_Bu_edgesToBurnt_5 _ v x a.1 j a.2) (fun j a hj hI ih => ?_) (fun a hI => ?_) 0 (0, s) (by omega) ⟨rfl, rfl⟩
  · obtain ⟨q, q'⟩ := a
    dsimp only at hI ⊢
    obtain ⟨h1, h2⟩ := hI
    have h1 : q' = s := h1
    subst h1
    have h2 : q = _ := h2
    have hj2 := hr j (by omega)
    refine b_Bu_edgesToBurnt_5 ⟨by omega, fun c => absurd c (by omega), fun _ => ⟨by omega, ?_⟩⟩
    rw [toNat_n, toNat_n, nat_suc]
    refine ⟨hj2, fun c => ih (_, q') ⟨rfl, ?_⟩, fun c => ⟨by omega, by omega, fun d => ih (_, q') ⟨rfl, ?_⟩, fun d => ⟨by omega, by omega, ih (_, q') ⟨rfl, ?_⟩⟩⟩⟩
    · simp only [sumN]
      rw [h2, if_neg (fun z => z.1 c)]; omega
    · simp only [sumN]
      rw [h2, if_neg (fun z => by omega)]; omega
    · simp only [sumN]
      rw [h2, if_pos ⟨c, d⟩]
  · obtain ⟨q, q'⟩ := a
    dsimp only at hI ⊢
    obtain ⟨h1, h2⟩ := hI
    have h1 : q' = s := h1
    subst h1
    exact b_Bu_edgesToBurnt_5 ⟨by omega, fun _ => ⟨rfl, h2⟩, fun c => absurd c (by omega)⟩
theorem sumJ_bd {s : Sto} (h : WG s) {v : Nat} (hv : v < 8) (p : Nat → Prop) [DecidablePred p] : 0 ≤ sumN (s 1 0).toNat (fun w => if p w then s (5 + v) w else 0) ∧ sumN (s 1 0).toNat (fun w => if p w then s (5 + v) w else 0) ≤ 160 := by
  have hn := h.1
  refine ⟨sumN_nn (fun w hw => ?_), ?_⟩
  · have := h.J hv (v := w) (by omega)
    split <;> omega
  · have := sumN_le (n := (s 1 0).toNat) (f := fun w => if p w then s (5 + v) w else 0) (g := fun _ => 20) (fun w hw => by
      have := h.J hv (v := w) (by omega)
      split <;> omega)
    rw [sumN_const] at this
    omega
theorem ij9 {v j a b : Nat} (h : v ≠ j) : (if v < j then a else b) = if v < j + 1 then a else b := by
  by_cases c : v < j
  · rw [if_pos c, if_pos (by omega)]
  · rw [if_neg c, if_neg (by omega)]
theorem k_Bu_burnRound {t : Nat} {need : Nat → Int} {s : Sto} (h : WG s) (ht : t < 8) (hr : ∀ v : Nat, v < (s 1 0).toNat → s 38 v = rnd (Jm s) need (s 1 2).toNat (s 1 0).toNat t v) (hd : ∀ v : Nat, v < (s 1 0).toNat → s 39 v = need v ∧ R32 (need v)) : K_Bu_burnRound ((t + 1 : Nat) : Int) s (fun r s' => (∀ k i, k ≠ 38 → s' k i = s k i) ∧ (∀ v : Nat, v < (s 1 0).toNat → s' 38 v = rnd (Jm s) need (s 1 2).toNat (s 1 0).toNat (t + 1) v) ∧ r = cntB (Jm s) need (s 1 2).toNat (s 1 0).toNat (t + 1) - cntB (Jm s) need (s 1 2).toNat (s 1 0).toNat t) := by
  have hn := h.1
  generalize hK : (s 1 2).toNat = K at *
  generalize hN : (s 1 0).toNat = N at *
  refine e_Bu_burnRound ?_
  have hcnt : ∀ j, sumN (j + 1) (fun v => if rnd (Jm s) need K N (t + 1) v = -1 then 0 else 1) - sumN (j + 1) (fun v => if rnd (Jm s) need K N t v = -1 then 0 else 1) = (sumN j (fun v => if rnd (Jm s) need K N (t + 1) v = -1 then 0 else 1) - sumN j (fun v => if rnd (Jm s) need K N t v = -1 then 0 else 1)) + ((if rnd (Jm s) need K N (t + 1) j = -1 then 0 else 1) - (if rnd (Jm s) need K N t j = -1 then 0 else 1)) := fun j => by
    simp only [sumN]
    omega
  refine loop_inv (α := Int × Sto) (N := N) (fun j a => (∀ k i, k ≠ 38 → a.2 k i = s k i) ∧ (∀ v : Nat, v < N → a.2 38 v = rnd (Jm s) need K N (if v < j then t + 1 else t) v) ∧ a.1 = sumN j (fun v => if rnd (Jm s) need K N (t + 1) v = -1 then 0 else 1) - sumN j (fun v => if rnd (Jm s) need K N t v = -1 then 0 else 1)) (fun j a => H_Bu_burnRound_4 _ ((t + 1 : Nat) : Int) a.1 j a.2) (fun j a hj hI ih => ?_) (fun a hI => ?_) 0 (0, s) (by omega) ⟨fun _ _ _ => rfl, fun v hv => by rw [if_neg (by omega)]; exact hr v hv, rfl⟩
  · obtain ⟨c0, q⟩ := a
    dsimp only at hI ⊢
    obtain ⟨i1, i2, i3⟩ := hI
    have i1 : ∀ k i, k ≠ 38 → q k i = s k i := i1
    have i2 : ∀ v : Nat, v < N → q 38 v = rnd (Jm s) need K N (if v < j then t + 1 else t) v := i2
    have i3 : c0 = _ := i3
    have hq : WG q := h.of (fun k i h1 h2 => i1 k i (by omega))
    have q0 : q 1 0 = s 1 0 := i1 1 0 (by decide)
    have hj3 : q 38 j = rnd (Jm s) need K N t j := by rw [i2 j hj, if_neg (Nat.lt_irrefl j)]
    have hb : ∀ w, w < N → R32 (q 38 w) := fun w hw => by
      rw [i2 w hw]
      have b1 := rnd_bd (Jm s) need K N (t + 1) w
      have b2 := rnd_bd (Jm s) need K N t w
      unfold R32
      by_cases e : w < j
      · rw [if_pos e]; omega
      · rw [if_neg e]; omega
    have hjb := hb j hj
    unfold R32 at hjb
    refine b_Bu_burnRound_4 ⟨by omega, fun c => absurd c (by omega), fun _ => ⟨by omega, ?_⟩⟩
    rw [toNat_n]
    refine ⟨hjb, fun c => ?_, fun c => ⟨_, k_Bu_edgesToBurnt hq (by omega) (by unfold R32; omega) (fun w hw => hb w (by omega)), ?_⟩⟩
    · rw [nat_suc]
      have hk := rnd_keep (J := Jm s) (need := need) (K := K) (N := N) (t := t) (v := j) (by rw [← hj3]; exact c)
      refine ih (c0, q) ⟨i1, fun v hv => ?_, ?_⟩
      · show q 38 v = _
        rw [i2 v hv]
        by_cases e : v = j
        · subst e; rw [if_neg (Nat.lt_irrefl v), if_pos (by omega), hk]
        · rw [ij9 e]
      · show c0 = _
        rw [i3, hcnt, hk]; omega
    · rintro r s' ⟨rfl, hr9⟩
      have hsum : r = sumN N (fun w => if rnd (Jm s) need K N t w = -1 then 0 else Jm s j w) := by
        rw [hr9, q0, hN]
        refine sumN_congr (fun w hw => ?_)
        rw [i2 w hw, i1 _ _ (by omega)]
        have b1 := rnd_bd (Jm s) need K N t w
        by_cases e : w < j
        · rw [if_pos e]
          by_cases e2 : rnd (Jm s) need K N t w = -1
          · rw [if_pos e2]
            refine if_neg (fun z => ?_)
            obtain ⟨z1, z2⟩ := z
            unfold rnd at z1 z2
            split at z2
            · omega
            · exact absurd e2 (by rename_i z3; rw [if_neg z3] at z1; exact z1)
          · rw [rnd_keep e2, if_neg e2, if_pos ⟨e2, by omega⟩]
        · rw [if_neg e]
          by_cases e2 : rnd (Jm s) need K N t w = -1
          · rw [if_pos e2, if_neg (fun z => z.1 e2)]
          · rw [if_neg e2, if_pos ⟨e2, by omega⟩]
      have h39 := hd j hj
      have s39 : s' 39 j = need j := by rw [i1 39 j (by decide)]; exact h39.1
      have hrb : 0 ≤ r ∧ r ≤ 160 := by
        rw [hr9]
        exact sumJ_bd hq (by omega) _
      rw [s39]
      have hneed := h39.2
      unfold R32 at hneed
      rw [hj3] at c
      refine ⟨by omega, by omega, fun d => ?_, fun d => ⟨by omega, fun s2 e2 => ?_⟩⟩
      · rw [nat_suc]
        have hk : rnd (Jm s) need K N (t + 1) j = rnd (Jm s) need K N t j := by
          conv => lhs; unfold rnd
          exact if_neg (fun z => by have := z.2; omega)
        refine ih (c0, s') ⟨i1, fun v hv => ?_, ?_⟩
        · show s' 38 v = _
          rw [i2 v hv]
          by_cases e : v = j
          · subst e; rw [if_neg (Nat.lt_irrefl v), if_pos (by omega), hk]
          · rw [ij9 e]
        · show c0 = _
          rw [i3, hcnt, hk]; omega
      · rw [nat_suc]
        have hk : rnd (Jm s) need K N (t + 1) j = (t : Int) + 1 := by
          conv => lhs; unfold rnd
          exact if_pos ⟨c, by omega⟩
        refine ih (c0 + 1, s2) ⟨fun k i hk2 => by show s2 k i = _; rw [e2, up_k hk2]; exact i1 k i hk2, fun v hv => ?_, ?_⟩
        · show s2 38 v = _
          rw [e2]
          by_cases e : v = j
          · subst e; rw [up_eq, if_pos (by omega), hk]; omega
          · rw [up_i e, i2 v hv, ij9 e]
        · show c0 + 1 = _
          rw [i3, hcnt, hk, if_pos c, if_neg (by omega)]; omega
  · obtain ⟨c0, q⟩ := a
    dsimp only at hI ⊢
    obtain ⟨i1, i2, i3⟩ := hI
    have q0 : q 1 0 = s 1 0 := i1 1 0 (by decide)
    exact b_Bu_burnRound_4 ⟨by omega, fun _ => ⟨i1, fun v hv => by rw [i2 v hv, if_pos hv], i3⟩, fun c => absurd c (by omega)⟩
/-- everything burns -/
def AllB (J : Nat → Nat → Int) (need : Nat → Int) (K N : Nat) : Prop := ∀ v, v < N → rnd J need K N N v ≠ -1
theorem cntB_all {J : Nat → Nat → Int} {need : Nat → Int} {K N : Nat} : cntB J need K N N = N ↔ AllB J need K N := by
  constructor
  · intro h v hv c
    have h1 := sumN_up (n := N) (f := fun _ => (1 : Int)) (g := fun i => if i = v then 0 else 1) hv (fun i _ hi => if_neg hi)
    have h2 := sumN_le (n := N) (f := fun i => if rnd J need K N N i = -1 then (0 : Int) else 1) (g := fun i => if i = v then 0 else 1) (fun i _ => by
      by_cases e : i = v
      · subst e; rw [if_pos c, if_pos rfl]; decide
      · rw [if_neg e]; split <;> decide)
    have h3 : sumN N (fun i => if rnd J need K N N i = -1 then (0 : Int) else 1) = N := h
    rw [sumN_const, if_pos rfl] at h1
    omega
  · intro h
    have := sumN_congr (n := N) (f := fun i => if rnd J need K N N i = -1 then (0 : Int) else 1) (g := fun _ => 1) (fun i hi => if_neg (h i hi))
    rw [sumN_const] at this
    show sumN N _ = _
    omega
def BurnP (s : Sto) (need : Nat → Int) (s' : Sto) (r : Int) : Prop := (∀ k i, k ≠ 38 → k ≠ 39 → s' k i = s k i) ∧ (∀ v : Nat, v < (s 1 0).toNat → s' 38 v = rnd (Jm s) need (s 1 2).toNat (s 1 0).toNat (s 1 0).toNat v) ∧ (r = 1 ∧ AllB (Jm s) need (s 1 2).toNat (s 1 0).toNat ∨ r = 0 ∧ ¬ AllB (Jm s) need (s 1 2).toNat (s 1 0).toNat)
theorem k_Bu_spreadFire {need : Nat → Int} {s : Sto} (h : WG s) (hd : ∀ v : Nat, v < (s 1 0).toNat → s 39 v = need v ∧ R32 (need v)) : K_Bu_spreadFire s (fun r s' => (∀ k i, k ≠ 38 → s' k i = s k i) ∧ BurnP s need s' r) := by
  have hn := h.1
  have hk := h.2.2.1
  refine e_Bu_spreadFire ?_
  refine loop_inv (α := Sto) (N := (s 1 0).toNat) (fun j q => (∀ k i, k ≠ 38 → q k i = s k i) ∧ ∀ v : Nat, v < j → q 38 v = rnd (Jm s) need (s 1 2).toNat (s 1 0).toNat 0 v) (fun j q => H_Bu_spreadFire_2 _ j q) (fun j q hj hI ih => ?_) (fun q hI => ?_) 0 s (by omega) ⟨fun _ _ _ => rfl, fun v hv => absurd hv (by omega)⟩
  · obtain ⟨i1, i2⟩ := hI
    have q0 : q 1 0 = s 1 0 := i1 1 0 (by decide)
    have q2 : q 1 2 = s 1 2 := i1 1 2 (by decide)
    refine b_Bu_spreadFire_2 ⟨by omega, fun c => absurd c (by omega), fun _ => ⟨by omega, fun c => ⟨by omega, fun s1 e1 => ?_⟩, fun c => ⟨by omega, fun s1 e1 => ?_⟩⟩⟩
    · rw [nat_suc]
      refine ih s1 ⟨fun k i hk => by rw [e1, up_k hk]; exact i1 k i hk, fun v hv => ?_⟩
      rw [e1, toNat_n]
      by_cases e : v = j
      · subst e; rw [up_eq]; unfold rnd; rw [if_neg (by omega)]
      · rw [up_i e]; exact i2 v (by omega)
    · rw [nat_suc]
      refine ih s1 ⟨fun k i hk => by rw [e1, up_k hk]; exact i1 k i hk, fun v hv => ?_⟩
      rw [e1, toNat_n]
      by_cases e : v = j
      · subst e; rw [up_eq]; unfold rnd; rw [if_pos (by omega)]
      · rw [up_i e]; exact i2 v (by omega)
  · obtain ⟨i1, i2⟩ := hI
    have q0 : q 1 0 = s 1 0 := i1 1 0 (by decide)
    refine b_Bu_spreadFire_2 ⟨by omega, fun _ => ?_, fun c => absurd c (by omega)⟩
    have hc0 : cntB (Jm s) need (s 1 2).toNat (s 1 0).toNat 0 = 1 := by
      have : cntB (Jm s) need (s 1 2).toNat (s 1 0).toNat 0 = sumN (s 1 0).toNat (fun v => if v = (s 1 2).toNat then 1 else 0) := sumN_congr (fun v hv => by
        unfold rnd
        by_cases e : v = (s 1 2).toNat
        · rw [if_pos e, if_pos e]; rfl
        · rw [if_neg e, if_neg e]; rfl)
      rw [this, sumN_one 1 (by omega)]
    refine loop_inv (α := Int × Sto) (N := (s 1 0).toNat) (fun j a => (∀ k i, k ≠ 38 → a.2 k i = s k i) ∧ (∀ v : Nat, v < (s 1 0).toNat → a.2 38 v = rnd (Jm s) need (s 1 2).toNat (s 1 0).toNat j v) ∧ a.1 = cntB (Jm s) need (s 1 2).toNat (s 1 0).toNat j) (fun j a => H_Bu_spreadFire_45 _ a.1 ((j + 1 : Nat) : Int) a.2) (fun j a hj hI ih => ?_) (fun a hI => ?_) 0 (1, q) (by omega) ⟨i1, i2, hc0.symm⟩
    · obtain ⟨c0, q⟩ := a
      dsimp only at hI ⊢
      obtain ⟨j1, j2, j3⟩ := hI
      have j1 : ∀ k i, k ≠ 38 → q k i = s k i := j1
      have q0 : q 1 0 = s 1 0 := j1 1 0 (by decide)
      have q2 : q 1 2 = s 1 2 := j1 1 2 (by decide)
      have hJ : ∀ v w, v < (s 1 0).toNat → w < (s 1 0).toNat → Jm q v w = Jm s v w := fun v w hv hw => j1 (5 + v) w (by omega)
      have hR : ∀ t v, v < (s 1 0).toNat → rnd (Jm q) need (s 1 2).toNat (s 1 0).toNat t v = rnd (Jm s) need (s 1 2).toNat (s 1 0).toNat t v := rnd_congr hJ (fun _ _ => rfl)
      have hC : ∀ t, cntB (Jm q) need (s 1 2).toNat (s 1 0).toNat t = cntB (Jm s) need (s 1 2).toNat (s 1 0).toNat t := fun t => sumN_congr (fun v hv => by rw [hR t v hv])
      have hq : WG q := h.of (fun k i h1 h2 => j1 k i (by omega))
      refine b_Bu_spreadFire_45 ⟨by omega, fun c => absurd c (by omega), fun _ => ⟨_, k_Bu_burnRound (need := need) hq (by omega) (fun v hv => ?_) (fun v hv => ?_), ?_⟩⟩
      · rw [q0, q2, hR _ _ (by omega)]; exact j2 v (by omega)
      · rw [j1 39 v (by decide)]; exact hd v (by omega)
      · rintro r s2 ⟨a1, a2, a3⟩
        rw [q0, q2] at a2 a3
        rw [hC, hC] at a3
        rw [nat_suc]
        exact ih (c0 + r, s2) ⟨fun k i hk => by show s2 k i = _; rw [a1 k i hk]; exact j1 k i hk, fun v hv => (a2 v hv).trans (hR _ _ hv), by show c0 + r = _; have j3 : c0 = _ := j3; omega⟩
    · obtain ⟨c0, q⟩ := a
      dsimp only at hI ⊢
      obtain ⟨j1, j2, j3⟩ := hI
      have j1 : ∀ k i, k ≠ 38 → q k i = s k i := j1
      have j3 : c0 = _ := j3
      have q0 : q 1 0 = s 1 0 := j1 1 0 (by decide)
      have hcb : 0 ≤ c0 ∧ c0 ≤ 8 := by
        rw [j3]
        refine ⟨sumN_nn (fun i _ => by split <;> decide), ?_⟩
        have := sumN_le (n := (s 1 0).toNat) (f := fun v => if rnd (Jm s) need (s 1 2).toNat (s 1 0).toNat (s 1 0).toNat v = -1 then (0 : Int) else 1) (g := fun _ => 1) (fun i _ => by split <;> decide)
        rw [sumN_const] at this
        unfold cntB
        omega
      have hall := cntB_all (J := Jm s) (need := need) (K := (s 1 2).toNat) (N := (s 1 0).toNat)
      rw [← j3] at hall
      refine b_Bu_spreadFire_45 ⟨by omega, fun _ => ⟨by omega, fun c => ⟨j1, fun k i h1 _ => j1 k i h1, j2, Or.inr ⟨rfl, fun z => c ?_⟩⟩, fun c => ⟨j1, fun k i h1 _ => j1 k i h1, j2, Or.inl ⟨rfl, hall.mp ?_⟩⟩⟩, fun c => absurd c (by omega)⟩
      · have := hall.mpr z; omega
      · omega
