/-! recurrent states and spanning trees -/
theorem wl_more {s : Sto} (h : WG s) (dec : Nat → Nat → Int → Bool) (t : Nat) : ∀ d, (∀ e, (wl s dec t).2.1.testBit e = true → (wl s dec (t + d)).2.1.testBit e = true ∧ (wl s dec (t + d)).2.2.1.testBit e = (wl s dec t).2.2.1.testBit e) ∧ (∀ v, (wl s dec t).1.testBit v = true → (wl s dec (t + d)).1.testBit v = true ∧ (wl s dec (t + d)).2.2.2 v = (wl s dec t).2.2.2 v) ∧ ∀ e, (wl s dec t).2.2.1.testBit e = true → (wl s dec (t + d)).2.2.1.testBit e = true
  | 0 => ⟨fun _ q => ⟨q, rfl⟩, fun _ q => ⟨q, rfl⟩, fun _ q => q⟩
  | d + 1 => by
    obtain ⟨a, b, c⟩ := wl_more h dec t d
    rcases wl_cases h dec (t + d) with ⟨e1, -⟩ | ⟨e, v, o, he, hv, ho, hvK, hXv, hXo, hFS, hU, e1⟩
    · rw [show t + (d + 1) = t + d + 1 from rfl, e1]; exact ⟨a, b, c⟩
    · rw [show t + (d + 1) = t + d + 1 from rfl, e1]
      refine ⟨fun i q => ?_, fun u q => ?_, fun i q => ?_⟩
      · have hi : i ≠ e := fun z => by have := (a i q).1; rw [z, hU] at this; cases this
        have hd : decide (e = i) = false := by simpa using fun z => hi z.symm
        split <;> dsimp only <;> simp only [tb_or, hd, Bool.or_false] <;> exact a i q
      · have hu : u ≠ v := fun z => by have := (b u q).1; rw [z, hXv] at this; cases this
        have hd : decide (v = u) = false := by simpa using fun z => hu z.symm
        split <;> dsimp only <;> simp only [tb_or, hd, Bool.or_false, fu_ne hu] <;> exact b u q
      · have := c i q
        split <;> dsimp only
        · rw [tb_or, this]; rfl
        · exact this
theorem wstep_congr {s : Sto} {dec dec' : Nat → Nat → Int → Bool} {a : Wst} (hd : fnd (bdr (s 2) (s 3) a.1 a.2.1) (s 1 1).toNat < (s 1 1).toNat → dec (fnd (bdr (s 2) (s 3) a.1 a.2.1) (s 1 1).toNat) (une (s 2) (s 3) a.1 (fnd (bdr (s 2) (s 3) a.1 a.2.1) (s 1 1).toNat)) (a.2.2.2 (une (s 2) (s 3) a.1 (fnd (bdr (s 2) (s 3) a.1 a.2.1) (s 1 1).toNat)) + 1) = dec' (fnd (bdr (s 2) (s 3) a.1 a.2.1) (s 1 1).toNat) (une (s 2) (s 3) a.1 (fnd (bdr (s 2) (s 3) a.1 a.2.1) (s 1 1).toNat)) (a.2.2.2 (une (s 2) (s 3) a.1 (fnd (bdr (s 2) (s 3) a.1 a.2.1) (s 1 1).toNat)) + 1)) : wstep (s 2) (s 3) (s 1 1).toNat dec a = wstep (s 2) (s 3) (s 1 1).toNat dec' a := by
  unfold wstep
  simp only
  by_cases c : fnd (bdr (s 2) (s 3) a.1 a.2.1) (s 1 1).toNat < (s 1 1).toNat
  · rw [if_pos c, if_pos c, hd c]
  · rw [if_neg c, if_neg c]
/-- two walks that decide alike where the first one goes -/
theorem wl_alike {s : Sto} {dec dec' : Nat → Nat → Int → Bool} {m : Nat} (hd : ∀ t, t < m → fnd (bdr (s 2) (s 3) (wl s dec t).1 (wl s dec t).2.1) (s 1 1).toNat < (s 1 1).toNat → dec (fnd (bdr (s 2) (s 3) (wl s dec t).1 (wl s dec t).2.1) (s 1 1).toNat) (une (s 2) (s 3) (wl s dec t).1 (fnd (bdr (s 2) (s 3) (wl s dec t).1 (wl s dec t).2.1) (s 1 1).toNat)) ((wl s dec t).2.2.2 (une (s 2) (s 3) (wl s dec t).1 (fnd (bdr (s 2) (s 3) (wl s dec t).1 (wl s dec t).2.1) (s 1 1).toNat)) + 1) = dec' (fnd (bdr (s 2) (s 3) (wl s dec t).1 (wl s dec t).2.1) (s 1 1).toNat) (une (s 2) (s 3) (wl s dec t).1 (fnd (bdr (s 2) (s 3) (wl s dec t).1 (wl s dec t).2.1) (s 1 1).toNat)) ((wl s dec t).2.2.2 (une (s 2) (s 3) (wl s dec t).1 (fnd (bdr (s 2) (s 3) (wl s dec t).1 (wl s dec t).2.1) (s 1 1).toNat)) + 1)) : ∀ t, t ≤ m → wl s dec t = wl s dec' t := by
  intro t
  induction t with
  | zero => intro _; rfl
  | succ t ih =>
    intro ht
    have e := ih (by omega)
    rw [show wl s dec (t + 1) = wstep (s 2) (s 3) (s 1 1).toNat dec (wl s dec t) from rfl, show wl s dec' (t + 1) = wstep (s 2) (s 3) (s 1 1).toNat dec' (wl s dec' t) from rfl, ← e]
    exact wstep_congr (hd t (by omega))
/-- what an active step does to the edge that it looks at -/
theorem wl_look {s : Sto} (h : WG s) (dec : Nat → Nat → Int → Bool) {t m : Nat} (ht : t < m) (c : fnd (bdr (s 2) (s 3) (wl s dec t).1 (wl s dec t).2.1) (s 1 1).toNat < (s 1 1).toNat) : dec (fnd (bdr (s 2) (s 3) (wl s dec t).1 (wl s dec t).2.1) (s 1 1).toNat) (une (s 2) (s 3) (wl s dec t).1 (fnd (bdr (s 2) (s 3) (wl s dec t).1 (wl s dec t).2.1) (s 1 1).toNat)) ((wl s dec t).2.2.2 (une (s 2) (s 3) (wl s dec t).1 (fnd (bdr (s 2) (s 3) (wl s dec t).1 (wl s dec t).2.1) (s 1 1).toNat)) + 1) = (wl s dec m).2.2.1.testBit (fnd (bdr (s 2) (s 3) (wl s dec t).1 (wl s dec t).2.1) (s 1 1).toNat) := by
  have hb := (fnd_spec (bdr (s 2) (s 3) (wl s dec t).1 (wl s dec t).2.1) (s 1 1).toNat).2.1 c
  have w := wl_step (s := s) (dec := dec) (t := t) c
  have hI := wl_inv h dec t
  generalize fnd (bdr (s 2) (s 3) (wl s dec t).1 (wl s dec t).2.1) (s 1 1).toNat = e at *
  have hU : (wl s dec t).2.1.testBit e = false := by
    unfold bdr at hb
    simp only [Bool.and_eq_true, Bool.not_eq_true'] at hb
    exact hb.2
  have hT : (wl s dec t).2.2.1.testBit e = false := by
    cases z : (wl s dec t).2.2.1.testBit e
    · rfl
    · have := hI.1 e z; rw [hU] at this; cases this
  have hk := (wl_more h dec (t + 1) (m - (t + 1))).1 e
  rw [show t + 1 + (m - (t + 1)) = m by omega] at hk
  cases q : dec e (une (s 2) (s 3) (wl s dec t).1 e) ((wl s dec t).2.2.2 (une (s 2) (s 3) (wl s dec t).1 e) + 1)
  · rw [q] at w
    simp only [if_neg (by decide : ¬ (false = true))] at w
    have := (hk (by rw [w]; dsimp only; rw [tb_or]; simp)).2
    rw [this, w]
    exact hT.symm
  · rw [q] at w
    simp only [if_true] at w
    have := (hk (by rw [w]; dsimp only; rw [tb_or]; simp)).2
    rw [this, w]
    dsimp only
    rw [tb_or]
    simp
/-- the walk by the tree that a walk finds is that walk -/
theorem wl_tree {s : Sto} (h : WG s) (dec : Nat → Nat → Int → Bool) : ∀ t, t ≤ (s 1 1).toNat → wl s dec t = wl s (decT (wl s dec (s 1 1).toNat).2.2.1) t :=
  wl_alike (fun t ht c => wl_look h dec ht c)
theorem jnE_in {s : Sto} (h : WG s) {p : Nat → Prop} [DecidablePred p] {v e : Nat} (he : e < (s 1 1).toNat) : sumN (s 1 0).toNat (fun w => if p w then jnE (s 2) (s 3) v w e else 0) = if (s 2 e = v ∧ p (s 3 e).toNat) ∨ (s 3 e = v ∧ p (s 2 e).toNat) then 1 else 0 := by
  have hE := h.2.2.2.1 e (by omega)
  by_cases c1 : s 2 e = v
  · have : ∀ w, (if p w then jnE (s 2) (s 3) v w e else 0) = if w = (s 3 e).toNat then (if p (s 3 e).toNat then 1 else 0) else 0 := fun w => by
      by_cases d : w = (s 3 e).toNat
      · rw [if_pos d, d]
        unfold jnE
        rw [if_pos (by omega : (s 2 e = (v : Int) ∧ s 3 e = ((s 3 e).toNat : Nat)) ∨ _)]
      · rw [if_neg d]
        unfold jnE
        rw [if_neg (by omega : ¬ ((s 2 e = (v : Int) ∧ s 3 e = (w : Nat)) ∨ (s 2 e = (w : Nat) ∧ s 3 e = (v : Int))))]
        split <;> rfl
    rw [sumN_congr (fun w _ => this w), sumN_one _ (by omega)]
    refine ite_congr (propext ⟨fun z => Or.inl ⟨c1, z⟩, fun z => z.elim (fun z => z.2) (fun z => ?_)⟩) (fun _ => rfl) (fun _ => rfl)
    have := z.1
    omega
  · by_cases c2 : s 3 e = v
    · have : ∀ w, (if p w then jnE (s 2) (s 3) v w e else 0) = if w = (s 2 e).toNat then (if p (s 2 e).toNat then 1 else 0) else 0 := fun w => by
        by_cases d : w = (s 2 e).toNat
        · rw [if_pos d, d]
          unfold jnE
          rw [if_pos (by omega : (s 2 e = (v : Int) ∧ s 3 e = ((s 2 e).toNat : Nat)) ∨ (s 2 e = ((s 2 e).toNat : Nat) ∧ s 3 e = (v : Int)))]
        · rw [if_neg d]
          unfold jnE
          rw [if_neg (by omega : ¬ ((s 2 e = (v : Int) ∧ s 3 e = (w : Nat)) ∨ (s 2 e = (w : Nat) ∧ s 3 e = (v : Int))))]
          split <;> rfl
      rw [sumN_congr (fun w _ => this w), sumN_one _ (by omega)]
      refine ite_congr (propext ⟨fun z => Or.inr ⟨c2, z⟩, fun z => z.elim (fun z => absurd z.1 c1) (fun z => z.2)⟩) (fun _ => rfl) (fun _ => rfl)
    · rw [if_neg (fun z => z.elim (fun z => c1 z.1) (fun z => c2 z.1))]
      refine sumN_z (fun w _ => ?_)
      unfold jnE
      rw [if_neg (by omega : ¬ ((s 2 e = (v : Int) ∧ s 3 e = (w : Nat)) ∨ (s 2 e = (w : Nat) ∧ s 3 e = (v : Int))))]
      split <;> rfl
theorem J_in {s : Sto} (h : WG s) {p : Nat → Prop} [DecidablePred p] {v : Nat} (hv : v < 8) : sumN (s 1 0).toNat (fun w => if p w then Jm s v w else 0) = sumN (s 1 1).toNat (fun e => if (s 2 e = v ∧ p (s 3 e).toNat) ∨ (s 3 e = v ∧ p (s 2 e).toNat) then 1 else 0) := by
  have hn := h.1
  have e1 : sumN (s 1 0).toNat (fun w => if p w then Jm s v w else 0) = sumN (s 1 0).toNat (fun w => sumN (s 1 1).toNat (fun e => if p w then jnE (s 2) (s 3) v w e else 0)) := sumN_congr (fun w hw => by
    by_cases c : p w
    · simp only [if_pos c]
      exact h.2.2.2.2.1 v w hv (by omega)
    · simp only [if_neg c]
      exact (sumN_zero _).symm)
  rw [e1, sumN_comm]
  exact sumN_congr (fun e he => jnE_in h he)
/-- counts against chips -/
theorem wl_chips {s : Sto} (h : WG s) {c : Nat → Int} (hc : ∀ v, v < (s 1 0).toNat → v ≠ (s 1 2).toNat → c v < dgr (Jm s) (s 1 0).toNat v) (t : Nat) : ∀ v, v < (s 1 0).toNat → v ≠ (s 1 2).toNat → ((wl s (decC s c) t).1.testBit v = false → (wl s (decC s c) t).2.2.2 v ≤ dgr (Jm s) (s 1 0).toNat v - 1 - c v) ∧ ((wl s (decC s c) t).1.testBit v = true → (wl s (decC s c) t).2.2.2 v = dgr (Jm s) (s 1 0).toNat v - c v) := by
  induction t with
  | zero =>
    intro v hv hk
    refine ⟨fun _ => ?_, fun q => ?_⟩
    · have := hc v hv hk
      show (0 : Int) ≤ _
      omega
    · have q : (2 ^ (s 1 2).toNat).testBit v = true := q
      rw [Nat.testBit_two_pow] at q
      have : (s 1 2).toNat = v := by simpa using q
      omega
  | succ t ih =>
    intro u hu huk
    rcases wl_cases h (decC s c) t with ⟨e1, -⟩ | ⟨e, v, o, he, hv, ho, hvK, hXv, hXo, hFS, hU, e1⟩
    · rw [e1]; exact ih u hu huk
    · obtain ⟨a, b⟩ := ih u hu huk
      have av := (ih v hv hvK).1 hXv
      rw [e1]
      by_cases q : decC s c e v ((wl s (decC s c) t).2.2.2 v + 1) = true
      · rw [if_pos q]
        have q2 : dgr (Jm s) (s 1 0).toNat v - 1 - c v < (wl s (decC s c) t).2.2.2 v + 1 := by
          have q : decide (dgr (Jm s) (s 1 0).toNat v - 1 - c v < _) = true := q
          simpa using q
        dsimp only
        rw [tb_or]
        by_cases d : u = v
        · rw [d, fu_eq]
          refine ⟨fun z => by simp at z, fun _ => by omega⟩
        · have hd : decide (v = u) = false := by simpa using fun z => d z.symm
          rw [hd, Bool.or_false, fu_ne d]
          exact ⟨a, b⟩
      · rw [if_neg q]
        have q2 : ¬ dgr (Jm s) (s 1 0).toNat v - 1 - c v < (wl s (decC s c) t).2.2.2 v + 1 := fun z => q (decide_eq_true z)
        dsimp only
        by_cases d : u = v
        · rw [d, fu_eq, hXv]
          exact ⟨fun _ => by omega, fun z => by cases z⟩
        · rw [fu_ne d]
          exact ⟨a, b⟩
/-- what the walk marks burns -/
theorem wl_burnt {s : Sto} (h : WG s) {c : Nat → Int} (t : Nat) : ∀ v, v < (s 1 0).toNat → (wl s (decC s c) t).1.testBit v = true → rnd (Jm s) (fun v => dgr (Jm s) (s 1 0).toNat v - c v) (s 1 2).toNat (s 1 0).toNat (s 1 0).toNat v ≠ -1 := by
  have hn := h.1
  induction t with
  | zero =>
    intro v hv q
    have q : (2 ^ (s 1 2).toNat).testBit v = true := q
    rw [Nat.testBit_two_pow] at q
    have : (s 1 2).toNat = v := by simpa using q
    rw [← this, rnd_K]; decide
  | succ t ih =>
    intro u hu hXu
    rcases wl_cases h (decC s c) t with ⟨e1, -⟩ | ⟨e, v, o, he, hv, ho, hvK, hXv, hXo, hFS, hU, e1⟩
    · rw [e1] at hXu; exact ih u hu hXu
    · rw [e1] at hXu
      by_cases q : decC s c e v ((wl s (decC s c) t).2.2.2 v + 1) = true
      · rw [if_pos q] at hXu
        dsimp only at hXu
        by_cases d : u = v
        · subst d
          have q2 : dgr (Jm s) (s 1 0).toNat u - 1 - c u < (wl s (decC s c) t).2.2.2 u + 1 := by
            have q : decide (dgr (Jm s) (s 1 0).toNat u - 1 - c u < _) = true := q
            simpa using q
          have hI := wl_inv h (decC s c) t
          have hcnt := hI.2.2.2.2.2.2.2.1 u hu hXv
          intro hb
          have hf := rnd_fix (J := Jm s) (need := fun v => dgr (Jm s) (s 1 0).toNat v - c v) h.K u hu hb
          dsimp only at hf
          -- edges used so far, and this one, come from burnt nodes
          have hle : (wl s (decC s c) t).2.2.2 u + 1 ≤ sumN (s 1 0).toNat (fun w => if rnd (Jm s) (fun v => dgr (Jm s) (s 1 0).toNat v - c v) (s 1 2).toNat (s 1 0).toNat (s 1 0).toNat w = -1 then 0 else Jm s u w) := by
            have e2 : sumN (s 1 0).toNat (fun w => if rnd (Jm s) (fun v => dgr (Jm s) (s 1 0).toNat v - c v) (s 1 2).toNat (s 1 0).toNat (s 1 0).toNat w = -1 then 0 else Jm s u w) = sumN (s 1 0).toNat (fun w => if rnd (Jm s) (fun v => dgr (Jm s) (s 1 0).toNat v - c v) (s 1 2).toNat (s 1 0).toNat (s 1 0).toNat w ≠ -1 then Jm s u w else 0) := sumN_congr (fun w _ => by
              by_cases z : rnd (Jm s) (fun v => dgr (Jm s) (s 1 0).toNat v - c v) (s 1 2).toNat (s 1 0).toNat (s 1 0).toNat w = -1
              · rw [if_pos z, if_neg (fun q => q z)]
              · rw [if_neg z, if_pos z])
            rw [e2, J_in h (by omega), hcnt]
            have h3 := sumN_up (n := (s 1 1).toNat) (f := fun i => if (wl s (decC s c) t).2.1.testBit i = true then dgE (s 2) (s 3) u i else 0) (g := fun i => if i = e then 1 else if (wl s (decC s c) t).2.1.testBit i = true then dgE (s 2) (s 3) u i else 0) he (fun i _ hi => if_neg hi)
            rw [if_pos rfl, if_neg (by rw [hU]; decide)] at h3
            have h4 := sumN_le (n := (s 1 1).toNat) (f := fun i => if i = e then (1 : Int) else if (wl s (decC s c) t).2.1.testBit i = true then dgE (s 2) (s 3) u i else 0) (g := fun i => if (s 2 i = u ∧ rnd (Jm s) (fun v => dgr (Jm s) (s 1 0).toNat v - c v) (s 1 2).toNat (s 1 0).toNat (s 1 0).toNat (s 3 i).toNat ≠ -1) ∨ (s 3 i = u ∧ rnd (Jm s) (fun v => dgr (Jm s) (s 1 0).toNat v - c v) (s 1 2).toNat (s 1 0).toNat (s 1 0).toNat (s 2 i).toNat ≠ -1) then 1 else 0) (fun i hi => by
              by_cases di : i = e
              · rw [if_pos di, di]
                have hob := ih o ho hXo
                rw [if_pos]
                · exact Int.le_refl 1
                · rcases hFS with ⟨a, b⟩ | ⟨a, b⟩
                  · left; exact ⟨a, by rw [b]; exact hob⟩
                  · right; exact ⟨b, by rw [a]; exact hob⟩
              · rw [if_neg di]
                by_cases dU : (wl s (decC s c) t).2.1.testBit i = true
                · rw [if_pos dU]
                  have hE := h.2.2.2.1 i (by omega)
                  unfold dgE
                  by_cases dd : s 2 i = u ∨ s 3 i = u
                  · rw [if_pos dd, if_pos]
                    · exact Int.le_refl 1
                    · have hm := hI.2.2.2.1 i dU
                      rcases dd with dd | dd
                      · left
                        refine ⟨dd, ih _ (by omega) (hm.resolve_left (fun z => ?_))⟩
                        rw [dd, toNat_n, hXv] at z; cases z
                      · right
                        refine ⟨dd, ih _ (by omega) (hm.resolve_right (fun z => ?_))⟩
                        rw [dd, toNat_n, hXv] at z; cases z
                  · rw [if_neg dd]; split <;> decide
                · rw [if_neg dU]; split <;> decide)
            omega
          omega
        · have hd : decide (v = u) = false := by simpa using fun z => d z.symm
          rw [tb_or, hd, Bool.or_false] at hXu
          exact ih u hu hXu
      · rw [if_neg q] at hXu
        exact ih u hu hXu
