/-! merging two labels along one more edge -/
theorem lab_merge {F S : Nat → Int} {N m e u z : Nat} {T : Nat → Prop} {L L' : Nat → Int} (hE : ∀ e, e < m → (0 ≤ F e ∧ F e < N) ∧ 0 ≤ S e ∧ S e < N) (h : LabP F S N m T L) (he : e < m) (huz : (u = (F e).toNat ∧ z = (S e).toNat) ∨ (u = (S e).toNat ∧ z = (F e).toNat)) (hne : L u ≠ L z) (h' : ∀ v, v < N → L' v = if L v = L z then L u else L v) : LabP F S N m (fun i => T i ∨ i = e) L' ∧ cntL L' N = cntL L N - 1 := by
  obtain ⟨a, b, c⟩ := h
  have hm := hE e he
  have hu : u < N := by omega
  have hz : z < N := by omega
  have hf := a u hu
  have hs := a z hz
  generalize hk : L u = kp at *
  generalize hl : L z = lo at *
  refine ⟨⟨fun v hv => ?_, fun i hi hTi => ?_, fun X hX v w hv hw hvw => ?_⟩, ?_⟩
  · obtain ⟨a1, a2⟩ := a v hv
    rw [h' v hv]
    by_cases d : L v = lo
    · rw [if_pos d]
      refine ⟨hf.1, ?_⟩
      rw [h' _ (by omega), if_neg (by rw [hf.2]; exact hne)]
      exact hf.2
    · rw [if_neg d]
      refine ⟨a1, ?_⟩
      rw [h' _ (by omega), if_neg (by rw [a2]; exact d)]
      exact a2
  · have h2 := hE i hi
    have same : L' u = L' z := by rw [h' u hu, h' z hz, hk, hl, if_pos rfl, if_neg hne]
    by_cases d : i = e
    · subst d
      rcases huz with ⟨q1, q2⟩ | ⟨q1, q2⟩
      · rw [← q1, ← q2]; exact same
      · rw [← q1, ← q2]; exact same.symm
    · have h1 := b i hi (hTi.resolve_right d)
      rw [h' _ (by omega), h' _ (by omega), h1]
  · have hc := c X (fun i hi q => hX i hi (Or.inl q))
    have hm2 : X u ↔ X z := by
      have := hX e he (Or.inr rfl)
      rcases huz with ⟨q1, q2⟩ | ⟨q1, q2⟩
      · rw [q1, q2]; exact this
      · rw [q1, q2]; exact this.symm
    have hF : ∀ v, v < N → L v = kp → (X v ↔ X u) := fun v hv q => hc v _ hv hu (q.trans hk.symm)
    have hS : ∀ v, v < N → L v = lo → (X v ↔ X z) := fun v hv q => hc v _ hv hz (q.trans hl.symm)
    rw [h' v hv, h' w hw] at hvw
    by_cases d1 : L v = lo <;> by_cases d2 : L w = lo
    · exact hc v w hv hw (d1.trans d2.symm)
    · rw [if_pos d1, if_neg d2] at hvw
      exact (hS v hv d1).trans (hm2.symm.trans (hF w hw hvw.symm).symm)
    · rw [if_neg d1, if_pos d2] at hvw
      exact (hF v hv hvw).trans (hm2.trans (hS w hw d2).symm)
    · rw [if_neg d1, if_neg d2] at hvw
      exact hc v w hv hw hvw
  · unfold cntL
    rw [sumN_up (f := fun v => if L v = v then 1 else 0) (g := fun v => if L' v = v then 1 else 0) (k := lo.toNat) (by omega) (fun v hv hne2 => ?_)]
    · have e1 : L lo.toNat = (lo.toNat : Int) := by rw [hs.2]; omega
      have e2 : L' lo.toNat = kp := by rw [h' _ (by omega), if_pos hs.2]
      rw [if_pos e1, e2, if_neg (by omega)]
      omega
    · rw [h' v hv]
      have hv2 := a v hv
      by_cases d : L v = lo
      · rw [if_pos d, d]
        have : ¬ kp = (v : Int) := fun q => by
          have : v = kp.toNat := by omega
          rw [this, hf.2] at d
          exact hne d
        rw [if_neg this, if_neg (by omega)]
      · rw [if_neg d]
