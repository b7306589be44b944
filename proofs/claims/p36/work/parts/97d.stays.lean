/-! a recurrent state stays recurrent when chips are added and it is stabilized -/
section
variable {J : Nat → Nat → Int} {K N : Nat}
noncomputable def sU (J : Nat → Nat → Int) (N : Nat) (U : Nat → Prop) (v : Nat) : Int := sumN N (fun w => ind (U w) * J v w)
/-- no set without the sink has fewer chips at each node than edges inside -/
def nFS (J : Nat → Nat → Int) (K N : Nat) (c : Nat → Int) : Prop := ∀ U : Nat → Prop, ¬ U K → (∃ v, v < N ∧ U v) → ∃ v, v < N ∧ U v ∧ sU J N U v ≤ c v
theorem Rec.nfs {c : Nat → Int} (hJ : ∀ u w, u < N → w < N → 0 ≤ J u w) (h : AllB J (fun v => dgr J N v - c v) K N) : nFS J K N c := by
  intro U hK ⟨u, hu, hU⟩
  apply Classical.byContradiction
  intro hn
  refine h u hu (rnd_unb hJ hK (fun v hv hUv f hf => ?_) N u hu hU)
  have h1 : c v < sU J N U v := Classical.byContradiction fun z => hn ⟨v, hv, hUv, by omega⟩
  have h2 : sumN N f ≤ sumN N (fun w => J v w - ind (U w) * J v w) := sumN_le (fun w hw => by
    have hj := hJ v w hv hw
    rcases hf w hw with q | ⟨q1, q2⟩
    · rw [q]
      by_cases z : U w
      · rw [ind_t z]; omega
      · rw [ind_f z]; omega
    · rw [q2, ind_f q1]; omega)
  rw [sumN_sub] at h2
  have h3 : sumN N f ≤ dgr J N v - sU J N U v := h2
  show sumN N f < dgr J N v - c v
  omega
theorem nFS.allB {c : Nat → Int} (hK : K < N) (h : nFS J K N c) : AllB J (fun v => dgr J N v - c v) K N := by
  intro u hu
  intro hb
  obtain ⟨v, hv, hU, hle⟩ := h (fun v => rnd J (fun v => dgr J N v - c v) K N N v = -1) (fun z => by rw [rnd_K] at z; omega) ⟨u, hu, hb⟩
  have a := rnd_fix (J := J) (need := fun v => dgr J N v - c v) hK v hv hU
  dsimp only at a
  have e : sU J N (fun v => rnd J (fun v => dgr J N v - c v) K N N v = -1) v + sumN N (fun w => if rnd J (fun v => dgr J N v - c v) K N N w = -1 then 0 else J v w) = dgr J N v := by
    unfold sU
    rw [← sumN_add]
    show _ = sumN N (J v)
    exact sumN_congr (fun w _ => by
      show ind (rnd J (fun v => dgr J N v - c v) K N N w = -1) * J v w + (if rnd J (fun v => dgr J N v - c v) K N N w = -1 then 0 else J v w) = J v w
      by_cases z : rnd J (fun v => dgr J N v - c v) K N N w = -1
      · rw [ind_t z, if_pos z]; omega
      · rw [ind_f z, if_neg z]; omega)
  omega
theorem nFS.stays {c f : Nat → Int} (hJ : ∀ u w, u < N → w < N → 0 ≤ J u w) (hdg : ∀ v, v < N → v ≠ K → 0 < dgr J N v) {c0 : Nat → Int} (h0 : nFS J K N c0) (hc : ∀ v, v < N → v ≠ K → c0 v ≤ c v) (hf : Stl J K N c f) : nFS J K N (fun v => c v - lap J N f v) := by
  intro U hK ⟨u, hu, hU⟩
  apply Classical.byContradiction
  intro hn
  have fb : ∀ v, v < N → U v → c v - lap J N f v < sU J N U v := fun v hv hUv => Classical.byContradiction fun z => hn ⟨v, hv, hUv, by dsimp only; omega⟩
  by_cases Z : ∃ v, v < N ∧ U v ∧ f v = 0
  · obtain ⟨v, hv, ⟨hUv, hfv⟩, hle⟩ := h0 (fun v => U v ∧ f v = 0) (fun z => hK z.1) (by obtain ⟨v, h1, h2, h3⟩ := Z; exact ⟨v, h1, h2, h3⟩)
    have vk : v ≠ K := fun z => hK (z ▸ hUv)
    have b := fb v hv hUv
    have e : sU J N U v - sU J N (fun v => U v ∧ f v = 0) v ≤ - lap J N f v := by
      unfold sU lap
      rw [← sumN_sub, ← sumN_neg]
      refine sumN_le (fun w hw => ?_)
      have hj := hJ v w hv hw
      have hfw := hf.1 w hw
      rw [hfv]
      by_cases z1 : U w
      · by_cases z2 : f w = 0
        · rw [ind_t z1, ind_t ⟨z1, z2⟩, z2]; simp
        · rw [ind_t z1, ind_f (fun z => z2 z.2)]
          have : J v w * 1 ≤ J v w * f w := Int.mul_le_mul_of_nonneg_left (by omega) hj
          rw [Int.zero_sub, Int.mul_neg, Int.neg_neg]
          omega
      · rw [ind_f z1, ind_f (fun z => z1 z.1)]
        have := Int.mul_nonneg hj hfw
        rw [Int.zero_sub, Int.mul_neg, Int.neg_neg]
        omega
    have hc' := hc v hv vk
    omega
  · have f1 : ∀ v, v < N → U v → 1 ≤ f v := fun v hv hUv => by
      have := hf.1 v hv
      apply Classical.byContradiction
      intro z
      exact Z ⟨v, hv, hUv, by omega⟩
    have g1 := hf.2.2.2 (fun v => f v - ind (U v)) (fun v hv => by
      have := hf.1 v hv
      by_cases z : U v
      · have := f1 v hv z; rw [ind_t z]; omega
      · rw [ind_f z]; omega) (by rw [hf.2.1, ind_f hK]; rfl) (fun v hv vk hd => by
      dsimp only
      rw [lap_sub]
      have e : lap J N (fun v => ind (U v)) v = ind (U v) * dgr J N v - sU J N U v := by
        unfold lap sU dgr
        rw [← sumN_mul, ← sumN_sub]
        exact sumN_congr (fun w _ => by rw [Int.mul_sub, Int.mul_comm, Int.mul_comm (J v w) (ind (U w))])
      rw [e]
      have st := hf.2.2.1 v hv vk hd
      dsimp only at st
      by_cases z : U v
      · have := fb v hv z
        rw [ind_t z]; omega
      · have : 0 ≤ sU J N U v := sumN_nn (fun w hw => Int.mul_nonneg (ind_bd _).1 (hJ v w hv hw))
        rw [ind_f z]; omega) u hu
    rw [ind_t hU] at g1
    omega
theorem lap_mul (k : Int) (f : Nat → Int) (v : Nat) : lap J N (fun u => k * f u) v = k * lap J N f v := by
  unfold lap
  rw [← sumN_mul]
  exact sumN_congr (fun w _ => by grind)
theorem Cls.mul {c d : Nat → Int} (k : Int) (h : Cls J K N c d) : Cls J K N (fun v => k * c v) (fun v => k * d v) := by
  obtain ⟨g, g0, g1⟩ := h
  exact ⟨fun v => k * g v, by dsimp only; rw [g0, Int.mul_zero], fun v hv hk => by dsimp only; rw [g1 v hv hk, lap_mul, Int.mul_sub]⟩
theorem Cls.add {a b c d : Nat → Int} (h : Cls J K N a b) (h' : Cls J K N c d) : Cls J K N (fun v => a v + c v) (fun v => b v + d v) := by
  obtain ⟨g, g0, g1⟩ := h
  obtain ⟨g', g2, g3⟩ := h'
  exact ⟨fun v => g v + g' v, by dsimp only; rw [g0, g2]; rfl, fun v hv hk => by dsimp only; rw [g1 v hv hk, g3 v hv hk, lap_add]; omega⟩
theorem Stl.cls {c f : Nat → Int} (h : Stl J K N c f) : Cls J K N c (fun v => c v - lap J N f v) := ⟨f, h.2.1, fun _ _ _ => rfl⟩
/-- what a superstable state lacks is recurrent -/
theorem SSt.mir {c : Nat → Int} (hJ : ∀ u w, u < N → w < N → 0 ≤ J u w) (h : SSt J K N c) {d : Nat → Int} (hd : ∀ v, v < N → v ≠ K → d v = dgr J N v - 1 - c v) : Rec J K N d := by
  refine ⟨fun v hv hk => ?_, (AllB.congrK (fun v hv hk => ?_)).mp h.2⟩
  · have := h.stb hJ hv hk
    have := h.1 v hv hk
    rw [hd v hv hk]; omega
  · rw [hd v hv hk]; omega
end
/-- stabilizing a recurrent state with chips added -/
theorem rec_add {b : Sto} (hb : OK b) (hC : Conn b) {c0 f c1 : Nat → Int} (h0 : Rec (Jm b) (nK b) (nN b) c0) (hc : ∀ v, v < nN b → v ≠ nK b → c0 v ≤ b 187 v) (hf : Stl (Jm b) (nK b) (nN b) (b 187) f) (h1 : ∀ v, v < nN b → v ≠ nK b → c1 v = b 187 v - lap (Jm b) (nN b) f v) (hn : ∀ v, v < nN b → v ≠ nK b → 0 ≤ c1 v) : Rec (Jm b) (nK b) (nN b) c1 ∧ Cls (Jm b) (nK b) (nN b) (b 187) c1 := by
  have st := hf.2.2.1
  have dg : ∀ v, v < nN b → v ≠ nK b → 0 < dgr (Jm b) (nN b) v := fun v hv hk => hC.deg hb.1 hv hk
  have nf := nFS.stays hb.1.Jnn dg (Rec.nfs hb.1.Jnn h0.2) hc hf
  refine ⟨⟨fun v hv hk => ⟨hn v hv hk, ?_⟩, ?_⟩, (hf.cls).of (fun _ _ _ => rfl) (fun v hv hk => h1 v hv hk)⟩
  · have := st v hv hk (dg v hv hk)
    dsimp only at this
    rw [h1 v hv hk]; exact this
  · refine (AllB.congrK (fun v hv hk => ?_)).mp (nf.allB hb.1.K)
    rw [h1 v hv hk]
