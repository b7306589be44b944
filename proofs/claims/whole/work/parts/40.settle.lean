/-! stabilizing -/
/-- chips: none at the sink or behind the nodes, at most B in all -/
def ChOK (s : Sto) (k : Nat) (B : Int) : Prop := (∀ v, v < 8 → 0 ≤ s k v) ∧ (∀ v : Nat, v < 8 → ((v : Int) = s 1 2 ∨ s 1 0 ≤ v) → s k v = 0) ∧ sumN 8 (s k) ≤ B
theorem sum8 {f : Nat → Int} {N : Nat} (hN : N ≤ 8) (h : ∀ v, v < 8 → N ≤ v → f v = 0) : sumN 8 f = sumN N f := by
  have e := sumN_split (a := N) (b := 8 - N) f
  rw [show N + (8 - N) = 8 by omega] at e
  rw [e, sumN_z (n := 8 - N) (fun i hi => h (N + i) (by omega) (by omega))]
  omega
theorem ChOK.bd {s : Sto} {k : Nat} {B : Int} (h : ChOK s k B) {v : Nat} (hv : v < 8) : 0 ≤ s k v ∧ s k v ≤ B := by
  have := sumN_ge (n := 8) (f := s k) (fun i hi => h.1 i hi) hv
  have := h.2.2
  have := h.1 v hv
  omega
theorem k_Fi_fireWhilePossible {k : Nat} (hk : ar SC k 1 8) (hkk : 41 < k) {v : Nat} {s : Sto} (h : WG s) (hv : v < (s 1 0).toNat) (hc : R32 (s k v)) : K_Fi_fireWhilePossible k v s (fun r s' => r = 0 ∧ s' = s ∧ ¬ (v ≠ (s 1 2).toNat ∧ 0 < dgr (Jm s) (s 1 0).toNat v ∧ dgr (Jm s) (s 1 0).toNat v ≤ s k v) ∨ (v ≠ (s 1 2).toNat ∧ 0 < dgr (Jm s) (s 1 0).toNat v ∧ dgr (Jm s) (s 1 0).toNat v ≤ s k v) ∧ r = s k v / dgr (Jm s) (s 1 0).toNat v ∧ s' = wr (wr s k (giveF s v r (s k))) 41 (fu (s 41) v (s 41 v + r))) := by
  have hK := h.2.2.1
  have hn := h.1
  have hx : R32 (v : Int) := by unfold R32; omega
  have hd := h.D (v := v) (by omega)
  have hD := h.Dg hv
  unfold R32 at hc
  refine e_Fi_fireWhilePossible hk ⟨_, k_Gr_degreeOf h.1 hx, ?_⟩
  rintro r s' ⟨rfl, hr⟩
  refine ⟨_, k_Fi_canFire hk h (by omega) hc, ?_⟩
  rintro r2 s' ⟨rfl, hr2⟩
  rw [toNat_n] at hr ⊢
  refine ⟨by omega, fun c => Or.inl ⟨rfl, rfl, fun z => ?_⟩, fun c => ⟨by omega, fun c2 => ⟨by omega, ⟨by omega, by omega⟩, ?_⟩, fun c2 => absurd c2 (by omega)⟩⟩
  · have := hr2.resolve_left (fun z => by omega)
    exact this.2 ⟨by omega, by omega, by omega, by omega⟩
  · have h1 := hr2.resolve_right (fun z => c z.1)
    have er : r = dgr (Jm s') (s' 1 0).toNat v := by omega
    rw [er]
    have et : Int.tdiv (s' k v) (dgr (Jm s') (s' 1 0).toNat v) = s' k v / dgr (Jm s') (s' 1 0).toNat v := Int.tdiv_eq_ediv_of_nonneg (by omega)
    rw [et]
    refine ⟨_, k_Fi_give hk (by omega) h hv, ?_⟩
    rintro s1 rfl
    refine ⟨by omega, by omega, fun s2 e2 => Or.inr ⟨⟨by omega, by omega, by omega⟩, rfl, ?_⟩⟩
    rw [e2, up_wr, wr_ne (by omega)]
    congr 1
    funext i
    unfold fu
    rw [wr_ne (by omega)]
/-- where stabilizing stands -/
def SI (s : Sto) (k : Nat) (q : Sto) : Prop := (∀ k' i, k' ≠ k → k' ≠ 41 → q k' i = s k' i) ∧ (∀ v, v < 8 → 0 ≤ q k v) ∧ (∀ v : Nat, v < 8 → ((v : Int) = s 1 2 ∨ s 1 0 ≤ v) → q k v = 0) ∧ sumN (s 1 0).toNat (q k) ≤ sumN (s 1 0).toNat (s k) ∧
  (∀ v : Nat, v < (s 1 0).toNat → v ≠ (s 1 2).toNat → q k v = s k v - lap (Jm s) (s 1 0).toNat (q 41) v) ∧ (∀ v : Nat, v < (s 1 0).toNat → 0 ≤ q 41 v) ∧ q 41 (s 1 2).toNat = 0 ∧ LAP (Jm s) (s 1 2).toNat (s 1 0).toNat (s k) (q 41)
theorem giveF_sum {s : Sto} (h : WG s) {v : Nat} {t : Int} {c : Nat → Int} (hv : v < (s 1 0).toNat) (ht : 0 ≤ t) : sumN (s 1 0).toNat (giveF s v t c) ≤ sumN (s 1 0).toNat c := by
  have e : sumN (s 1 0).toNat (giveF s v t c) = sumN (s 1 0).toNat c - t * dgr (Jm s) (s 1 0).toNat v + sumN (s 1 0).toNat (fun i => if i < (s 1 0).toNat ∧ i ≠ (s 1 2).toNat then t * Jm s v i else 0) := by
    unfold giveF
    rw [sumN_add, sumN_sub, sumN_one _ hv]
  have h2 : sumN (s 1 0).toNat (fun i => if i < (s 1 0).toNat ∧ i ≠ (s 1 2).toNat then t * Jm s v i else 0) ≤ t * dgr (Jm s) (s 1 0).toNat v := by
    unfold dgr
    rw [← sumN_mul]
    refine sumN_le (fun i hi => ?_)
    have := Int.mul_nonneg ht (h.Jnn v i hv hi)
    split <;> omega
  omega
theorem SI.step {s q : Sto} {k v : Nat} {t : Int} (hkk : 41 < k) (h : WG s) (hI : SI s k q) (hv : v < (s 1 0).toNat) (hK : v ≠ (s 1 2).toNat) (hD : 0 < dgr (Jm s) (s 1 0).toNat v) (ht : 0 ≤ t) (htD : t * dgr (Jm s) (s 1 0).toNat v ≤ q k v) : SI s k (wr (wr q k (giveF s v t (q k))) 41 (fu (q 41) v (q 41 v + t))) := by
  obtain ⟨i1, i2, i3, i4, i5, i6, i7, i8⟩ := hI
  have hn := h.1
  have hk2 := h.2.2.1
  have ek : ∀ i, wr (wr q k (giveF s v t (q k))) 41 (fu (q 41) v (q 41 v + t)) k i = giveF s v t (q k) i := fun i => by rw [wr_ne (by omega), wr_eq]
  have e41 : wr (wr q k (giveF s v t (q k))) 41 (fu (q 41) v (q 41 v + t)) 41 = fu (q 41) v (q 41 v + t) := funext fun i => wr_eq _ _ _ _
  have hg : ∀ i, i < (s 1 0).toNat → i ≠ (s 1 2).toNat → giveF s v t (q k) i = q k i - (if i = v then t * dgr (Jm s) (s 1 0).toNat v else - (t * Jm s i v)) := fun i hi hik => by
    unfold giveF
    rw [if_pos (⟨hi, hik⟩ : i < (s 1 0).toNat ∧ i ≠ (s 1 2).toNat)]
    by_cases d : i = v
    · subst d
      rw [if_pos rfl, if_pos rfl, h.Jz (by omega)]
      simp
    · rw [if_neg d, if_neg d, h.Jsym v i hv hi]
      omega
  refine ⟨fun k' i h1 h2 => by rw [wr_ne h2, wr_ne h1]; exact i1 k' i h1 h2, fun u hu => ?_, fun u hu hz => ?_, ?_, fun u hu huk => ?_, fun u hu => ?_, ?_, ?_⟩
  · rw [ek]
    have := i2 u hu
    by_cases d : u < (s 1 0).toNat ∧ u ≠ (s 1 2).toNat
    · rw [hg u d.1 d.2]
      by_cases d2 : u = v
      · rw [if_pos d2, d2]; omega
      · rw [if_neg d2]
        have := Int.mul_nonneg ht (h.Jnn u v d.1 hv)
        omega
    · unfold giveF
      rw [if_neg d, if_neg (fun z => d (by rw [z]; exact ⟨hv, hK⟩))]
      omega
  · rw [ek]
    unfold giveF
    rw [if_neg (by omega), if_neg (by omega), i3 u hu hz]
    rfl
  · rw [show wr (wr q k (giveF s v t (q k))) 41 (fu (q 41) v (q 41 v + t)) k = giveF s v t (q k) from funext ek]
    have := giveF_sum (c := q k) h hv ht
    omega
  · rw [ek, e41, hg u hu huk, i5 u hu huk, lap_fu hv (h.Jz (by omega))]
    omega
  · rw [e41]
    unfold fu
    have := i6 v hv
    have := i6 u hu
    split <;> omega
  · rw [e41, fu_ne (fun z => hK z.symm)]; exact i7
  · rw [e41]
    refine i8.step h.Jnn hv hK hD ?_
    rw [← i5 v hv hK]
    exact htD
theorem SI.bound {s q : Sto} {k : Nat} {B : Int} (h : WG s) (hC : Conn s) (hc : ChOK s k B) (hB : 0 ≤ B) (hI : SI s k q) : sumN (s 1 0).toNat (q 41) ≤ 56 * B := by
  obtain ⟨i1, i2, i3, i4, i5, i6, i7, i8⟩ := hI
  have hn := h.1
  have e8 := sum8 (f := s k) (N := (s 1 0).toNat) (by omega) (fun v hv h1 => hc.2.1 v hv (Or.inr (by omega)))
  have h1 : ∀ v, v < (s 1 0).toNat → q 41 v ≤ ((s 1 0).toNat - 1) * B := fun v hv => fire_bound (c := s k) h.Jnn h.Jsym (hC.cut h) h.K i7 (fun u hu => hc.1 u (by omega)) (by rw [← e8]; exact hc.2.2) (fun u hu huk => by
    have := i5 u hu huk
    have := i2 u (by omega)
    omega) hv
  have h2 := sumN_le (n := (s 1 0).toNat) (f := q 41) (g := fun _ => 7 * B) (fun v hv => by
    have := h1 v hv
    have h3 : (((s 1 0).toNat : Int) - 1) * B ≤ 7 * B := Int.mul_le_mul_of_nonneg_right (by omega) hB
    omega)
  rw [sumN_const] at h2
  have h4 : ((s 1 0).toNat : Int) * (7 * B) ≤ 8 * (7 * B) := Int.mul_le_mul_of_nonneg_right (by omega) (by omega)
  omega
/-- what stabilizing leaves -/
def SetP (s : Sto) (k : Nat) (s' : Sto) (r : Int) : Prop := SI s k s' ∧ Stb (Jm s) (s 1 2).toNat (s 1 0).toNat (s' k) ∧ r = sumN (s 1 0).toNat (s' 41)
theorem k_Fi_settle {k : Nat} (hk : ar SC k 1 8) (hkk : 41 < k) {s : Sto} (h : WG s) (hC : Conn s) (hc : ChOK s k 17000) : K_Fi_settle k s (fun r s' => SetP s k s' r) := by
  have hK := h.2.2.1
  have hn := h.1
  refine e_Fi_settle hk ⟨_, k_Cg_clearChips arSC_41, ?_⟩
  rintro s0 rfl
  have hJe : ∀ q, SI s k q → WG q ∧ q 1 0 = s 1 0 ∧ q 1 2 = s 1 2 := fun q hI => ⟨h.of (fun k' i h1 h2 => hI.1 k' i (by omega) (by omega)), hI.1 1 0 (by omega) (by omega), hI.1 1 2 (by omega) (by omega)⟩
  have h0 : SI s k (wr s 41 (cut (fun _ => 0) (s 41))) := by
    have ek : wr s 41 (cut (fun _ => 0) (s 41)) k = s k := funext fun i => wr_ne (by omega)
    have e41 : ∀ v, v < 8 → wr s 41 (cut (fun _ => 0) (s 41)) 41 v = 0 := fun v hv => by rw [wr_eq, cut_lt hv]
    refine ⟨fun k' i _ h2 => wr_ne h2, fun v hv => by rw [ek]; exact hc.1 v hv, fun v hv hz => by rw [ek]; exact hc.2.1 v hv hz, by rw [ek]; exact Int.le_refl _, fun v hv hvk => ?_, fun v hv => by rw [e41 v (by omega)]; exact Int.le_refl _, e41 _ (by omega), ?_⟩
    · rw [ek, lap_congr (g := fun _ => 0) (fun u hu => e41 u (by omega)) hv, lap_zero]; omega
    · intro g h1 h2 h3 v hv
      rw [e41 v (by omega)]
      exact h1 v hv
  have hout := loop_wf (α := Int × Int × Int × Sto) (fun a => SI s k a.2.2.2 ∧ a.1 = sumN (s 1 0).toNat (a.2.2.2 41) ∧ 0 ≤ a.2.1 ∧ R32 a.2.1 ∧ (a.2.1 = 0 → Stb (Jm s) (s 1 2).toNat (s 1 0).toNat (a.2.2.2 k)) ∧ 0 ≤ a.2.2.1 ∧ a.2.2.1 ≤ a.1 + (if a.2.1 = 0 then 1 else 0)) (fun a => H_Fi_settle_14 (fun r s' => SetP s k s' r) k a.1 a.2.1 a.2.2.1 a.2.2.2) (fun a => (2 * (952000 - a.1) + (if a.2.1 = 0 then 0 else 1)).toNat) ?_ (0, 1, 0, wr s 41 (cut (fun _ => 0) (s 41))) ⟨h0, ?_, (show (0 : Int) ≤ 1 by decide), (show R32 1 by decide), fun z => absurd (show (1 : Int) = 0 from z) (by decide), (show (0 : Int) ≤ 0 by decide), (show (0 : Int) ≤ 0 + (if (1 : Int) = 0 then 1 else 0) by decide)⟩
  · exact hout
  · rintro ⟨all, fired, sweep, q⟩ ⟨hI, ha, hf, hfr, hst, hsw, hsb⟩ ih
    dsimp only at *
    have hbd := hI.bound h hC hc (by decide)
    rw [← ha] at hbd
    have ha0 : 0 ≤ all := by rw [ha]; exact sumN_nn (fun v hv => hI.2.2.2.2.2.1 v hv)
    refine b_Fi_settle_14 hk ⟨hfr, fun c => ⟨hI, hst (by omega), ha⟩, fun c => ?_⟩
    rw [if_neg (by omega)] at hsb
    refine ⟨by omega, fun c2 => absurd c2 (by omega), fun _ => ?_⟩
    refine loop_inv (α := Int × Sto) (N := (s 1 0).toNat) (fun j a => SI s k a.2 ∧ all + a.1 = sumN (s 1 0).toNat (a.2 41) ∧ 0 ≤ a.1 ∧ (a.1 = 0 → ∀ v : Nat, v < j → v ≠ (s 1 2).toNat → 0 < dgr (Jm s) (s 1 0).toNat v → a.2 k v < dgr (Jm s) (s 1 0).toNat v)) (fun j a => H_Fi_settle_30 (fun r s' => SetP s k s' r) k all a.1 sweep j a.2) (fun j a hj hJ ih2 => ?_) (fun a hJ => ?_) 0 (0, q) (by omega) ⟨hI, by show all + 0 = sumN (s 1 0).toNat (q 41); omega, Int.le_refl 0, fun _ v hv => absurd hv (by omega)⟩
    · obtain ⟨x, p⟩ := a
      obtain ⟨j1, j2, j3, j4⟩ := hJ
      dsimp only at *
      obtain ⟨hp, p0, p2⟩ := hJe p j1
      have hJm : ∀ u w, u < (s 1 0).toNat → w < (s 1 0).toNat → Jm p u w = Jm s u w := fun u w hu hw => j1.1 (5 + u) w (by omega) (by omega)
      have hdg : dgr (Jm p) (s 1 0).toNat j = dgr (Jm s) (s 1 0).toNat j := sumN_congr (fun w hw => hJm j w hj hw)
      have hpk : R32 (p k j) := by
        have h1 := j1.2.1 j (by omega)
        have h2 := sumN_ge (n := (s 1 0).toNat) (f := p k) (fun i hi => j1.2.1 i (by omega)) hj
        have h3 := j1.2.2.2.1
        have h4 := hc.2.2
        have h5 := sum8 (f := s k) (N := (s 1 0).toNat) (by omega) (fun v hv h1 => hc.2.1 v hv (Or.inr (by omega)))
        unfold R32
        omega
      refine b_Fi_settle_30 hk ⟨by omega, fun c => absurd c (by omega), fun _ => ⟨_, k_Fi_fireWhilePossible hk hkk hp (by omega) hpk, ?_⟩⟩
      intro r s' hr
      rw [p0, p2, hdg] at hr
      rw [nat_suc]
      rcases hr with ⟨rfl, rfl, hr⟩ | ⟨⟨hr1, hr2, hr3⟩, hr4, hr5⟩
      · refine ih2 (x + 0, s') ⟨j1, by show all + (x + 0) = sumN (s 1 0).toNat (s' 41); omega, by show 0 ≤ x + 0; omega, fun z v hv h1 h2 => ?_⟩
        have z : x + 0 = 0 := z
        show s' k v < _
        by_cases e : v = j
        · subst e
          apply Classical.byContradiction
          intro c9
          exact hr ⟨h1, h2, by omega⟩
        · exact j4 (by omega) v (by omega) h1 h2
      · have ht1 : 1 ≤ r := by rw [hr4]; exact (Int.le_ediv_iff_mul_le hr2).mpr (by omega)
        have ht2 : r * dgr (Jm s) (s 1 0).toNat j ≤ p k j := by rw [hr4]; exact Int.ediv_mul_le _ (by omega)
        have eg : giveF p j r (p k) = giveF s j r (p k) := by
          funext i
          unfold giveF
          rw [p0, p2, hdg]
          congr 1
          by_cases d : i < (s 1 0).toNat ∧ i ≠ (s 1 2).toNat
          · rw [if_pos d, if_pos d, hJm j i hj d.1]
          · rw [if_neg d, if_neg d]
        rw [eg] at hr5
        have hS := j1.step hkk h hj hr1 hr2 (by omega) ht2
        rw [← hr5] at hS
        have hsum : sumN (s 1 0).toNat (s' 41) = sumN (s 1 0).toNat (p 41) + r := by
          rw [hr5, show wr (wr p k (giveF s j r (p k))) 41 (fu (p 41) j (p 41 j + r)) 41 = fu (p 41) j (p 41 j + r) from funext fun i => wr_eq _ _ _ _]
          rw [sumN_up (f := p 41) (g := fu (p 41) j (p 41 j + r)) hj (fun i _ hi => fu_ne hi), fu_eq]
          omega
        refine ih2 (x + r, s') ⟨hS, by show all + (x + r) = sumN (s 1 0).toNat (s' 41); omega, by show 0 ≤ x + r; omega, fun z => ?_⟩
        have z : x + r = 0 := z
        omega
    · obtain ⟨x, p⟩ := a
      obtain ⟨j1, j2, j3, j4⟩ := hJ
      dsimp only at *
      obtain ⟨hp, p0, p2⟩ := hJe p j1
      have hbd2 := j1.bound h hC hc (by decide)
      refine b_Fi_settle_30 hk ⟨by omega, fun _ => ?_, fun c => absurd c (by omega)⟩
      refine ih (all + x, x, sweep + 1, p) ⟨j1, j2, j3, ?_, fun z v hv => j4 z v hv, ?_, ?_⟩ ?_
      · unfold R32; dsimp only; omega
      · dsimp only; omega
      · dsimp only; split <;> omega
      · dsimp only; split <;> split <;> omega
  · have e41 : ∀ v, v < 8 → wr s 41 (cut (fun _ => 0) (s 41)) 41 v = 0 := fun v hv => by rw [wr_eq, cut_lt hv]
    exact (sumN_z (fun v hv => e41 v (by omega))).symm
