/-! the factors -/
theorem prodN_congr {f g : Nat → Int} : ∀ {n : Nat}, (∀ i, i < n → f i = g i) → prodN n f = prodN n g
  | 0, _ => rfl
  | n + 1, h => by
    show prodN n f * f n = prodN n g * g n
    rw [prodN_congr (fun i hi => h i (by omega)), h n (by omega)]
theorem trs_of {s q : Sto} (h : ∀ k i, 1 ≤ k → k ≤ 3 → q k i = s k i) : trs q = trs s := by rw [← trs_tau, ← trs_tau, tau_of h]
theorem det_trs {s : Sto} (h : WG s) (hid : ∀ v, v < (s 1 0).toNat → s 14 v = (v : Int)) : det (s 1 0).toNat (LM s 0 (s 1 1).toNat) = trs s := by
  have hn := h.1
  have hm := h.2.1
  obtain ⟨a, b⟩ := lab_zero (s 2) (s 3) (s 1 0).toNat (fun e => (0 : Nat).testBit e = true) hid
  have L : LabP (s 2) (s 3) (s 1 0).toNat (s 1 1).toNat (fun e => (0 : Nat).testBit e = true) (s 14) := ⟨a.1, fun e _ z => no_bit0 z, fun X _ v w hv hw q => by
    rw [hid v hv, hid w hw] at q
    rw [show v = w by omega]⟩
  have b0 : bc 0 (s 1 1).toNat = 0 := sumN_z (fun e _ => by rw [Nat.zero_testBit]; rfl)
  have m := mtt (s 1 1).toNat (w := 0) (B := 0) h L (by omega) (fun e he => no_bit0 he) (fun e he => no_bit0 he) (by omega)
  rw [m, trs_tau]
theorem FwP.g {s s' : Sto} (h : FwP s s') : ∀ k i, 1 ≤ k → k ≤ 13 → s' k i = s k i := fun k i _ _ => h.1 k i (by omega) (by omega)
theorem FwP.lb {s s' : Sto} (hG : WG s) (h : FwP s s') : LbR s' := fun v hv => by
  have e := h.g 1 0 (by decide) (by decide)
  rw [e] at hv ⊢
  rw [h.2.2.1 v hv]
  have := hG.1
  omega
theorem FwP.MA {s s' : Sto} (h : FwP s s') : MA s' (s' 1 0).toNat (LM s' 0 (s' 1 1).toNat) := by
  have e10 := h.g 1 0 (by decide) (by decide)
  have e11 := h.g 1 1 (by decide) (by decide)
  rw [e10, e11]
  exact h.2.2.2
theorem FwP.det {s s' s9 : Sto} {r : Int} (hG : WG s) (h : FwP s s') (h9 : ElP s' (s' 1 0).toNat (LM s' 0 (s' 1 1).toNat) r s9) : r = trs s := by
  have g1 : WG s' := hG.of h.g
  have e10 := h.g 1 0 (by decide) (by decide)
  rw [ElP_det h9 (s := s') (B := 0) (fun i j _ _ => rfl), det_trs g1 (fun v hv => h.2.2.1 v (by rw [← e10]; exact hv))]
  exact trs_of (fun k i h1 h2 => h.g k i h1 (by omega))
noncomputable def ca (N t : Nat) (D : Int) (X : Nat → Nat → Int) : Nat → Nat → Int := @dite _ (∃ Y, CaR N t D X Y) (Classical.propDecidable _) (fun h => Classical.choose h) (fun _ => X)
theorem ca_eq {N t : Nat} {D : Int} {X Y : Nat → Nat → Int} (h : CaR N t D X Y) : ca N t D X = Y := by
  have hx : ∃ Y, CaR N t D X Y := ⟨Y, h⟩
  have e : ca N t D X = Classical.choose hx := dif_pos hx
  rw [e]
  exact (Classical.choose_spec hx).uniq h
noncomputable def sqX (N : Nat) (D : Int) (C : Nat → Nat → Int) : Nat → (Nat → Nat → Int)
  | 0 => C
  | t + 1 => ca N t D (sqX N D C t)
noncomputable def fls (N : Nat) (D : Int) (C : Nat → Nat → Int) : Nat → Nat × (Nat → Int)
  | 0 => (0, fun _ => 0)
  | t + 1 => if 1 < ((Int.gcd (sqX N D C (t + 1) t t) D : Nat) : Int) then ((fls N D C t).1 + 1, fu (fls N D C t).2 (fls N D C t).1 ((Int.gcd (sqX N D C (t + 1) t t) D : Nat) : Int)) else fls N D C t
noncomputable def C0 (s : Sto) : Nat → Nat → Int := fun i j => if i < (s 1 0).toNat ∧ j < (s 1 0).toNat then RLm s i j % trs s else 0
noncomputable def fcC (s : Sto) : Nat := (fls (s 1 0).toNat (trs s) (C0 s) (s 1 0).toNat).1
noncomputable def fcF (s : Sto) : Nat → Int := (fls (s 1 0).toNat (trs s) (C0 s) (s 1 0).toNat).2
theorem RLm_of {s q : Sto} (h : ∀ k i, 1 ≤ k → k ≤ 13 → q k i = s k i) {i : Nat} (hi : i < 8) (j : Nat) : RLm q i j = RLm s i j := by
  unfold RLm
  rw [h 1 2 (by decide) (by decide), h 1 0 (by decide) (by decide), h 13 i (by decide) (by decide), h (5 + i) j (by omega) (by omega)]
theorem C0_of {s q : Sto} (hn : s 1 0 ≤ 8) (h : ∀ k i, 1 ≤ k → k ≤ 13 → q k i = s k i) : C0 q = C0 s := by
  funext i j
  unfold C0
  rw [h 1 0 (by decide) (by decide), trs_of (fun k i h1 h2 => h k i h1 (by omega))]
  by_cases c : i < (s 1 0).toNat ∧ j < (s 1 0).toNat
  · rw [if_pos c, if_pos c, RLm_of h (by omega)]
  · rw [if_neg c, if_neg c]
theorem fc_of {s q : Sto} (hn : s 1 0 ≤ 8) (h : ∀ k i, 1 ≤ k → k ≤ 13 → q k i = s k i) : fcC q = fcC s ∧ fcF q = fcF s := by
  unfold fcC fcF
  rw [C0_of hn h, h 1 0 (by decide) (by decide), trs_of (fun k i h1 h2 => h k i h1 (by omega))]
  exact ⟨rfl, rfl⟩
def FaP (s s' : Sto) : Prop := (∀ k i, k ≠ 14 → k < 42 ∨ k = 44 ∨ 52 < k → s' k i = s k i) ∧ s' 42 1 = (fcC s : Int) ∧ (∀ k, k < fcC s → s' 43 k = fcF s k) ∧ fcC s ≤ 8 ∧ (∀ k, k < fcC s → 2 ≤ fcF s k ∧ fcF s k ≤ trs s) ∧ (∀ k, k + 1 < fcC s → fcF s k ∣ fcF s (k + 1)) ∧ prodN (fcC s) (fcF s) = trs s
theorem k_Ma_findFactors {s : Sto} (h : WG s) (hC : Conn s) : K_Ma_findFactors s (FaP s) := by
  have hn := h.1
  have htp := trs_pos h hC
  have hts := trs_small h
  refine e_Ma_findFactors (fun s1 e1 => ?_)
  have f1 : ∀ k i, k ≠ 42 → s1 k i = s k i := fun k i hk => by rw [e1, up_k hk]
  have g1 : WG s1 := h.of (fun k i _ _ => f1 k i (by omega))
  have t1 : trs s1 = trs s := trs_of (fun k i _ _ => f1 k i (by omega))
  have c1 : s1 42 1 = 0 := by rw [e1, up_eq]
  refine ⟨_, k_Ma_fillWhole g1, fun s4 h4 => ?_⟩
  have g4 : WG s4 := g1.of h4.g
  refine ⟨_, k_Ma_eliminate (by have := g4.1; omega) h4.MA ((RS_LM (s := s4) 0).MB g4 (h4.lb g1)), fun r9 s9 h9 => ?_⟩
  have e9 := h4.det g1 h9
  have g9 : WG s9 := g4.of (fun k i _ _ => h9.1 k i (by omega))
  refine ⟨by omega, fun _ => ⟨_, k_Ma_fillWhole g9, fun s16 h16 => ?_⟩, fun z => absurd z (by omega)⟩
  have g16 : WG s16 := g9.of h16.g
  have t16 : det (s16 1 0).toNat (LM s16 0 (s16 1 1).toNat) = trs s := by
    have a := h16.g 1 0 (by decide) (by decide)
    rw [det_trs g16 (fun v hv => h16.2.2.1 v (by rw [← a]; exact hv)), trs_of (fun k i q1 q2 => h16.g k i q1 (by omega)), trs_of (fun k i q1 q2 => h9.1 k i (by omega)), trs_of (fun k i q1 q2 => h4.g k i q1 (by omega)), t1]
  have hM := h16.MA
  have n10 : s16 1 0 = s 1 0 := by rw [h16.g 1 0 (by decide) (by decide), h9.1 1 0 (by omega), h4.g 1 0 (by decide) (by decide), f1 1 0 (by omega)]
  have hRS := RS_LM (s := s16) 0
  have hlb := h16.lb g9
  have fr16 : ∀ k i, k ≠ 14 → k < 42 ∨ k = 43 ∨ k = 44 ∨ 52 < k → s16 k i = s k i := fun k i q1 q2 => by rw [h16.1 k i q1 q2, h9.1 k i (by omega), h4.1 k i q1 q2, f1 k i (by omega)]
  have c16 : s16 42 1 = 0 := by rw [h16.2.1, h9.1 42 1 (by omega), h4.2.1, c1]
  have AR : ∀ i j, i < (s16 1 0).toNat → j ≤ (s16 1 0).toNat → LM s16 0 (s16 1 1).toNat i j = RLm s i j := fun i j hi hj => by
    have a := h16.g 1 0 (by decide) (by decide)
    rw [LM_id g16 (fun v hv => h16.2.2.1 v (by rw [← a]; exact hv)) hi hj]
    exact RLm_of (fun k x q1 q2 => fr16 k x (by omega) (by omega)) (by omega) j
  have eNs : (s 1 0).toNat = (s16 1 0).toNat := by rw [n10]
  generalize hAA : LM s16 0 (s16 1 1).toNat = A at *
  generalize hNN : (s16 1 0).toNat = N at *
  have bdA : ∀ i j, i < N → j < N → -9223372036854775808 ≤ A i j ∧ A i j < 9223372036854775808 := fun i j hi hj => by
    have := hRS.NN g16 hlb (k := 0) (i := i) (j := j) (by omega) (by omega) (by omega)
    rw [NN_zero] at this
    exact ab_lt this
  rw [t1] at e9
  have D1 : 0 < r9 ∧ r9 < 9223372036854775808 := by omega
  have N8 : N ≤ 8 := by omega
  obtain ⟨m4, mC⟩ := hM
  refine loop_inv (α := Sto) (N := N) (fun i q => (∀ k x, k < 45 ∨ 52 < k → q k x = s16 k x) ∧ ∀ i' j, i' < N → j < N → q (45 + i') j = if i' < i then A i' j % r9 else A i' j) (fun i q => H_Ma_findFactors_27 (FaP s) r9 i q) (fun i q hi hI ih => ?_) (fun q hI => ?_) 0 s16 (by omega) ⟨fun _ _ _ => rfl, fun i' j h1 h2 => by rw [if_neg (by omega)]; exact mC i' j h1 (by omega)⟩
  · obtain ⟨i1, i2⟩ := hI
    have e4 := (i1 42 4 (by omega)).trans m4
    refine b_Ma_findFactors_27 ⟨⟨by omega, by omega⟩, fun c => absurd c (by omega), fun _ => ?_⟩
    refine loop_inv (α := Sto) (N := N) (fun j q => (∀ k x, k < 45 ∨ 52 < k → q k x = s16 k x) ∧ ∀ i' j', i' < N → j' < N → q (45 + i') j' = if i' < i ∨ i' = i ∧ j' < j then A i' j' % r9 else A i' j') (fun j q => H_Ma_findFactors_38 (FaP s) r9 i j q) (fun j q hj hI ih2 => ?_) (fun q hI => ?_) 0 q (by omega) ⟨i1, fun i' j' h1 h2 => by rw [i2 i' j' h1 h2]; exact ite_congr (propext (by omega)) (fun _ => rfl) (fun _ => rfl)⟩
    · obtain ⟨j1, j2⟩ := hI
      have e4 := (j1 42 4 (by omega)).trans m4
      have ev : q (45 + i) j = A i j := by rw [j2 i j hi hj, if_neg (by omega)]
      refine b_Ma_findFactors_38 ⟨⟨by omega, by omega⟩, fun c => absurd c (by omega), fun _ => ⟨by omega, by omega, by omega, ?_⟩⟩
      rw [toNat_n, toNat_n, ev, nat_suc]
      refine ⟨_, k_JM_floorMod (bdA i j hi hj) D1, ?_⟩
      rintro r q1 ⟨rfl, rfl⟩
      refine ⟨by omega, fun q2 e2 => ih2 q2 ⟨fun k x hk => by rw [e2, up_k (by omega)]; exact j1 k x hk, fun i' j' h1 h2 => ?_⟩⟩
      rw [e2, up_wr]
      by_cases c : i' = i
      · subst c
        rw [wr_eq]
        unfold fu
        by_cases d : j' = j
        · rw [if_pos d, if_pos (by omega), d]
        · rw [if_neg d, j2 i' j' h1 h2]
          exact ite_congr (propext (by omega)) (fun _ => rfl) (fun _ => rfl)
      · rw [wr_ne (by omega), j2 i' j' h1 h2]
        exact ite_congr (propext (by omega)) (fun _ => rfl) (fun _ => rfl)
    · obtain ⟨j1, j2⟩ := hI
      have e4 := (j1 42 4 (by omega)).trans m4
      refine b_Ma_findFactors_38 ⟨⟨by omega, by omega⟩, fun _ => ?_, fun c => absurd c (by omega)⟩
      rw [nat_suc]
      exact ih q ⟨j1, fun i' j' h1 h2 => by rw [j2 i' j' h1 h2]; exact ite_congr (propext (by omega)) (fun _ => rfl) (fun _ => rfl)⟩
  · obtain ⟨i1, i2⟩ := hI
    have e4 := (i1 42 4 (by omega)).trans m4
    refine b_Ma_findFactors_27 ⟨⟨by omega, by omega⟩, fun _ => ?_, fun c => absurd c (by omega)⟩
    have cr0 : Cr N q = sqX N r9 (C0 s) 0 := by
      show Cr N q = C0 s
      funext i j
      unfold Cr C0
      rw [eNs, ← e9]
      by_cases c : i < N ∧ j < N
      · rw [if_pos c, if_pos c, i2 i j c.1 c.2, if_pos c.1, AR i j c.1 (by omega)]
      · rw [if_neg c, if_neg c]
    have F0 : DgF N r9 1 0 (Cf q) := by
      refine ⟨fun i j hi hj => ?_, ⟨A, ?_, fun i j hi hj => ?_⟩, fun i j hi => absurd hi (by omega), ⟨r9, by omega⟩, fun i j _ _ _ _ => ⟨_, (Int.one_mul _).symm⟩⟩
      · show 0 ≤ q (45 + i) j ∧ q (45 + i) j < r9
        rw [i2 i j hi hj, if_pos hi]
        exact ⟨Int.emod_nonneg _ (by omega), Int.emod_lt_of_pos _ D1.1⟩
      · rw [t16, ← e9]
        unfold ab
        omega
      · show r9 ∣ A i j - q (45 + i) j
        rw [i2 i j hi hj, if_pos hi]
        exact dvd_mod (by rw [Int.sub_self]; exact Int.dvd_zero _)
    refine loop_inv (α := Sto) (N := N) (fun t a => (∀ k x, k < 42 ∨ k = 44 ∨ 52 < k → a k x = s16 k x) ∧ a 42 4 = (N : Int) ∧ ∃ (g : Int) (c : Nat), DgF N r9 g t (Cf a) ∧ a 42 1 = (c : Int) ∧ c ≤ t ∧ (∀ k, k < c → 2 ≤ a 43 k ∧ a 43 k ∣ r9) ∧ (∀ k, k + 1 < c → a 43 k ∣ a 43 (k + 1)) ∧ (0 < c → a 43 (c - 1) ∣ g) ∧ prodN c (a 43) = prodN t (fun i => ((Int.gcd (a (45 + i) i) r9 : Nat) : Int)) ∧ Cr N a = sqX N r9 (C0 s) t ∧ c = (fls N r9 (C0 s) t).1 ∧ ∀ k, k < c → a 43 k = (fls N r9 (C0 s) t).2 k) (fun t a => H_Ma_findFactors_83 (FaP s) r9 t a) (fun t a ht hI ih => ?_) (fun a hI => ?_) 0 q (by omega) ⟨fun k x hk => i1 k x (by omega), e4, 1, 0, F0, (i1 42 1 (by omega)).trans c16, by omega, fun k hk => absurd hk (by omega), fun k hk => absurd hk (by omega), fun z => absurd z (by omega), rfl, cr0, rfl, fun k hk => absurd hk (by omega)⟩
    · obtain ⟨j1, j2, g, c, j3, j4, j5, j6, j7, j8, j9, ja, jb, jc⟩ := hI
      refine b_Ma_findFactors_83 ⟨⟨by omega, by omega⟩, fun z => absurd z (by omega), fun _ => ⟨_, k_Ma_clearAround j2 N8 ht ⟨D1.1, by omega⟩ j3, fun s25 h25 => ?_⟩⟩
      obtain ⟨k1, k2, k3, k4⟩ := h25
      rw [ja] at k4
      have sq : sqX N r9 (C0 s) (t + 1) = Cr N s25 := ca_eq k4
      have sqt : sqX N r9 (C0 s) (t + 1) t t = s25 (45 + t) t := by rw [sq, Cr_in ht ht]
      have flt : fls N r9 (C0 s) (t + 1) = if 1 < ((Int.gcd (s25 (45 + t) t) r9 : Nat) : Int) then ((fls N r9 (C0 s) t).1 + 1, fu (fls N r9 (C0 s) t).2 (fls N r9 (C0 s) t).1 ((Int.gcd (s25 (45 + t) t) r9 : Nat) : Int)) else fls N r9 (C0 s) t := by
        rw [← sqt]; rfl
      have b25 : 0 ≤ s25 (45 + t) t ∧ s25 (45 + t) t < r9 := k2.1 t t ht ht
      rw [toNat_n, nat_suc]
      refine ⟨by omega, by omega, _, k_Ma_commonDivisor (by omega) (by omega), ?_⟩
      rintro r33 s32 ⟨rfl, rfl⟩
      have gd : ((Int.gcd (s32 (45 + t) t) r9 : Nat) : Int) ∣ r9 := Int.gcd_dvd_right ..
      have gle := Int.le_of_dvd D1.1 gd
      have gpos : 0 < ((Int.gcd (s32 (45 + t) t) r9 : Nat) : Int) := by
        have : Int.gcd (s32 (45 + t) t) r9 ≠ 0 := fun z => by
          rw [z] at gd
          have := Int.zero_dvd.mp gd
          omega
        omega
      have e41 : s32 42 1 = (c : Int) := (k1.1 42 1 (by omega)).trans j4
      have f43 : ∀ k, s32 43 k = a 43 k := fun k => k1.1 43 k (by omega)
      have dg : ∀ i, i < t → s32 (45 + i) i = a (45 + i) i := k1.2
      have pr : prodN (t + 1) (fun i => ((Int.gcd (s32 (45 + i) i) r9 : Nat) : Int)) = prodN c (a 43) * ((Int.gcd (s32 (45 + t) t) r9 : Nat) : Int) := by
        show prodN t (fun i => ((Int.gcd (s32 (45 + i) i) r9 : Nat) : Int)) * _ = _
        rw [j9, prodN_congr (g := fun i => ((Int.gcd (a (45 + i) i) r9 : Nat) : Int)) (fun i hi => by rw [dg i hi])]
      generalize hG : ((Int.gcd (s32 (45 + t) t) r9 : Nat) : Int) = G at *
      have c0 : 0 < c → a 43 (c - 1) ∣ G := fun z => Int.dvd_trans (j8 z) k3
      refine ⟨by omega, fun z => ?_, fun z => ⟨by omega, fun s38 e38 s39 e39 => ?_⟩⟩
      · have G1 : G = 1 := by omega
        rw [if_neg (by omega)] at flt
        refine ih s32 ⟨fun k x hk => by rw [k1.1 k x (by omega)]; exact j1 k x hk, (k1.1 42 4 (by omega)).trans j2, G, c, k2, e41, by omega, fun k hk => by rw [f43]; exact j6 k hk, fun k hk => by rw [f43, f43]; exact j7 k hk, fun q => by rw [f43]; exact c0 q, ?_, sq.symm, by rw [flt]; exact jb, fun k hk => by rw [f43, flt]; exact jc k hk⟩
        rw [pr, prodN_congr (g := a 43) (fun i _ => f43 i), G1, Int.mul_one]
      · rw [e41, toNat_n] at e38
        have v43 : ∀ k, s39 43 k = if k = c then G else a 43 k := fun k => by
          rw [e39, up_k (by omega), e38]
          by_cases d : k = c
          · rw [if_pos d, d, up_eq]
          · rw [if_neg d, up_i d, f43]
        have f39 : ∀ k x, k ≠ 43 → k ≠ 42 → s39 k x = s32 k x := fun k x h1 h2 => by rw [e39, up_k h2, e38, up_k h1]
        have f42 : ∀ x, x ≠ 1 → s39 42 x = s32 42 x := fun x hx => by rw [e39, up_i hx, e38, up_k (by omega)]
        rw [if_pos z] at flt
        have cf : Cf s39 = Cf s32 := funext fun i => funext fun j => f39 (45 + i) j (by omega) (by omega)
        refine ih s39 ⟨fun k x hk => by rw [f39 k x (by omega) (by omega), k1.1 k x (by omega)]; exact j1 k x hk, by rw [f42 4 (by omega), k1.1 42 4 (by omega)]; exact j2, G, c + 1, by rw [cf]; exact k2, ?_, by omega, fun k hk => ?_, fun k hk => ?_, fun _ => ?_, ?_, ?_, ?_, fun k hk => ?_⟩
        · rw [e39, up_eq, e38, up_k (by omega), e41]; rfl
        · rw [v43]
          by_cases d : k = c
          · rw [if_pos d]; exact ⟨by omega, gd⟩
          · rw [if_neg d]; exact j6 k (by omega)
        · rw [v43, v43, if_neg (by omega)]
          by_cases d : k + 1 = c
          · rw [if_pos d]
            have := c0 (by omega)
            rw [show c - 1 = k by omega] at this
            exact this
          · rw [if_neg d]; exact j7 k (by omega)
        · rw [v43, if_pos (by omega)]; exact Int.dvd_refl _
        · rw [prodN_congr (n := t + 1) (g := fun i => ((Int.gcd (s32 (45 + i) i) r9 : Nat) : Int)) (fun i _ => by rw [f39 (45 + i) i (by omega) (by omega)]), pr]
          show prodN c (s39 43) * s39 43 c = _
          rw [v43 c, if_pos rfl, prodN_congr (g := a 43) (fun i hi => by rw [v43, if_neg (by omega)])]
        · rw [sq]
          funext i j
          unfold Cr
          by_cases d : i < N ∧ j < N
          · rw [if_pos d, if_pos d]; exact f39 (45 + i) j (by omega) (by omega)
          · rw [if_neg d, if_neg d]
        · rw [flt, ← jb]
        · rw [flt, v43]
          show _ = fu (fls N r9 (C0 s) t).2 (fls N r9 (C0 s) t).1 G k
          rw [← jb]
          unfold fu
          by_cases d : k = c
          · rw [if_pos d, if_pos d]
          · rw [if_neg d, if_neg d]; exact jc k (by omega)
    · obtain ⟨j1, j2, g, c, j3, j4, j5, j6, j7, j8, j9, ja, jb, jc⟩ := hI
      have cE : c = fcC s := by unfold fcC; rw [← e9, eNs]; exact jb
      have fE : ∀ k, k < c → a 43 k = fcF s k := fun k hk => by unfold fcF; rw [← e9, eNs]; exact jc k hk
      refine b_Ma_findFactors_83 ⟨⟨by omega, by omega⟩, fun _ => ⟨fun k x h1 h2 => ?_, by rw [← cE]; exact j4, fun k hk => fE k (by omega), by omega, fun k hk => ?_, fun k hk => ?_, ?_⟩, fun z => absurd z (by omega)⟩
      · rw [j1 k x h2]
        exact fr16 k x h1 (by omega)
      · have := j6 k (by omega)
        have := Int.le_of_dvd D1.1 this.2
        rw [← fE k (by omega)]
        omega
      · rw [← fE k (by omega), ← fE (k + 1) (by omega)]
        exact j7 k (by omega)
      · rw [← cE, prodN_congr (g := a 43) (fun i hi => (fE i hi).symm), j9, ← e9]
        exact j3.prod D1.1
