/-! the order of a state -/
theorem LM_lap {s : Sto} (h : WG s) (hid : ∀ v, v < (s 1 0).toNat → s 14 v = (v : Int)) {X : Nat → Int} {i : Nat} (hi : i < (s 1 0).toNat) : sumN (s 1 0).toNat (fun j => LM s 0 (s 1 1).toNat i j * X j) = if i = (s 1 2).toNat then X i else lap (Jm s) (s 1 0).toNat X i + Jm s i (s 1 2).toNat * X (s 1 2).toNat := by
  have hn := h.1
  have hK := h.K
  rw [sumN_congr (g := fun j => RLm s i j * X j) (fun j hj => by rw [LM_id h hid hi (by omega)])]
  by_cases c : i = (s 1 2).toNat
  · rw [if_pos c, sumN_congr (g := fun j => if j = i then X i else 0) (fun j hj => by
      unfold RLm
      rw [if_pos (Or.inl c)]
      by_cases d : j = i
      · rw [if_pos d.symm, if_pos d, d, Int.one_mul]
      · rw [if_neg (fun z => d z.symm), if_neg d, Int.zero_mul]), sumN_one _ hi]
  · rw [if_neg c, sumN_congr (g := fun j => (if j = i then s 13 i * X i else 0) - Jm s i j * X j + (if j = (s 1 2).toNat then Jm s i (s 1 2).toNat * X (s 1 2).toNat else 0)) (fun j hj => by
      unfold RLm
      by_cases d : j = (s 1 2).toNat
      · rw [if_pos (Or.inr (Or.inl d)), if_neg (by omega), if_neg (by omega), if_pos d, ← d]
        omega
      · rw [if_neg (by omega), if_neg d]
        by_cases e : i = j
        · subst e
          rw [if_pos rfl, if_pos rfl, h.Jz (by omega)]
          omega
        · rw [if_neg e, if_neg (fun z => e z.symm)]
          show -(Jm s i j) * X j = _
          rw [Int.neg_mul]
          omega), sumN_add, sumN_sub, sumN_one _ hi, sumN_one _ hK]
    have e : lap (Jm s) (s 1 0).toNat X i = dgr (Jm s) (s 1 0).toNat i * X i - sumN (s 1 0).toNat (fun j => Jm s i j * X j) := by
      unfold lap dgr
      rw [← sumN_mulr, ← sumN_sub]
      exact sumN_congr (fun w _ => Int.mul_sub _ _ _)
    rw [e, h.Dg hi]
theorem ord_math {N : Nat} {A : Nat → Nat → Int} {D G : Int} {c y : Nat → Int} (hD : det N A = D) (hD0 : 0 < D) (hG : 0 < G) (hy : ∀ l, l < N → sumN N (fun j => A l j * y j) = c l * D) (h1 : G ∣ D) (h2 : ∀ j, j < N → G ∣ y j) (h3 : ∀ k, (∀ j, j < N → D ∣ k * y j) → D ∣ k * G) (k : Int) : (∃ X : Nat → Int, ∀ l, l < N → sumN N (fun j => A l j * X j) = k * c l) ↔ D / G ∣ k := by
  have eD : D / G * G = D := Int.ediv_mul_cancel h1
  constructor
  · rintro ⟨X, hX⟩
    have u : ∀ i, i < N → D * X i = k * y i := fun i hi => det_uniq (k := N) (A := A) (y := fun i => D * X i) (z := fun i => k * y i) (fun l hl => by
      rw [sumN_congr (g := fun j => D * (A l j * X j)) (fun j _ => by grind), sumN_mul, hX l hl, sumN_congr (f := fun j => A l j * (k * y j)) (g := fun j => k * (A l j * y j)) (fun j _ => by grind), sumN_mul, hy l hl]
      grind) (by omega) hi
    have d := h3 k (fun j hj => ⟨X j, (u j hj).symm⟩)
    rw [← eD] at d
    exact Int.dvd_of_mul_dvd_mul_right (by omega) d
  · rintro ⟨m, hm⟩
    refine ⟨fun j => m * (y j / G), fun l hl => ?_⟩
    have e : G * sumN N (fun j => A l j * (m * (y j / G))) = G * (k * c l) := by
      rw [← sumN_mul, sumN_congr (g := fun j => m * (A l j * y j)) (fun j hj => by
        have := Int.ediv_mul_cancel (h2 j hj)
        generalize y j / G = z at *
        rw [← this]
        grind), sumN_mul, hy l hl, hm]
      generalize D / G = z at *
      rw [← eD]
      grind
    exact Int.eq_of_mul_eq_mul_left (by omega) e
theorem k_Ma_orderOf {k1 : Nat} (hk : ar SC k1 1 8) (hkk : 54 < k1) {s : Sto} (h : WG s) (hC : Conn s) (hc : ∀ v, v < (s 1 0).toNat → v ≠ (s 1 2).toNat → 0 ≤ s k1 v ∧ s k1 v < dgr (Jm s) (s 1 0).toNat v) (hz : s k1 (s 1 2).toNat = 0) : K_Ma_orderOf k1 s (fun r s' => FrM s s' ∧ (0 < r ∧ r ≤ trs s) ∧ r ∣ trs s ∧ ∀ k : Int, Cls (Jm s) (s 1 2).toNat (s 1 0).toNat (fun v => k * s k1 v) (fun _ => 0) ↔ r ∣ k) := by
  have hn := h.1
  have hK := h.K
  have htp := trs_pos h hC
  have hts := trs_small h
  refine e_Ma_orderOf hk ⟨_, k_Ma_fillWhole h, fun s3 h3 => ?_⟩
  have g3 : WG s3 := h.of h3.g
  have lb3 := h3.lb h
  have e10 := h3.g 1 0 (by decide) (by decide)
  have e11 := h3.g 1 1 (by decide) (by decide)
  have e12 := h3.g 1 2 (by decide) (by decide)
  have ek : ∀ i, s3 k1 i = s k1 i := fun i => h3.1 k1 i (by omega) (by omega)
  have hJ : ∀ v w, v < (s 1 0).toNat → w < (s 1 0).toNat → Jm s3 v w = Jm s v w := Jm_of hn h3.g
  have hid : ∀ v, v < (s3 1 0).toNat → s3 14 v = (v : Int) := fun v hv => h3.2.2.1 v (by rw [← e10]; exact hv)
  obtain ⟨m4, mC⟩ := h3.MA
  have hdt := det_trs g3 hid
  rw [trs_of (fun k i q1 q2 => h3.g k i q1 (by omega))] at hdt
  obtain ⟨A, AN, AL⟩ : ∃ A : Nat → Nat → Int, (∀ i, A i (s3 1 0).toNat = s k1 i) ∧ ∀ i j, j < (s3 1 0).toNat → A i j = LM s3 0 (s3 1 1).toNat i j := ⟨fun i j => if j = (s3 1 0).toNat then s k1 i else LM s3 0 (s3 1 1).toNat i j, fun i => if_pos rfl, fun i j hj => if_neg (by omega)⟩
  have bk : ∀ i, i < (s 1 0).toNat → 0 ≤ s k1 i ∧ s k1 i ≤ 20 := fun i hi => by
    by_cases q : i = (s 1 2).toNat
    · rw [q, hz]; omega
    · have := hc i hi q
      have := h.dbd hi
      omega
  have hRS : RS s3 0 A := by
    refine ⟨fun i j hi hj => AL i j hj, fun i hi => ?_⟩
    rw [AN]
    have n0 := SPm_nn s3 0 (s3 1 1).toNat i
    by_cases q : i = (s 1 2).toNat
    · rw [q, hz]; rw [q] at n0; exact n0
    · have fr : fre s3 i = true := (fre_iff s3 i).mpr ⟨hi, hid i hi, by rw [hid _ g3.K]; omega⟩
      have a := LM_id g3 hid hi (j := i) (by omega)
      rw [LM_SP, if_neg (fun z => by rw [fr] at z; cases z.2)] at a
      have b : RLm s3 i i = s3 13 i := by unfold RLm; rw [if_neg (by omega), if_pos rfl]
      rw [b, g3.Dg hi, e10, dgrJ_congr hJ (by omega)] at a
      have := hc i (by omega) q
      unfold ab
      omega
  refine loop_inv (α := Sto) (N := (s3 1 0).toNat) (fun i q => (∀ k x, k < 45 ∨ 52 < k → q k x = s3 k x) ∧ ∀ i' j, i' < (s3 1 0).toNat → j ≤ (s3 1 0).toNat → q (45 + i') j = if i' < i then A i' j else LM s3 0 (s3 1 1).toNat i' j) (fun i q => H_Ma_orderOf_6 _ k1 i q) (fun i q hi hI ih => ?_) (fun q hI => ?_) 0 s3 (by omega) ⟨fun _ _ _ => rfl, fun i' j h1 h2 => by rw [if_neg (by omega)]; exact mC i' j h1 h2⟩
  · obtain ⟨i1, i2⟩ := hI
    have e4 := (i1 42 4 (by omega)).trans m4
    have qk : q k1 i = s k1 i := (i1 k1 i (by omega)).trans (ek i)
    have bki := bk i (by omega)
    refine b_Ma_orderOf_6 hk ⟨⟨by omega, by omega⟩, fun c => absurd c (by omega), fun _ => ⟨by omega, by omega, by rw [toNat_n, qk]; omega, by omega, fun s17 e17 => ?_⟩⟩
    rw [toNat_n, e4, toNat_n, qk] at e17
    rw [nat_suc]
    refine ih s17 ⟨fun k x hk => by rw [e17, up_k (by omega)]; exact i1 k x hk, fun i' j h1 h2 => ?_⟩
    rw [e17, up_wr]
    by_cases c : i' = i
    · subst c
      rw [wr_eq]
      unfold fu
      rw [if_pos (show i' < i' + 1 by omega)]
      by_cases d : j = (s3 1 0).toNat
      · rw [if_pos d, d]; exact (AN i').symm
      · rw [if_neg d, i2 i' j h1 h2, if_neg (by omega)]
        exact (AL i' j (by omega)).symm
    · rw [wr_ne (by omega), i2 i' j h1 h2]
      exact ite_congr (propext (by omega)) (fun _ => rfl) (fun _ => rfl)
  · obtain ⟨i1, i2⟩ := hI
    have e4 := (i1 42 4 (by omega)).trans m4
    have N8 : (s3 1 0).toNat ≤ 8 := by omega
    refine b_Ma_orderOf_6 hk ⟨⟨by omega, by omega⟩, fun _ => ?_, fun c => absurd c (by omega)⟩
    refine ⟨_, k_Ma_eliminate (A := A) N8 ⟨e4, fun i j hi hj => by rw [i2 i j hi hj, if_pos hi]⟩ (hRS.MB g3 lb3), fun r11 s10 h10 => ?_⟩
    have er : r11 = trs s := (ElP_det h10 (s := s3) (B := 0) (fun i j hi hj => AL i j hj)).trans hdt
    obtain ⟨f10, h10⟩ := h10
    obtain ⟨d1, d2, d3⟩ := h10.resolve_left (fun z => by omega)
    have e410 : s10 42 4 = ((s3 1 0).toNat : Int) := (f10 42 4 (by omega)).trans e4
    have dA : det (s3 1 0).toNat A = trs s := d1.symm.trans er
    have y3 : ∀ i, i < (s3 1 0).toNat → s10 (45 + i) (s3 1 0).toNat = NN A (s3 1 0).toNat i (s3 1 0).toNat := fun i hi => d3 i _ hi (Nat.le_refl _)
    have yb : ∀ i, i < (s3 1 0).toNat → ab (NN A (s3 1 0).toNat i (s3 1 0).toNat) < 500000000 := fun i hi => hRS.NN g3 lb3 (Nat.le_refl _) hi (Nat.le_refl _)
    have fr : FrM s s10 := by
      refine ⟨fun k i h1 h2 => ?_, ?_⟩
      · rw [f10 k i (by omega), i1 k i (by omega), h3.1 k i h1 h2]
      · rw [f10 42 1 (by omega), i1 42 1 (by omega), h3.2.1]
    rw [er]
    generalize hNN : (s3 1 0).toNat = N at *
    have sy : ∀ l, l < N → sumN N (fun j => A l j * NN A N j N) = s k1 l * trs s := fun l hl => by
      rw [NN_sum hl, dA]
      rw [AN]
    generalize hY : (fun i => NN A N i N) = Y at *
    have eY : ∀ i, NN A N i N = Y i := fun i => by rw [← hY]
    refine loop_inv (α := Int) (N := N) (fun i G => 0 < G ∧ G ∣ trs s ∧ (∀ j, j < i → G ∣ Y j) ∧ ∀ k, (∀ j, j < i → trs s ∣ k * Y j) → trs s ∣ k * G) (fun i G => H_Ma_orderOf_46 _ (trs s) G i s10) (fun i G hi hI ih => ?_) (fun G hI => ?_) 0 (trs s) (by omega) ⟨htp, Int.dvd_refl _, fun j hj => absurd hj (by omega), fun k _ => Int.dvd_mul_left _ _⟩
    · obtain ⟨j1, j2, j3, j4⟩ := hI
      have gl := Int.le_of_dvd htp j2
      have yi := yb i hi
      rw [eY] at yi
      have yl := ab_lt yi
      refine b_Ma_orderOf_46 ⟨⟨by omega, by omega⟩, fun c => absurd c (by omega), fun _ => ⟨by omega, by omega, ?_⟩⟩
      rw [toNat_n, e410, toNat_n, y3 i hi, eY, nat_suc]
      refine ⟨_, k_Ma_commonDivisor (by omega) (by unfold ab at yi; omega), ?_⟩
      rintro r s27 ⟨rfl, rfl⟩
      have q1 : ((Int.gcd G (Y i) : Nat) : Int) ∣ G := Int.gcd_dvd_left ..
      have q2 : ((Int.gcd G (Y i) : Nat) : Int) ∣ Y i := Int.gcd_dvd_right ..
      refine ih _ ⟨?_, Int.dvd_trans q1 j2, fun j hj => ?_, fun k hk => ?_⟩
      · have : Int.gcd G (Y i) ≠ 0 := fun z => by
          rw [z] at q1
          have := Int.zero_dvd.mp q1
          omega
        omega
      · by_cases c : j = i
        · rw [c]; exact q2
        · exact Int.dvd_trans q1 (j3 j (by omega))
      · have a := j4 k (fun j hj => hk j (by omega))
        have b := hk i (by omega)
        have c := Int.dvd_coe_gcd a b
        rw [Int.gcd_mul_left, Int.natCast_mul] at c
        have d : ((k.natAbs : Nat) : Int) * ((Int.gcd G (Y i) : Nat) : Int) ∣ k * ((Int.gcd G (Y i) : Nat) : Int) := Int.mul_dvd_mul (Int.natAbs_dvd.mpr (Int.dvd_refl k)) (Int.dvd_refl _)
        exact Int.dvd_trans c d
    · obtain ⟨j1, j2, j3, j4⟩ := hI
      have gl := Int.le_of_dvd htp j2
      have td : Int.tdiv (trs s) G = trs s / G := Int.tdiv_eq_ediv_of_nonneg (by omega)
      have ec : trs s / G * G = trs s := Int.ediv_mul_cancel j2
      have ep : 0 < trs s / G := Int.ediv_pos_of_pos_of_dvd htp (by omega) j2
      have el : trs s / G ≤ trs s := Int.ediv_le_self _ (by omega)
      refine b_Ma_orderOf_46 ⟨⟨by omega, by omega⟩, fun _ => ⟨by omega, fun _ => ⟨⟨⟨by omega, by omega⟩, by omega⟩, ?_⟩, fun c => absurd c (by omega)⟩, fun c => absurd c (by omega)⟩
      rw [td]
      refine ⟨fr, ⟨ep, el⟩, ⟨G, ec.symm⟩, fun k => ?_⟩
      rw [← ord_math (c := fun l => s k1 l) (y := Y) dA htp j1 (fun l hl => by
        rw [← sy l hl]
        exact sumN_congr (fun j _ => by rw [eY])) j2 j3 j4 k]
      have rowA : ∀ (X : Nat → Int) l, l < N → sumN N (fun j => A l j * X j) = if l = (s 1 2).toNat then X l else lap (Jm s) N X l + Jm s l (s 1 2).toNat * X (s 1 2).toNat := fun X l hl => by
        have a := LM_lap g3 (by rw [hNN]; exact hid) (X := X) (i := l) (by omega)
        rw [hNN, e12, hJ l _ (by omega) (by omega)] at a
        have b : lap (Jm s3) N X l = lap (Jm s) N X l := sumN_congr (fun w hw => by rw [hJ l w (by omega) (by omega)])
        rw [b] at a
        rw [← a]
        exact sumN_congr (fun j hj => by rw [AL l j hj])
      have eN : (s 1 0).toNat = N := by omega
      rw [eN]
      constructor
      · rintro ⟨g, g0, g1⟩
        refine ⟨g, fun l hl => ?_⟩
        rw [rowA g l hl]
        by_cases c : l = (s 1 2).toNat
        · rw [if_pos c, c, g0, hz, Int.mul_zero]
        · have := g1 l hl c
          dsimp only at this
          rw [if_neg c, g0, Int.mul_zero]
          omega
      · rintro ⟨X, hX⟩
        have x0 : X (s 1 2).toNat = 0 := by
          have := hX (s 1 2).toNat (by omega)
          rw [rowA X _ (by omega), if_pos rfl, hz, Int.mul_zero] at this
          exact this
        refine ⟨X, x0, fun v hv hvk => ?_⟩
        have := hX v hv
        rw [rowA X v hv, if_neg hvk, x0, Int.mul_zero] at this
        dsimp only
        omega
