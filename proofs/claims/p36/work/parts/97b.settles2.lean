/-! the law's settling: the machine -/
theorem StI.ch {b q : Sto} {x8 : Int} (hb : OK b) (hT : sumN 8 (b 187) ≤ 2000) {f : Nat → Int} (hf : Stl (Jm b) (nK b) (nN b) (b 187) f) (h : StI b q x8) : (∀ v, v < nN b → 0 ≤ q 193 v ∧ q 193 v ≤ f v) ∧ q 193 (nK b) = 0 ∧ (∀ v, v < nN b → v ≠ nK b → q 187 v = b 187 v - lap (Jm b) (nN b) (q 193) v) ∧ Stl (Jm b) (nK b) (nN b) (q 187) (fun v => f v - q 193 v) := by
  obtain ⟨h1, h2, g, ⟨i1, i2, i3, i4, i5, i6, i7, i8⟩, h4, h5, h6⟩ := h
  have hK : nK b < nN b := hb.1.K
  have n8 := nN_8 hb
  have a1 : ∀ v, v < nN b → 0 ≤ q 193 v ∧ q 193 v ≤ f v := fun v hv => by
    rw [h5 v hv]
    exact ⟨i6 v hv, i8 f hf.1 hf.2.1 hf.2.2.1 v hv⟩
  have a2 : q 193 (nK b) = 0 := by rw [h5 _ hK]; exact i7
  have a3 : ∀ v, v < nN b → v ≠ nK b → q 187 v = b 187 v - lap (Jm b) (nN b) (q 193) v := fun v hv hk => by
    rw [h4 v (by omega), i5 v hv hk, lap_congr (f := q 193) (g := g 41) h5 hv]
  refine ⟨a1, a2, a3, ?_⟩
  have p := hf.part (d := q 193) (fun v hv => (a1 v hv).1) a2 (fun v hv => (a1 v hv).2)
  exact p.congrK (fun v hv hk => (a3 v hv hk).symm)
theorem StI.fire {b q q' q'' : Sto} {x8 : Int} {v : Nat} (hb : OK b) (hT : sumN 8 (b 187) ≤ 2000) (h : StI b q x8) (hv : v < nN b) (hk : v ≠ nK b) (hd : 0 < dgr (Jm b) (nN b) v ∧ dgr (Jm b) (nN b) v ≤ q 187 v) (U : UpP q q') (hi : Ah q q') (v3 : ∀ w, w < 8 → q' 187 w = giveF q v 1 (q 187) w) (e : q'' = up q' 193 v (q' 193 v + 1)) : StI b q'' (x8 + 1) := by
  obtain ⟨h1, h2, g, hI, h4, h5, h6⟩ := h
  have n8 := nN_8 hb
  have hn := hb.1.1
  have hK : nK b < nN b := hb.1.K
  have hI2 := hI.step (t := 1) (by decide) hb.1 hv hk hd.1 (by decide) (by rw [Int.one_mul, ← h4 v (by omega)]; exact hd.2)
  have e10 := h1.g 1 0 (by decide) (by decide)
  have e12 := h1.g 1 2 (by decide) (by decide)
  have hJ := h1.J hb
  have n1 := h1.N
  have k1 := h1.K
  have gv : ∀ w, w < 8 → q' 187 w = giveF b v 1 (g 187) w := fun w hw => by
    rw [v3 w hw]
    unfold giveF
    rw [e10, e12, h4 w hw, dgrJ_congr hJ hv]
    congr 1
    by_cases c : w < (b 1 0).toNat ∧ w ≠ (b 1 2).toNat
    · rw [if_pos c, if_pos c, hJ v w hv c.1]
    · rw [if_neg c, if_neg c]
  have s193 : ∀ w, q'' 193 w = fu (q 193) v (q 193 v + 1) w := fun w => by
    rw [e, up_wr, wr_eq]
    unfold fu
    rw [hi 193 v (by decide), hi 193 w (by decide)]
  have S2 : SameG b q'' := fun k i hk' => by rw [e, up_k (by omega), U.1 k i hk', h1 k i hk']
  have c'' : ∀ w, q'' 187 w = q' 187 w := fun w => by rw [e, up_k (by decide)]
  have ghost : ∀ w, wr (wr g 187 (giveF b v 1 (g 187))) 41 (fu (g 41) v (g 41 v + 1)) 187 w = giveF b v 1 (g 187) w := fun w => by rw [wr_ne (by decide), wr_eq]
  have hch : ChB q' (q' 187) := by
    obtain ⟨j1, j2, j3, j4, j5, j6, j7, j8⟩ := hI2
    have tot := sumN_le (n := nN b) (f := b 187) (g := b 187) (fun _ _ => Int.le_refl _)
    have e8 : sumN 8 (b 187) = sumN (nN b) (b 187) := sum8 n8.2 (fun w hw hz => R_sum hb hw (fun y => by omega))
    refine ⟨fun w hw => ⟨?_, ?_⟩, fun w hw hz => ?_⟩
    · rw [gv w hw, ← ghost]; exact j2 w hw
    · rw [gv w hw, ← ghost]
      by_cases c : w < nN b
      · have := sumN_ge (n := nN b) (f := wr (wr g 187 (giveF b v 1 (g 187))) 41 (fu (g 41) v (g 41 v + 1)) 187) (fun i hi => j2 i (by omega)) c
        have j4' : sumN (nN b) (wr (wr g 187 (giveF b v 1 (g 187))) 41 (fu (g 41) v (g 41 v + 1)) 187) ≤ sumN (nN b) (b 187) := j4
        omega
      · rw [j3 w hw (Or.inr (by have c2 : ¬ w < (b 1 0).toNat := c; omega))]; decide
    · rw [gv w hw, ← ghost]
      exact j3 w hw (by rw [U.g 1 0 (by decide) (by decide), U.g 1 2 (by decide) (by decide), e10, e12] at hz; exact hz)
  have ok' := U.ok h2 hch
  have ok'' : OK q'' := Eqv.ok (b := q') (fun k i hk' => by rw [e, up_k (by omega)]) ok'
  refine ⟨S2, ok'', _, hI2, fun w hw => by rw [ghost, c'' w]; exact gv w hw, fun w hw => ?_, ?_⟩
  · rw [s193 w, wr_eq]
    unfold fu
    rw [h5 v hv, h5 w hw]
  · rw [sumN_congr (g := fu (q 193) v (q 193 v + 1)) (fun w _ => s193 w), sumN_up (f := q 193) (k := v) hv (fun i _ hne => fu_ne hne), fu_eq, h6]
    omega
theorem lap_its {b : Sto} (f c : Nat → Int) (v : Nat) : c v - lap (Jm b) (nN b) f v = c v - f v * dgr (Jm b) (nN b) v + sumN (nN b) (fun w => f w * Jm b v w) := by
  unfold lap dgr
  rw [sumN_congr (g := fun w => f v * Jm b v w - f w * Jm b v w) (fun w _ => by rw [Int.mul_sub, Int.mul_comm, Int.mul_comm (Jm b v w) (f w)]), sumN_sub, sumN_mul]
  omega
theorem StI.zero {b q : Sto} (hb : OK b) (E : Eqv b q) : StI b (zr q 193) 0 := by
  have E2 : Eqv b (zr q 193) := E.sc (fun k i h => zr_ne (by omega))
  exact ⟨E2.same, E2.ok hb, wr b 41 (fun _ => 0), SI.start (by decide) hb.2.2.2.2.ok, fun v _ => by rw [E2.c, wr_ne (by decide)], fun v _ => by rw [zr_eq, wr_eq], sumN_z (fun v _ => zr_eq _ _ _)⟩
def Qs (b : Sto) : Int → Sto → Prop := fun r s' => r = 1 ∧ SameG b s' ∧ OK s' ∧ (Conn b → StbB s')
theorem st_498 {b q : Sto} (hb : OK b) (hS : SameG b q) (hq : OK q) (hC : Conn b) (st : StbB q) (h2 : ∀ v, v < nN b → v ≠ nK b → q 192 v = q 187 v) : H_La_settles_498 4 (Qs b) (b 1 0) (b 1 2) 0 q := by
  have hn := hb.1.1
  have hk := hb.1.2.2.1
  have e0 := hS.g 1 0 (by decide) (by decide)
  have e2 := hS.g 1 2 (by decide) (by decide)
  have n1 := hS.N
  have k1 := hS.K
  have Cq : Conn q := hS.conn.mpr hC
  refine loop_inv (α := Sto) (N := nN b) (fun j p => Eqv q p ∧ Ah q p) (fun j p => H_La_settles_498 4 (Qs b) (b 1 0) (b 1 2) j p) (fun j p hj hI ih => ?_) (fun p hI => ?_) 0 q (by omega) ⟨Eqv.refl q, Ah.refl q⟩
  · obtain ⟨E, hi⟩ := hI
    have hj2 : j < (b 1 0).toNat := hj
    refine b_La_settles_498 ⟨by omega, fun z => absurd z (by omega), fun _ => ⟨by omega, fun z => ih p ⟨E, hi⟩, fun z => ?_⟩⟩
    have jk : j ≠ nK b := by show j ≠ (b 1 2).toNat; omega
    have v2 := h2 j hj jk
    have d := st.con hq.1 Cq (v := j) (by show j < nN q; omega) (by show j ≠ nK q; rw [k1]; exact jk)
    have d' : q 187 j < dgr (Jm q) (nN q) j := d
    have db : 0 ≤ dgr (Jm q) (nN q) j ∧ dgr (Jm q) (nN q) j ≤ 20 := hq.1.dbd (by show j < nN q; omega)
    have cj := ch_R hq j (by omega)
    rw [toNat_n, hi 192 j (by decide), v2, nat_suc]
    refine ⟨by omega, by omega, fun y => absurd y (by omega), fun _ => ⟨by omega, _, q_degree (b := q) (a := q) (by omega) hq E hi, ?_⟩⟩
    rintro _ s1 ⟨E, hi, rfl⟩
    rw [toNat_n]
    refine ⟨⟨by omega, by omega⟩, fun y => absurd y (by omega), fun _ => ⟨_, q_fire_not (b := q) (a := q) (by omega) (by rw [toNat_n]; exact d') hq E hi, ?_⟩⟩
    rintro _ s1 ⟨E, hi, rfl⟩
    exact ⟨by decide, fun _ => ih s1 ⟨E, hi⟩, fun y => absurd rfl y⟩
  · obtain ⟨E, hi⟩ := hI
    have eN : ((nN b : Nat) : Int) = b 1 0 := by show (((b 1 0).toNat : Nat) : Int) = _; omega
    refine b_La_settles_498 ⟨by omega, fun _ => ⟨rfl, hS.trans E.same, E.ok hq, fun _ => (E.stb hq).mpr st⟩, fun z => absurd z (by omega)⟩
theorem st_393 {b q : Sto} {x8 : Int} {f : Nat → Int} (hb : OK b) (hT : sumN 8 (b 187) ≤ 2000) (hC : Conn b) (hf : Stl (Jm b) (nK b) (nN b) (b 187) f) (hB : sumN (nN b) f ≤ 112000) (hI : StI b q x8) (h1 : ∀ v, v < nN b → q 191 v = f v) (h2 : ∀ v, v < nN b → v ≠ nK b → q 192 v = b 187 v - lap (Jm b) (nN b) f v) : H_La_settles_393 4 (Qs b) (b 1 0) (b 1 2) 0 x8 0 q := by
  have hn := hb.1.1
  have hk := hb.1.2.2.1
  have n8 := nN_8 hb
  have hS := hI.1
  have hq := hI.2.1
  have e0 := hS.g 1 0 (by decide) (by decide)
  have e2 := hS.g 1 2 (by decide) (by decide)
  have n1 := hS.N
  have k1 := hS.K
  have Cq : Conn q := hS.conn.mpr hC
  have hJ := hS.J hb
  have eN : ((nN b : Nat) : Int) = b 1 0 := by show (((b 1 0).toNat : Nat) : Int) = _; omega
  obtain ⟨a1, a2, a3, a4⟩ := hI.ch hb hT hf
  have s8 : sumN (nN b) (q 193) = x8 := hI.2.2.elim fun g h => h.2.2.2
  have stq : Stl (Jm q) (nK q) (nN q) (q 187) (fun v => f v - q 193 v) := by
    rw [n1, k1]
    exact StlJ (fun v w hv hw => (hJ v w hv hw).symm) (fun _ _ => rfl) a4
  have fB : ∀ v, v < nN b → 0 ≤ f v ∧ f v ≤ 112000 := fun v hv => by
    have := sumN_ge (n := nN b) (f := f) (fun i hi => hf.1 i hi) hv
    have := hf.1 v hv
    omega
  have x8b : 0 ≤ x8 ∧ x8 ≤ 112000 := by
    have t1 := sumN_nn (n := nN b) (f := q 193) (fun v hv => (a1 v hv).1)
    have t2 := sumN_le (n := nN b) (f := q 193) (g := f) (fun v hv => (a1 v hv).2)
    omega
  refine loop_inv (α := Int × Sto) (N := nN b) (fun j p => Eqv q p.2 ∧ Ah q p.2 ∧ p.1 = sumN j f) (fun j p => H_La_settles_393 4 (Qs b) (b 1 0) (b 1 2) p.1 x8 j p.2) (fun j p hj hI ih => ?_) (fun p hI => ?_) 0 (0, q) (by omega) ⟨Eqv.refl q, Ah.refl q, rfl⟩
  · obtain ⟨x7, p⟩ := p
    obtain ⟨E, hi, h7⟩ := hI
    dsimp only at E hi h7 ⊢
    have hj2 : j < (b 1 0).toNat := hj
    have aj := a1 j hj
    have fj := fB j hj
    have nx : x7 + f j = sumN (j + 1) f := by rw [h7]; rfl
    refine b_La_settles_393 ⟨by omega, fun z => absurd z (by omega), fun _ => ?_⟩
    rw [toNat_n, hi 193 j (by decide), hi 191 j (by decide), h1 j hj, nat_suc]
    refine ⟨by omega, by omega, by omega, by omega, fun z => absurd z (by omega), fun _ => ⟨by omega, fun z => ih (_, p) ⟨E, hi, nx⟩, fun z => ⟨_, q_firings (b := q) (a := q) stq Cq (by omega) hq E hi, ?_⟩⟩⟩
    rintro _ s1 ⟨E, hi, rfl⟩
    rw [toNat_n, hi 193 j (by decide), hi 191 j (by decide), h1 j hj]
    exact ⟨by omega, by omega, by omega, fun _ => ih (_, s1) ⟨E, hi, nx⟩, fun z => absurd rfl z⟩
  · obtain ⟨x7, p⟩ := p
    obtain ⟨E, hi, h7⟩ := hI
    dsimp only at E hi h7 ⊢
    have sd : sumN (nN b) (fun v => f v - q 193 v) = x7 - x8 := by rw [sumN_sub, s8, h7]
    have x7b : 0 ≤ x7 := by rw [h7]; exact sumN_nn (fun v hv => (fB v hv).1)
    refine b_La_settles_393 ⟨by omega, fun _ => ⟨_, u_stabilize (b := q) (a := q) stq Cq hq E hi, ?_⟩, fun z => absurd z (by omega)⟩
    rintro r s3 ⟨U, hi3, r3, v3, ok3, st3⟩
    rw [n1, sd] at r3
    have S3 : SameG b s3 := hS.trans U.same
    have vv : ∀ v, v < nN b → v ≠ nK b → s3 187 v = b 187 v - lap (Jm b) (nN b) f v := fun v hv hvk => by
      rw [v3 v (by rw [n1]; exact hv) (by rw [k1]; exact hvk), a3 v hv hvk, n1, lapJ_congr hJ hv, lap_sub]
      omega
    have w192 : ∀ v, v < nN b → v ≠ nK b → s3 192 v = s3 187 v := fun v hv hvk => by rw [hi3 192 v (by decide), h2 v hv hvk, vv v hv hvk]
    have n3 := S3.N
    have k3 := S3.K
    have C3 : Conn s3 := S3.conn.mpr hC
    refine ⟨by omega, fun z => absurd r3 z, fun _ => ⟨_, la_are (b := s3) (a := s3) (arX (by decide) (by decide)) (by decide) (fun v hv hvk => by rw [n3] at hv; rw [k3] at hvk; rw [w192 v hv hvk]; exact R_ch ok3 v (by omega)) ok3 (Eqv.refl s3) (Ah.refl s3), ?_⟩⟩
    rintro _ s4 ⟨E, hi, rfl⟩
    rw [ind_t (fun v hv hvk => by rw [n3] at hv; rw [k3] at hvk; exact (w192 v hv hvk).symm)]
    refine ⟨by decide, fun z => absurd z (by decide), fun _ => ⟨_, q_kind ok3 E hi, ?_⟩⟩
    rintro _ s5 ⟨E, hi, rfl⟩
    have k := kind_i (StbB s3) (RecB s3) (SupB s3)
    rw [k.1, ind_t st3]
    refine ⟨by decide, fun z => absurd z (by decide), fun _ => ⟨_, u_stabilize (b := s3) (a := s3) (Stl.zero st3) C3 ok3 E hi, ?_⟩⟩
    rintro r6 s6 ⟨U6, hi6, r6, v6, ok6, st6⟩
    rw [sumN_zero] at r6
    have S6 : SameG b s6 := S3.trans U6.same
    refine ⟨by omega, fun _ => st_498 hb S6 ok6 hC st6 (fun v hv hvk => ?_), fun z => absurd r6 z⟩
    rw [hi6 192 v (by decide), w192 v hv hvk, v6 v (by rw [n3]; exact hv) (by rw [k3]; exact hvk), lap_zero]
    omega
theorem st_269 {b : Sto} {x1 : Int} {f : Nat → Int} (hb : OK b) (hT : sumN 8 (b 187) ≤ 2000) (hC : Conn b) (hf : Stl (Jm b) (nK b) (nN b) (b 187) f) (hB : sumN (nN b) f ≤ 112000) : ∀ (d : Nat) (q : Sto) (x8 : Int), 0 ≤ x8 → x8 ≤ 60 → 60 - x8 < d → StI b q x8 → (∀ v, v < nN b → q 191 v = f v) → (∀ v, v < nN b → v ≠ nK b → q 192 v = b 187 v - lap (Jm b) (nN b) f v) → H_La_settles_269 4 (Qs b) x1 (b 1 0) (b 1 2) 0 x8 1 q := by
  have hn := hb.1.1
  have hk := hb.1.2.2.1
  have n8 := nN_8 hb
  have eN : ((nN b : Nat) : Int) = b 1 0 := by show (((b 1 0).toNat : Nat) : Int) = _; omega
  have hx1 : R32 (iand x1 1) := by
    unfold R32 iand
    have h1 := Int32.le_toInt (Int32.ofInt x1 &&& Int32.ofInt 1)
    have h2 := Int32.toInt_lt (Int32.ofInt x1 &&& Int32.ofInt 1)
    omega
  unfold R32 at hx1
  intro d
  induction d with
  | zero => intro q x8 h0 h60 hd; omega
  | succ d ihd =>
    intro q x8 h0 h60 hd hI h1 h2
    refine b_La_settles_269 ⟨by decide, fun z => absurd z (by decide), fun _ => ⟨by omega, fun _ => st_393 hb hT hC hf hB hI h1 h2, fun hx => ?_⟩⟩
    refine loop_inv (α := Int × Int × Sto) (N := nN b) (fun j p => StI b p.2.2 p.1 ∧ (p.2.1 = 0 ∧ p.1 = x8 ∨ p.2.1 = 1 ∧ p.1 = x8 + 1) ∧ (∀ v, v < nN b → p.2.2 191 v = f v) ∧ (∀ v, v < nN b → v ≠ nK b → p.2.2 192 v = b 187 v - lap (Jm b) (nN b) f v)) (fun j p => H_La_settles_287 4 (Qs b) x1 (b 1 0) (b 1 2) 0 p.1 p.2.1 j p.2.2) (fun j p hj hI ih => ?_) (fun p hI => ?_) 0 (x8, 0, q) (by omega) ⟨hI, Or.inl ⟨rfl, rfl⟩, h1, h2⟩
    · obtain ⟨y8, y9, q⟩ := p
      obtain ⟨hI, h9, h1, h2⟩ := hI
      dsimp only at hI h9 h1 h2 ⊢
      have hj2 : j < (b 1 0).toNat := hj
      have hS := hI.1
      have hq := hI.2.1
      have e0 := hS.g 1 0 (by decide) (by decide)
      have e2 := hS.g 1 2 (by decide) (by decide)
      have n1 := hS.N
      have k1 := hS.K
      have hJ := hS.J hb
      have skip : ∀ q', Eqv q q' → Ah q q' → H_La_settles_287 4 (Qs b) x1 (b 1 0) (b 1 2) 0 y8 y9 ((j + 1 : Nat) : Int) q' := fun q' E hi => ih (y8, y9, q') ⟨hI.q E hi, h9, fun v hv => (hi 191 v (by decide)).trans (h1 v hv), fun v hv hvk => (hi 192 v (by decide)).trans (h2 v hv hvk)⟩
      refine b_La_settles_287 ⟨by omega, fun z => absurd z (by omega), fun _ => ⟨fun v => 0 ≤ v ∧ v < b 1 0, fun v hv => ⟨by omega, fun _ => skip q (Eqv.refl q) (Ah.refl q), fun hvk => ?_⟩, by omega, fun _ => by omega, fun _ => by omega⟩⟩
      obtain ⟨u, rfl⟩ : ∃ u : Nat, v = u := ⟨v.toNat, by omega⟩
      have hu : u < nN b := by show u < (b 1 0).toNat; omega
      have huk : u ≠ nK b := by show u ≠ (b 1 2).toNat; omega
      have cu8 := ch_R hq u (by omega)
      have db : 0 ≤ dgr (Jm q) (nN q) u ∧ dgr (Jm q) (nN q) u ≤ 20 := hq.1.dbd (by show u < nN q; omega)
      have dJ : dgr (Jm q) (nN q) u = dgr (Jm b) (nN b) u := by rw [n1]; exact dgrJ_congr hJ hu
      have E := Eqv.refl q
      have hi := Ah.refl q
      refine ⟨_, q_chips (b := q) (a := q) (by omega) hq E hi, ?_⟩
      rintro _ s1 ⟨E, hi, rfl⟩
      refine ⟨_, q_degree (b := q) (a := q) (by omega) hq E hi, ?_⟩
      rintro _ s2 ⟨E, hi, rfl⟩
      rw [toNat_n, nat_suc]
      refine ⟨⟨by omega, by omega⟩, fun _ => skip s2 E hi, fun hge => ⟨by omega, fun _ => skip s2 E hi, fun h90 => ⟨_, q_chips (b := q) (a := q) (by omega) hq E hi, ?_⟩⟩⟩
      rintro _ s3 ⟨E, hi, rfl⟩
      have dpos : 0 < dgr (Jm b) (nN b) u := hC.deg hb.1 hu huk
      refine ⟨_, u_fire (b := q) (a := q) (by omega) (by rw [toNat_n]; omega) hq E hi, ?_⟩
      rintro r4 s4 ⟨U, hi4, r4, v4⟩
      rw [toNat_n] at r4 v4
      have ok4 : OK s4 := by
        have f4 := hI.fire (q'' := up s4 193 u (s4 193 u + 1)) hb hT hu huk (by omega) U hi4 v4 rfl
        exact Eqv.ok (b := up s4 193 u (s4 193 u + 1)) (fun k i hk => by rw [up_k (by omega)]) f4.2.1
      refine ⟨_, q_degree (b := s4) (a := s4) (by rw [U.g 1 0 (by decide) (by decide)]; omega) ok4 (Eqv.refl s4) (Ah.refl s4), ?_⟩
      rintro _ s5 ⟨E5, hi5, rfl⟩
      have d5 : dgr (Jm s4) (nN s4) u = dgr (Jm q) (nN q) u := by
        rw [U.N]
        exact dgrJ_congr (U.J hq) (by omega)
      rw [toNat_n, d5]
      refine ⟨⟨by omega, by omega⟩, fun _ => ⟨by omega, by omega, fun s6 e6 => ?_⟩, fun z => absurd r4 z⟩
      have f6 := hI.fire (q' := s4) (q'' := up s4 193 u (s4 193 u + 1)) hb hT hu huk (by omega) U hi4 v4 rfl
      have a46 : Ah (up s4 193 u (s4 193 u + 1)) s6 := fun k i hk => by
        rw [e6]
        unfold up
        by_cases c : k = 193 ∧ i = u
        · rw [if_pos c, if_pos c, hi5 193 u (by decide)]
        · rw [if_neg c, if_neg c]; exact hi5 k i hk
      have E46 : Eqv (up s4 193 u (s4 193 u + 1)) s6 := fun k i hk => by
        rw [e6, up_k (by omega), up_k (by omega)]
        exact E5 k i hk
      refine ih (y8 + 1, 1, s6) ⟨f6.q E46 a46, Or.inr ⟨rfl, by dsimp only; omega⟩, fun v hv => ?_, fun v hv hvk => ?_⟩
      · show s6 191 v = f v
        rw [a46 191 v (by decide), up_k (by decide), hi4 191 v (by decide)]; exact h1 v hv
      · show s6 192 v = _
        rw [a46 192 v (by decide), up_k (by decide), hi4 192 v (by decide)]; exact h2 v hv hvk
    · obtain ⟨y8, y9, q⟩ := p
      obtain ⟨hI, h9, h1, h2⟩ := hI
      dsimp only at hI h9 h1 h2 ⊢
      refine b_La_settles_287 ⟨by omega, fun _ => ?_, fun z => absurd z (by omega)⟩
      rcases h9 with ⟨g1, g2⟩ | ⟨g1, g2⟩
      · rw [g1]
        exact b_La_settles_269 ⟨by decide, fun _ => st_393 hb hT hC hf hB hI h1 h2, fun z => absurd rfl z⟩
      · rw [g1]
        exact ihd q y8 (by omega) (by omega) (by omega) hI h1 h2
