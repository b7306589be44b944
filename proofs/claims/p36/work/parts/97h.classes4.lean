/-! the law's classes: the head -/
theorem ext_ch {b q : Sto} {c : Nat → Int} (hb : OK b) (h : GG b q) (hc : ∀ v, v < nN b → v ≠ nK b → 0 ≤ c v ∧ c v ≤ 2000) {g : Nat → Int} (e : ∀ v, v < 8 → g v = ext b c v) : ChB q g := by
  have hn := hb.1.1
  have hk := hb.1.2.2.1
  refine ⟨fun v hv => ?_, fun v hv hz => ?_⟩
  · rw [e v hv]
    unfold ext
    by_cases z : v < nN b ∧ v ≠ nK b
    · rw [if_pos z]; exact hc v z.1 z.2
    · rw [if_neg z]; decide
  · rw [h 1 0 (by decide) (by decide), h 1 2 (by decide) (by decide)] at hz
    rw [e v hv]
    refine if_neg (fun y => ?_)
    have y1 : v < (b 1 0).toNat := y.1
    have y2 : v ≠ (b 1 2).toNat := y.2
    omega
theorem cl_88 {b q : Sto} {c lw : Nat → Int} (hb : OK b) (hC : Conn b) (hc : ∀ v, v < nN b → v ≠ nK b → 0 ≤ c v ∧ c v < dgr (Jm b) (nN b) v) (H : CZ b c q) (h191 : ∀ v, v < nN b → v ≠ nK b → q 191 v = lw v) (hl : SSt (Jm b) (nK b) (nN b) lw) : H_La_classes_88 3 (Qc b) (b 1 0) (b 1 2) 0 q := by
  have n8 := nN_8 hb
  have hn := hb.1.1
  have hkk := hb.1.2.2.1
  have hm := hb.1.2.1
  have hm14 := hb.2.1
  have tb := trs_R hb
  have eN : ((nN b : Nat) : Int) = b 1 0 := by show (((b 1 0).toNat : Nat) : Int) = _; omega
  have eK : ((nK b : Nat) : Int) = b 1 2 := by show (((b 1 2).toNat : Nat) : Int) = _; omega
  have hq := H.2.1
  have e0 := H.1 1 0 (by decide) (by decide)
  have n1 := H.1.N
  have dgb : ∀ v, v < nN b → 0 ≤ dgr (Jm b) (nN b) v ∧ dgr (Jm b) (nN b) v ≤ 20 := fun v hv => hb.1.dbd hv
  refine loop_inv (α := Sto) (N := nN b) (fun j p => Eqv q p ∧ Ah1 192 q p ∧ ∀ v, v < j → v ≠ nK b → p 192 v = dgr (Jm b) (nN b) v - 1 - lw v) (fun j p => H_La_classes_88 3 (Qc b) (b 1 0) (b 1 2) j p) (fun j p hj hI ih => ?_) (fun p hI => ?_) 0 q (by omega) ⟨Eqv.refl q, fun _ _ _ _ => rfl, fun v hv => absurd hv (by omega)⟩
  · obtain ⟨E, i1, i2⟩ := hI
    have hi := Ah.refl p
    refine b_La_classes_88 ⟨by omega, fun z => absurd z (by omega), fun _ => ⟨by omega, fun z => ⟨_, q_degree (b := q) (by omega) hq E hi, ?_⟩, fun z => ⟨by omega, fun s2 e2 => ?_⟩⟩⟩
    · rintro _ s1 ⟨E, hi, rfl⟩
      have jk : j ≠ nK b := by omega
      refine ⟨by omega, by omega, fun s2 e2 => ?_⟩
      rw [toNat_n, H.1.dgr hb hj, hi 191 j (by decide), i1 191 j (by decide) (by decide), h191 j hj jk] at e2
      rw [nat_suc]
      refine ih s2 ⟨E.up (by decide) e2, (i1.q hi).up e2, fun v hv hvk => ?_⟩
      rw [e2]
      by_cases y : v = j
      · rw [y, up_eq]
      · rw [up_i y, hi 192 v (by decide)]; exact i2 v (by omega) hvk
    · rw [toNat_n] at e2
      rw [nat_suc]
      exact ih s2 ⟨E.up (by decide) e2, i1.up e2, fun v hv hvk => by rw [e2, up_i (by omega)]; exact i2 v (by omega) hvk⟩
  · obtain ⟨E, i1, i2⟩ := hI
    have Hp : CZ b c p := H.same E.same (fun k i hk => i1 k i (by omega) (by omega)) (E.ok hq)
    have rm : Rec (Jm b) (nK b) (nN b) (fun v => dgr (Jm b) (nN b) v - 1 - lw v) := hl.mir hb.1.Jnn (fun _ _ _ => rfl)
    refine b_La_classes_88 ⟨by omega, fun _ => ⟨_, Hp.lay (arX (k := 192) (by decide) (by decide)) (by decide) (d := fun v => dgr (Jm b) (nN b) v - 1 - lw v) (fun v hv hvk => by
      have := rm.1 v hv hvk
      have := dgb v hv
      dsimp only at *
      omega) (fun v hv hvk => i2 v hv hvk), ?_⟩, fun z => absurd z (by omega)⟩
    rintro s1 ⟨H1, S1, hi1, v1⟩
    have r1 : RecB s1 := ⟨H1.1.conn.mpr hC, (H1.1.rec hb).mpr (RecC (fun v hv hvk => (v1 v hv hvk).symm) rm)⟩
    refine ⟨_, q_kind (b := s1) (a := s1) H1.2.1 (Eqv.refl s1) (Ah.refl s1), ?_⟩
    rintro _ s2 ⟨E2, hi2, rfl⟩
    have k := kind_i (StbB s1) (RecB s1) (SupB s1)
    rw [k.2.1, ind_t r1]
    have H2 := H1.q E2 hi2
    have cb : ∀ v, v < nN b → v ≠ nK b → 0 ≤ c v ∧ c v ≤ 1000 := fun v hv hvk => by
      have := hc v hv hvk
      have := dgb v hv
      omega
    refine ⟨by decide, fun _ => ⟨_, H2.lay (arX (k := 190) (by decide) (by decide)) (by decide) cb H2.2.2.2.2.1, ?_⟩, fun z => absurd z (by decide)⟩
    rintro s3 ⟨H3, S3, hi3, v3⟩
    have ok3 := H3.2.1
    have C3 := H3.1.conn.mpr hC
    refine ⟨_, u_makeRecurrent (b := s3) (a := s3) C3 ok3 (Eqv.refl s3) (Ah.refl s3), ?_⟩
    rintro r4 s4 ⟨U4, hi4, _, ok4, rec4, cl4, _⟩
    have H4 := H3.up U4 hi4 ok4
    have rec4b : Rec (Jm b) (nK b) (nN b) (s4 187) := (H4.1.rec hb).mp rec4.2
    have cl4b : Cls (Jm b) (nK b) (nN b) c (s4 187) := ((H3.1.cls hb).mp cl4).of (fun v hv hvk => (v3 v hv hvk).symm) (fun _ _ _ => rfl)
    refine ⟨_, la_read (b := s4) (a := s4) (arX (by decide) (by decide)) (by decide) ok4 (Eqv.refl s4) (Ah.refl s4), ?_⟩
    rintro s5 ⟨E5, i51, i52⟩
    have hi5 := Ah.refl s5
    refine ⟨_, q_kind (b := s4) (a := s5) ok4 E5 hi5, ?_⟩
    rintro _ s6 ⟨E6, hi6, rfl⟩
    have k4 := kind_i (StbB s4) (RecB s4) (SupB s4)
    have st4 : StbB s4 := ((rec_of ok4 rec4.1).mpr rec4.2).1
    rw [k4.2.2.1, ind_t st4, ind_t rec4]
    refine ⟨by decide, fun z => absurd rfl z, fun _ => ⟨_, u_makeRecurrent (b := s4) (a := s5) rec4.1 ok4 E6 hi6, ?_⟩⟩
    rintro r7 s7 ⟨U7, hi7, r701, ok7, rec7, cl7, r70⟩
    have r7z := r70 rec4
    have a7 : ∀ k i, k = 190 ∨ k = 191 → s7 k i = s4 k i := fun k i hk => by rw [hi7 k i (by omega), i51 k i (by omega) (by omega)]
    have H7 := H4.same U7.same a7 ok7
    have rec7b : Rec (Jm b) (nK b) (nN b) (s7 187) := (H7.1.rec hb).mp rec7.2
    have cl7b : Cls (Jm b) (nK b) (nN b) (s4 187) (s7 187) := (H4.1.cls hb).mp cl7
    have v7 : ∀ v, v < nN b → v ≠ nK b → s7 187 v = s4 187 v := fun v hv hvk => rec7b.uniq hb.1.Jnn rec4b cl7b.symm hv hvk
    have e34 : ∀ v, v < 8 → s7 34 v = ext b c v := H7.2.2.2.1.2
    refine ⟨by omega, fun z => absurd r7z z, fun _ => ⟨_, q_same (b := s7) (a := s7) (x := 0) (by decide) H7.2.2.2.1.1 (ext_ch hb H7.1 (fun v hv hvk => by have := cb v hv hvk; omega) e34) rec7.1 ?_ ok7 (Eqv.refl s7) (Ah.refl s7), ?_⟩⟩
    · rw [H7.1.cls hb]
      refine (cl4b.trans cl7b).of (fun v hv hvk => ?_) (fun _ _ _ => rfl)
      show s7 34 v = c v
      rw [e34 v (by omega)]
      exact if_pos ⟨hv, hvk⟩
    rintro _ s8 ⟨E8, hi8, rfl⟩
    refine ⟨by decide, fun _ => ⟨_, u_keep (b := s7) (a := s7) (x := 1) (by decide) ok7 E8 hi8, ?_⟩, fun z => absurd rfl z⟩
    rintro _ s9 ⟨g9, hi9, _, ok9, k91, k92, k93, k94⟩
    have G9 : GG b s9 := fun k i a c => (g9 k i (Or.inl ⟨a, c⟩)).trans (H7.1 k i a c)
    have c9 : ∀ v, s9 187 v = s7 187 v := fun v => g9 187 v (by omega)
    have H9 : CZ b c s9 := by
      obtain ⟨p1, p2, p3, ⟨p4, p5⟩, p6, p7⟩ := H7
      exact ⟨G9, ok9, (k92 2 (by decide)).trans p3, ⟨(k92 0 (by decide)).trans p4, fun v hv => (k94 34 v (by decide) (by decide) (by decide)).trans (p5 v hv)⟩, fun v hv hvk => by rw [hi9 190 v (by decide)]; exact p6 v hv hvk, fun v hv hv8 => by rw [hi9 191 v (by decide)]; exact p7 v hv hv8⟩
    have rec9 : RecB s9 := ⟨G9.conn.mpr hC, (G9.rec hb).mpr (RecC (fun v _ _ => (c9 v).symm) rec7b)⟩
    refine ⟨_, q_tree (b := s9) (a := s9) rec9 ok9 (Eqv.refl s9) (Ah.refl s9), ?_⟩
    rintro _ s10 ⟨E10, hi10, T, rfl, hT⟩
    refine ⟨_, q_level (b := s9) (a := s9) rec9 ok9 E10 hi10, ?_⟩
    rintro _ s11 ⟨E11, hi11, rfl⟩
    refine ⟨_, q_value4 (b := s9) (a := s9) ok9 E11 hi11, ?_⟩
    rintro _ s12 ⟨E12, hi12, rfl⟩
    obtain ⟨lv1, lv2⟩ := lev_eq ok9 rec9 hT
    refine ⟨by omega, fun z => absurd z (by omega), fun _ => ⟨_, q_value6 (b := s9) (a := s9) ok9 E12 hi12, ?_⟩⟩
    rintro _ s13 ⟨E13, hi13, rfl⟩
    refine ⟨by omega, fun z => absurd rfl z, fun _ => ⟨_, q_levelCount (b := s9) (a := s9) (by unfold R32; omega) ok9 E13 hi13, ?_⟩⟩
    rintro r14 s14 ⟨E14, hi14, _, _, l14⟩
    have l15 := l14 (by omega) rec9.1
    rw [lv1, toNat_n, if_pos (by omega)] at l15
    have bt := bas_tree hT.1
    have bb := bas_bd s9 (lvT s9 T)
    rw [G9.trs] at bb
    have m := cl_mid (h := s7 187) (lev := 0) hb hC hc rec7b (cl4b.trans cl7b) H9 k91 (fun v hv => (k93 v hv).trans (ch_ext H7.1 ok7 (fun _ _ _ => rfl) v hv)) (fun v _ _ => c9 v) (fun v hv hvk => by
      rw [hi9 192 v (by decide), hi7 192 v (by decide), i52 v (by omega)]
      exact (v7 v hv hvk).symm) E14 hi14 hT
    exact ⟨by omega, fun _ => ⟨_, m, fun s145 h => h⟩, fun z => absurd z (by omega)⟩
theorem la_classes {b s : Sto} (hC : Conn b) (hS : StbB b) (hb : OK b) (E : Eqv b s) : K_La_classes 0 s (Qc b) := by
  have n8 := nN_8 hb
  have hn := hb.1.1
  have hk := hb.1.2.2.1
  have hi := Ah.refl s
  have hc : ∀ v, v < nN b → v ≠ nK b → 0 ≤ b 187 v ∧ b 187 v < dgr (Jm b) (nN b) v := fun v hv hvk => ⟨(ch_R hb v (by omega)).1, hS.con hb.1 hC hv hvk⟩
  have cb : ∀ v, v < nN b → v ≠ nK b → 0 ≤ b 187 v ∧ b 187 v ≤ 2000 := fun v hv hvk => ch_R hb v (by omega)
  refine e_La_classes ?_
  refine ⟨_, q_value0 hb E hi, ?_⟩
  rintro _ s ⟨E, hi, rfl⟩
  refine ⟨_, q_value2 hb E hi, ?_⟩
  rintro _ s ⟨E, hi, rfl⟩
  intro s11 e11 s12 e12 s13 e13
  have E : Eqv b s13 := E.sc (fun k i h => by rw [e13, zr_ne (by omega), e12, zr_ne (by omega), e11, zr_ne (by omega)])
  refine ⟨_, la_read (arX (by decide) (by decide)) (by decide) hb E (Ah.refl s13), ?_⟩
  rintro s16 ⟨E, h1, h2⟩
  refine ⟨_, u_keep (b := b) (a := s16) (x := 0) (by decide) hb E (Ah.refl s16), ?_⟩
  rintro _ s1 ⟨g1, hi1, _, ok1, k11, k12, k13, k14⟩
  have G1 : GG b s1 := fun k i a c => g1 k i (Or.inl ⟨a, c⟩)
  have c1 : ∀ v, s1 187 v = b 187 v := fun v => g1 187 v (by omega)
  have C1 := G1.conn.mpr hC
  refine ⟨_, u_reduce (b := s1) (a := s1) C1 ok1 (Eqv.refl s1) (Ah.refl s1), ?_⟩
  rintro r2 s2 ⟨U2, hi2, r2b, ok2, sup2, st2, cl2, _⟩
  have G2 : GG b s2 := fun k i a c => (U2.g k i a c).trans (G1 k i a c)
  have cl2b : Cls (Jm b) (nK b) (nN b) (b 187) (s2 187) := ((G1.cls hb).mp cl2).of (fun v _ _ => (c1 v).symm) (fun _ _ _ => rfl)
  refine ⟨_, la_read (b := s2) (a := s2) (arX (by decide) (by decide)) (by decide) ok2 (Eqv.refl s2) (Ah.refl s2), ?_⟩
  rintro s3 ⟨E3, i31, i32⟩
  refine ⟨by omega, fun z => absurd z (by omega), fun _ => ⟨_, q_kind (b := s2) (a := s3) ok2 E3 (Ah.refl s3), ?_⟩⟩
  rintro _ s4 ⟨E4, hi4, rfl⟩
  have k := kind_i (StbB s2) (RecB s2) (SupB s2)
  rw [k.2.2.2.1, ind_t st2, ind_t sup2]
  refine ⟨by decide, fun z => absurd rfl z, fun _ => ⟨_, u_reduce (b := s2) (a := s3) sup2.1 ok2 E4 hi4, ?_⟩⟩
  rintro r5 s5 ⟨U5, hi5, r5b, ok5, sup5, st5, cl5, r5z⟩
  have G5 : GG b s5 := fun k i a c => (U5.g k i a c).trans (G2 k i a c)
  have cl5b : Cls (Jm b) (nK b) (nN b) (s2 187) (s5 187) := (G2.cls hb).mp cl5
  have e34 : ∀ v, v < 8 → s5 34 v = ext b (b 187) v := fun v hv => by
    rw [U5.1 34 v (by omega), U2.1 34 v (by omega)]
    have := k13 v hv
    have t : s1 34 v = b 187 v := this
    rw [t]
    exact ch_ext (fun _ _ _ _ => rfl : GG b b) hb (fun _ _ _ => rfl) v hv
  have s320 : s5 32 0 = 1 := by rw [U5.1 32 0 (by omega), U2.1 32 0 (by omega)]; exact k11
  have s322 : s5 32 2 = b 32 2 := by rw [U5.1 32 2 (by omega), U2.1 32 2 (by omega)]; exact k12 2 (by decide)
  refine ⟨by omega, fun z => absurd (r5z sup2) z, fun _ => ⟨_, q_same (b := s5) (a := s5) (x := 0) (by decide) s320 (ext_ch hb G5 cb e34) sup5.1 ?_ ok5 (Eqv.refl s5) (Ah.refl s5), ?_⟩⟩
  · rw [G5.cls hb]
    refine (cl2b.trans cl5b).of (fun v hv hvk => ?_) (fun _ _ _ => rfl)
    show s5 34 v = b 187 v
    rw [e34 v (by omega)]
    exact if_pos ⟨hv, hvk⟩
  rintro _ s6 ⟨E6, hi6, rfl⟩
  have a190 : ∀ v, v < 8 → s5 190 v = b 187 v := fun v hv => by rw [hi5 190 v (by decide), i31 190 v (by decide) (by decide), hi2 190 v (by decide), hi1 190 v (by decide)]; exact h2 v hv
  have a191 : ∀ v, v < 8 → s5 191 v = s2 187 v := fun v hv => by rw [hi5 191 v (by decide)]; exact i32 v hv
  have H5 : CZ b (b 187) s5 := ⟨G5, ok5, s322, ⟨s320, e34⟩, fun v hv _ => a190 v (by omega), fun v hv hv8 => by rw [a191 v hv8]; exact R_sum ok2 hv8 (by rw [G2.N, G2.K]; omega)⟩
  have H6 := H5.q E6 hi6
  refine ⟨by decide, fun _ => cl_88 hb hC hc H6 (lw := s2 187) (fun v hv hvk => by rw [hi6 191 v (by decide)]; exact a191 v (by omega)) ⟨fun v hv hvk => (ch_R ok2 v (by omega)).1, ?_⟩, fun z => absurd rfl z⟩
  have s := sup2.2
  rw [G2.N, G2.K] at s
  exact (AllB.congr (G2.J hb) (fun _ _ => rfl)).mp s
