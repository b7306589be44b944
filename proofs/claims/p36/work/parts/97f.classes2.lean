/-! the law's classes: the identity -/
theorem cl_311 {b q : Sto} {c h : Nat → Int} {ord x9 : Int} (hb : OK b) (hC : Conn b) (hc : ∀ v, v < nN b → v ≠ nK b → 0 ≤ c v ∧ c v < dgr (Jm b) (nN b) v) (hh : Rec (Jm b) (nK b) (nN b) h) (hch : Cls (Jm b) (nK b) (nN b) c h) (ho : 0 < ord ∧ ord ≤ trs b) (hot : ord ∣ trs b) (hk : ∀ k : Int, Cls (Jm b) (nK b) (nN b) (fun v => k * h v) (fun _ => 0) ↔ ord ∣ k) (H : CQ b c h q) (h192 : ∀ v, v < nN b → v ≠ nK b → q 192 v = h v) (h191 : ∀ v, nN b ≤ v → v < 8 → q 191 v = 0) (hx : x9 = sumN 8 (ext b h)) : H_La_classes_311 3 (Qc b) (b 1 0) (b 1 2) x9 ord 0 q := by
  have n8 := nN_8 hb
  have hn := hb.1.1
  have hkk := hb.1.2.2.1
  have tb := trs_R hb
  have hq := H.2.1
  have hG := H.1
  have n1 := hG.N
  have k1 := hG.K
  have e0 := hG 1 0 (by decide) (by decide)
  have e2 := hG 1 2 (by decide) (by decide)
  have Cq := hG.conn.mpr hC
  have hKN : nK b < nN b := hb.1.K
  have eN : ((nN b : Nat) : Int) = b 1 0 := by show (((b 1 0).toNat : Nat) : Int) = _; omega
  have eK : ((nK b : Nat) : Int) = b 1 2 := by show (((b 1 2).toNat : Nat) : Int) = _; omega
  have xb : 0 ≤ x9 ∧ x9 ≤ 160 := by
    have l1 := sumN_nn (n := 8) (f := ext b h) (fun v _ => (rec_bd hb hh v).1)
    have l2 := sumN_le (n := 8) (f := ext b h) (g := fun _ => 20) (fun v _ => (rec_bd hb hh v).2)
    rw [sumN_const] at l2
    omega
  refine loop_inv (α := Sto) (N := nN b) (fun j p => Eqv q p ∧ Ah1 191 q p ∧ (∀ e, IdB q e → ∀ v, v < j → v ≠ nK b → p 191 v = e v) ∧ ((∃ v, v < j ∧ v ≠ nK b) → ∃ e, IdB q e) ∧ (nK b < j → p 191 (nK b) = 0) ∧ ∀ v, nN b ≤ v → v < 8 → p 191 v = 0) (fun j p => H_La_classes_311 3 (Qc b) (b 1 0) (b 1 2) x9 ord j p) (fun j p hj hI ih => ?_) (fun p hI => ?_) 0 q (by omega) ⟨Eqv.refl q, fun _ _ _ _ => rfl, fun _ _ v hv => absurd hv (by omega), fun ⟨v, hv, _⟩ => absurd hv (by omega), fun z => absurd z (by omega), h191⟩
  · obtain ⟨E, i1, i2, i3, i4, i5⟩ := hI
    have hi := Ah.refl p
    refine b_La_classes_311 ⟨by omega, fun z => absurd z (by omega), fun _ => ⟨by omega, fun z => ⟨_, q_identity (b := q) Cq (by omega) hq E hi, ?_⟩, fun z => ⟨by omega, fun s2 e2 => ?_⟩⟩⟩
    · rintro r s1 ⟨E, hi, e, he, hr⟩
      rw [toNat_n] at hr
      refine ⟨by omega, fun s2 e2 => ?_⟩
      rw [toNat_n] at e2
      rw [nat_suc]
      have jk : j ≠ nK b := by omega
      refine ih s2 ⟨E.up (by decide) e2, (i1.q hi).up e2, fun e' he' v hv hvk => ?_, fun _ => ⟨e, he⟩, fun z => ?_, fun v hv hv8 => ?_⟩
      · rw [e2]
        by_cases y : v = j
        · rw [y, up_eq, hr]
          exact he.uniq hq.1 he' (by rw [n1]; omega) (by rw [k1]; exact jk)
        · rw [up_i y, hi 191 v (by decide)]; exact i2 e' he' v (by omega) hvk
      · rw [e2, up_i (by omega), hi 191 _ (by decide)]; exact i4 (by omega)
      · rw [e2, up_i (by omega), hi 191 _ (by decide)]; exact i5 v hv hv8
    · rw [toNat_n] at e2
      rw [nat_suc]
      have jk : j = nK b := by omega
      refine ih s2 ⟨E.up (by decide) e2, i1.up e2, fun e' he' v hv hvk => ?_, fun ⟨v, hv, hvk⟩ => i3 ⟨v, by omega, hvk⟩, fun z => ?_, fun v hv hv8 => ?_⟩
      · rw [e2, up_i (by omega)]; exact i2 e' he' v (by omega) hvk
      · rw [e2, ← jk, up_eq]
      · rw [e2, up_i (by omega)]; exact i5 v hv hv8
  · obtain ⟨E, i1, i2, i3, i4, i5⟩ := hI
    obtain ⟨e, hid⟩ := i3 (by
      by_cases z : nK b = 0
      · exact ⟨1, by omega, by omega⟩
      · exact ⟨0, by omega, by omega⟩)
    have he : Rec (Jm b) (nK b) (nN b) e := (hG.rec hb).mp hid.1
    have he0 : Cls (Jm b) (nK b) (nN b) (fun _ => 0) e := (hG.cls hb).mp hid.2
    have a191 : ∀ v, v < nN b → v ≠ nK b → p 191 v = e v := fun v hv hvk => i2 e hid v hv hvk
    have a8 : ∀ v, v < 8 → p 191 v = ext b e v := fun v hv => by
      unfold ext
      by_cases z : v < nN b ∧ v ≠ nK b
      · rw [if_pos z]; exact a191 v z.1 z.2
      · rw [if_neg z]
        by_cases y : v < nN b
        · rw [show v = nK b by omega]; exact i4 hKN
        · exact i5 v (by omega) hv
    have X : CX b c e h ord := ⟨hb, hC, hc, he, he0, hh, hch, ho, hot, hk⟩
    have Hp : CQ b c h p := H.same E.same (fun i => i1 190 i (by decide) (by decide)) (E.ok hq)
    have eb : ∀ v, v < nN b → v ≠ nK b → 0 ≤ e v ∧ e v ≤ 20 := fun v hv hvk => by
      have := rec_bd hb he v
      have q : ext b e v = e v := if_pos ⟨hv, hvk⟩
      omega
    have okp := Hp.2.1
    have np := Hp.1.N
    have kp := Hp.1.K
    -- laying the identity, from any later store
    have lay : ∀ q' : Sto, CQ b c h q' → (∀ v, v < nN b → v ≠ nK b → q' 191 v = e v) → K_La_lay 3 191 q' (fun s' => CQ b c h s' ∧ Ah q' s' ∧ ∀ v, v < nN b → v ≠ nK b → s' 187 v = e v) := fun q' H' h' => by
      have n' := H'.1.N
      have k' := H'.1.K
      have k := la_lay (n := 3) (b := q') (a := q') (arX (k := 191) (by decide) (by decide)) (by decide) (fun v hv hvk => by
        rw [n'] at hv
        rw [k'] at hvk
        have := eb v hv hvk
        rw [h' v hv hvk]; omega) H'.2.1 (Eqv.refl q') (Ah.refl q')
      refine Sp.mono ?_ k
      rintro r s' ⟨rfl, S', hi', ok', v'⟩
      exact ⟨rfl, H'.same S' (fun i => hi' 190 i (by decide)) ok', hi', fun v hv hvk => by rw [v' v (by rw [n']; exact hv) (by rw [k']; exact hvk), h' v hv hvk]⟩
    refine b_La_classes_311 ⟨by omega, fun _ => ⟨_, lay p Hp a191, ?_⟩, fun z => absurd z (by omega)⟩
    rintro s1 ⟨H1, hi1, v1⟩
    have ok1 := H1.2.1
    have C1 := H1.1.conn.mpr hC
    have r1 : RecB s1 := ⟨C1, (H1.1.rec hb).mpr (RecC (fun v hv hvk => (v1 v hv hvk).symm) he)⟩
    refine ⟨_, q_kind (b := s1) (a := s1) ok1 (Eqv.refl s1) (Ah.refl s1), ?_⟩
    rintro _ s2 ⟨E2, hi2, rfl⟩
    have k := kind_i (StbB s1) (RecB s1) (SupB s1)
    rw [k.2.1, ind_t r1]
    refine ⟨fun _ => False, fun v s' => v = 1 ∧ CQ b c h s' ∧ ∀ v, v < nN b → v ≠ nK b → s' 191 v = e v, fun _ z => z.elim, ?_, by decide, fun z => absurd z (by decide), fun _ => ?_⟩
    · rintro v s' ⟨rfl, H', h'⟩
      refine ⟨by decide, fun _ => ⟨_, lay s' H' h', ?_⟩, fun z => absurd z (by decide)⟩
      rintro s3 ⟨H3, hi3, v3⟩
      refine cl_425 X 41 0 s3 (by decide) (by omega) H3 (fun v hv hvk => by rw [hi3 191 v (by decide)]; exact h' v hv hvk) (RecC (fun v hv hvk => (v3 v hv hvk).symm) he) ?_
      refine he0.of (fun v _ _ => ?_) (fun v hv hvk => v3 v hv hvk)
      show ((0 : Nat) : Int) * h v = 0
      exact Int.zero_mul _
    · have st1 : StbB s1 := ((rec_of ok1 C1).mpr r1.2).1
      refine ⟨_, q_order (b := s1) (a := s1) C1 st1 ok1 E2 hi2, ?_⟩
      rintro r s3 ⟨E3, hi3, ⟨o1, o2⟩, o3, o4⟩
      have d1 : r ∣ 1 := (o4 1).mp ((H1.1.cls hb).mpr (he0.symm.of (fun v hv hvk => by rw [v1 v hv hvk, Int.one_mul]) (fun _ _ _ => rfl)))
      have er : r = 1 := by
        have := Int.le_of_dvd (by decide) d1
        omega
      refine ⟨by omega, fun z => absurd er z, fun _ => ⟨_, cl_add (u := e) (q := s1) (a := s1) hb hC hh he H1 v1 E3 hi3, ?_⟩⟩
      rintro r4 s4 ⟨U4, hi4, r4e, ok4, v4⟩
      have H4 := H1.up U4 hi4 ok4
      refine ⟨_, la_sumOf (b := s4) (a := s4) (arX (by decide) (by decide)) (by decide) ok4 (Eqv.refl s4) (Ah.refl s4), ?_⟩
      rintro _ s5 ⟨E5, hi5, rfl⟩
      have sm1 : sumN 8 (s4 191) = sumN 8 (ext b e) := sumN_congr (fun v hv => by rw [hi4 191 v (by decide), hi1 191 v (by decide)]; exact a8 v hv)
      have sm2 : r4 = sumN 8 (ext b h) + sumN 8 (ext b e) := by rw [r4e, ← sumN_add]; exact sumN_congr v4
      have sb : 0 ≤ sumN 8 (ext b e) ∧ sumN 8 (ext b e) ≤ 160 := by
        have l1 := sumN_nn (n := 8) (f := ext b e) (fun v _ => (rec_bd hb he v).1)
        have l2 := sumN_le (n := 8) (f := ext b e) (g := fun _ => 20) (fun v _ => (rec_bd hb he v).2)
        rw [sumN_const] at l2
        omega
      rw [sm1]
      refine ⟨⟨by omega, by omega⟩, fun z => absurd (by omega) z, fun _ => ⟨_, cl_stab (q := s4) (a := s4) hb hC hh he H4.1 ok4 v4 E5 hi5, ?_⟩⟩
      rintro r6 s6 ⟨U6, hi6, r6b, ok6, rec6, cl6⟩
      have H6 := H4.up U6 hi6 ok6
      have n6 := H6.1.N
      have k6 := H6.1.K
      have v6 : ∀ v, v < nN b → v ≠ nK b → s6 187 v = h v := fun v hv hvk => by
        refine rec6.uniq hb.1.Jnn hh ?_ hv hvk
        refine cl6.symm.trans ?_
        exact ((Cls.refl h).add he0.symm).of (fun _ _ _ => rfl) (fun v _ _ => (Int.add_zero _).symm)
      have a192 : ∀ v, v < nN b → v ≠ nK b → s6 192 v = h v := fun v hv hvk => by rw [hi6 192 v (by decide), hi4 192 v (by decide), hi1 192 v (by decide), i1 192 v (by decide) (by decide)]; exact h192 v hv hvk
      refine ⟨by omega, fun z => absurd z (by omega), fun _ => ⟨_, la_are (b := s6) (a := s6) (arX (by decide) (by decide)) (by decide) (fun v hv hvk => ?_) ok6 (Eqv.refl s6) (Ah.refl s6), ?_⟩⟩
      · rw [n6] at hv
        rw [k6] at hvk
        have := rec_bd hb hh v
        have y : ext b h v = h v := if_pos ⟨hv, hvk⟩
        rw [a192 v hv hvk]
        unfold R32
        omega
      · rintro _ s7 ⟨E7, hi7, rfl⟩
        rw [ind_t (fun v hv hvk => by rw [n6] at hv; rw [k6] at hvk; rw [v6 v hv hvk, a192 v hv hvk])]
        refine ⟨by decide, fun z => absurd z (by decide), fun _ => ⟨rfl, H6.q E7 hi7, fun v hv hvk => ?_⟩⟩
        rw [hi7 191 v (by decide), hi6 191 v (by decide), hi4 191 v (by decide), hi1 191 v (by decide)]
        exact a191 v hv hvk
