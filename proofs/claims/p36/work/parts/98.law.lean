/-! the law itself -/
abbrev Ql : Int → Sto → Prop := fun r _ => r = 1
def PL (n m : Int) (s : Sto) : Prop := OK s ∧ s 1 0 = n ∧ s 1 1 = m ∧ s 32 2 = 0
theorem PL.q {n m : Int} {s s' : Sto} (h : PL n m s) (E : Eqv s s') : PL n m s' := ⟨E.ok h.1, (E.g 1 0 (by decide) (by decide)).trans h.2.1, (E.g 1 1 (by decide) (by decide)).trans h.2.2.1, (E 32 2 (by omega)).trans h.2.2.2⟩
theorem PL.same {n m : Int} {s s' : Sto} (h : PL n m s) (S : SameG s s') (ok : OK s') : PL n m s' := ⟨ok, (S.g 1 0 (by decide) (by decide)).trans h.2.1, (S.g 1 1 (by decide) (by decide)).trans h.2.2.1, (S 32 2 (by omega)).trans h.2.2.2⟩
theorem PL.qc {n m r : Int} {s s' : Sto} (h : PL n m s) (S : Qc s r s') : PL n m s' := ⟨S.2.2.1, (S.2.1 1 0 (by decide) (by decide)).trans h.2.1, (S.2.1 1 1 (by decide) (by decide)).trans h.2.2.1, S.2.2.2.trans h.2.2.2⟩
/-- 77 chips set and taken back -/
theorem lw_77 {cs ss : Nat} {x3 x4 : Int} {e : Nat} (he : e < 8) (hcs : cs ≤ 190 + 7 * e ∧ ss ≤ 3560 + 56 * e) (next : ∀ s', PL x3 x4 s' → H_La_law_287 0 (cs + 7) (ss + 56) Ql x3 x4 ((e : Int) + 1) s') {q : Sto} (P : PL x3 x4 q) : ∃ Q336 : Int → Sto → Prop, K_Cg_value 0 5 q Q336 ∧ ∀ r339 s338, Q336 r339 s338 → (cs + 7 ≤ 600000 ∧ ss + 56 ≤ 7302250) ∧ ∃ Q342 : Int → Sto → Prop, K_Cg_value 0 4 s338 Q342 ∧ ∀ r345 s344, Q342 r345 s344 → (cs + 7 ≤ 600000 ∧ ss + 56 ≤ 7302250) ∧ ∃ Q348 : Int → Sto → Prop, K_Cg_value 0 2 s344 Q348 ∧ ∀ r351 s350, Q348 r351 s350 → ∃ J355 : Int → Prop, (∀ v354, J355 v354 → (cs + 7 ≤ 600000 ∧ ss + 56 ≤ 7302250) ∧ ∃ Q358 : Int → Sto → Prop, K_Cg_chips 0 v354 s350 Q358 ∧ ∀ r361 s360, Q358 r361 s360 → (cs + 7 ≤ 600000 ∧ ss + 56 ≤ 7302250) ∧ ∃ Q364 : Int → Sto → Prop, K_Cg_setChips 0 v354 77 s360 Q364 ∧ ∀ r367 s366, Q364 r367 s366 → ((-2147483648 ≤ r367 ∧ r367 < 2147483648) ∧ -2147483648 ≤ r361 ∧ r361 < 2147483648) ∧ ((¬ r367 = r361) → (cs + 7 ≤ 600000 ∧ ss + 56 ≤ 7302250) ∧ Ql 0 s366) ∧ ((r367 = r361) → (cs + 7 ≤ 600000 ∧ ss + 56 ≤ 7302250) ∧ ∃ Q373 : Int → Sto → Prop, K_Cg_value 0 5 s366 Q373 ∧ ∀ r376 s375, Q373 r376 s375 → ∃ J381 : Int → Prop, (∀ v380, J381 v380 → ((-2147483648 ≤ r376 ∧ r376 < 2147483648) ∧ -2147483648 ≤ v380 ∧ v380 < 2147483648) ∧ ((¬ r376 = v380) → (cs + 7 ≤ 600000 ∧ ss + 56 ≤ 7302250) ∧ Ql 0 s375) ∧ ((r376 = v380) → (cs + 7 ≤ 600000 ∧ ss + 56 ≤ 7302250) ∧ ∃ Q387 : Int → Sto → Prop, K_Cg_undo 0 s375 Q387 ∧ ∀ r390 s389, Q387 r390 s389 → ∃ J394 : Int → Prop, (∀ v393, J394 v393 → ((-2147483648 ≤ r390 ∧ r390 < 2147483648) ∧ -2147483648 ≤ v393 ∧ v393 < 2147483648) ∧ ((¬ r390 = v393) → (cs + 7 ≤ 600000 ∧ ss + 56 ≤ 7302250) ∧ Ql 0 s389) ∧ ((r390 = v393) → (cs + 7 ≤ 600000 ∧ ss + 56 ≤ 7302250) ∧ ∃ Q400 : Int → Sto → Prop, K_Cg_chips 0 v354 s389 Q400 ∧ ∀ r403 s402, Q400 r403 s402 → ((-2147483648 ≤ r403 ∧ r403 < 2147483648) ∧ -2147483648 ≤ r361 ∧ r361 < 2147483648) ∧ ((¬ r403 = r361) → (cs + 7 ≤ 600000 ∧ ss + 56 ≤ 7302250) ∧ Ql 0 s402) ∧ ((r403 = r361) → (cs + 7 ≤ 600000 ∧ ss + 56 ≤ 7302250) ∧ ∃ Q409 : Int → Sto → Prop, K_Cg_value 0 4 s402 Q409 ∧ ∀ r412 s411, Q409 r412 s411 → ((-2147483648 ≤ r412 ∧ r412 < 2147483648) ∧ -2147483648 ≤ r345 ∧ r345 < 2147483648) ∧ ((r412 = r345) → H_La_law_287 0 (cs + 7) (ss + 56) Ql x3 x4 ((e : Int) + 1) s411) ∧ ((¬ r412 = r345) → (cs + 7 ≤ 600000 ∧ ss + 56 ≤ 7302250) ∧ Ql 0 s411)))) ∧ (-2147483648 ≤ r339 ∧ r339 < 2147483648) ∧ ((12 ≤ r339) → J394 11) ∧ ((r339 < 12) → J394 r339))) ∧ (-2147483648 ≤ r339 ∧ r339 < 2147483648) ∧ ((12 ≤ r339) → J381 12) ∧ ((r339 < 12) → J381 (r339 + 1)))) ∧ (-2147483648 ≤ r351 ∧ r351 < 2147483648) ∧ ((¬ r351 = 0) → J355 0) ∧ ((r351 = 0) → J355 1) := by
  have hb := P.1
  have hn := hb.1.1
  have hk := hb.1.2.2.1
  have hh := hb.2.2.1.1
  have C : cs + 7 ≤ 600000 ∧ ss + 56 ≤ 7302250 := by omega
  have sb : 0 ≤ sumN 8 (q 187) ∧ sumN 8 (q 187) ≤ 16000 := by
    have l1 := sumN_nn (n := 8) (f := q 187) (fun v hv => (ch_R hb v hv).1)
    have l2 := sumN_le (n := 8) (f := q 187) (g := fun _ => 2000) (fun v hv => (ch_R hb v hv).2)
    rw [sumN_const] at l2
    omega
  refine ⟨_, q_value5 (b := q) (a := q) hb (Eqv.refl q) (Ah.refl q), ?_⟩
  rintro _ s1 ⟨E, hi, rfl⟩
  refine ⟨C, _, q_value4 hb E hi, ?_⟩
  rintro _ s2 ⟨E, hi, rfl⟩
  refine ⟨C, _, q_value2 hb E hi, ?_⟩
  rintro _ s3 ⟨E, hi, rfl⟩
  refine ⟨fun v => (0 ≤ v ∧ v < q 1 0) ∧ v ≠ q 1 2, fun v hv => ⟨C, _, q_chips hv hb E hi, ?_⟩, by omega, fun z => by omega, fun z => by omega⟩
  rintro _ s4 ⟨E, hi, rfl⟩
  have cv := ch_R hb v.toNat (by omega)
  refine ⟨C, _, u_setChips hv (by decide) hb E hi, ?_⟩
  rintro r5 s5 ⟨U, hi5, r5, v5⟩
  have w5 := U.2.1.1
  have h5 := U.2.2.1
  have ok5 : OK s5 := by
    refine U.ok hb ?_
    rw [show s5 187 = fu (q 187) v.toNat 77 from funext v5]
    exact (fu_ChB hb.2.2.2.2 (by omega) (by decide)).of (U.g 1 0 (by decide) (by decide)) (U.g 1 2 (by decide) (by decide))
  have hpos : 0 < s5 17 0 := by rw [h5]; split <;> omega
  refine ⟨by omega, fun z => absurd r5 z, fun _ => ⟨C, _, q_value5 (b := s5) (a := s5) ok5 (Eqv.refl s5) (Ah.refl s5), ?_⟩⟩
  rintro _ s6 ⟨E6, hi6, rfl⟩
  refine ⟨fun x => x = s5 17 0, fun x hx => ⟨⟨by omega, by omega⟩, fun z => absurd hx.symm z, fun _ => ⟨C, _, u_undo (b := s5) (a := s5) hpos ok5 E6 hi6, ?_⟩⟩, by omega, fun z => ?_, fun z => ?_⟩
  · rintro r7 s7 ⟨g7, hi7, w7, r7, h7, v7⟩
    have v7q : ∀ u, u < 8 → s7 187 u = q 187 u := fun u hu => (v7 u hu).trans (U.2.2.2 u hu)
    have S7 : SameG q s7 := fun k i hk => (g7 k i hk).trans (U.1 k i hk)
    have ok7 : OK s7 := by
      refine ⟨hb.1.of S7.g, by rw [S7.g 1 1 (by decide) (by decide)]; exact hb.2.1, w7, fun i hi => by rw [S7 32 i (by omega)]; exact hb.2.2.2.1 i hi, fun u hu => by rw [v7q u hu]; exact hb.2.2.2.2.1 u hu, fun u hu hz => ?_⟩
      rw [v7q u hu]
      rw [S7.g 1 0 (by decide) (by decide), S7.g 1 2 (by decide) (by decide)] at hz
      exact hb.2.2.2.2.2 u hu hz
    have P7 := P.same S7 ok7
    refine ⟨fun y => y = s5 17 0 - 1, fun y hy => ⟨⟨by omega, by omega⟩, fun z => absurd (r7.trans hy.symm) z, fun _ => ⟨C, _, q_chips (b := s7) (a := s7) (by rw [S7.g 1 0 (by decide) (by decide), S7.g 1 2 (by decide) (by decide)]; exact hv) ok7 (Eqv.refl s7) (Ah.refl s7), ?_⟩⟩, by omega, fun z => ?_, fun z => ?_⟩
    · rintro _ s8 ⟨E8, hi8, rfl⟩
      have cv7 := v7q v.toNat (by omega)
      refine ⟨⟨by omega, by omega⟩, fun z => absurd cv7 z, fun _ => ⟨C, _, q_value4 (b := s7) (a := s7) ok7 E8 hi8, ?_⟩⟩
      rintro _ s9 ⟨E9, hi9, rfl⟩
      have se : sumN 8 (s7 187) = sumN 8 (q 187) := sumN_congr v7q
      exact ⟨⟨by omega, by omega⟩, fun _ => next s9 (P7.q E9), fun z => absurd se z⟩
    · rw [h5]; split <;> omega
    · rw [h5]; split <;> omega
  · rw [h5]; split <;> omega
  · rw [h5]; split <;> omega
theorem lw_416 {cs ss : Nat} {x3 x4 x6 x7 : Int} {e : Nat} (he : e < 8) (hcs : cs ≤ 190 + 7 * e ∧ ss ≤ 3560 + 56 * e) (next : ∀ s', PL x3 x4 s' → H_La_law_287 0 (cs + 7) (ss + 56) Ql x3 x4 ((e : Int) + 1) s') {q : Sto} (P : PL x3 x4 q) : H_La_law_416 0 cs ss Ql x3 x4 e x6 x7 0 q := by
  have n3 : 2 ≤ x3 ∧ x3 ≤ 8 := by rw [← P.2.1]; exact P.1.1.1
  have C0 : cs + 0 ≤ 600000 ∧ ss + 0 ≤ 7302250 := by omega
  have C4 : cs + 4 ≤ 600000 ∧ ss + 32 ≤ 7302250 := by omega
  have C7 : cs + 7 ≤ 600000 ∧ ss + 56 ≤ 7302250 := by omega
  refine loop_inv (α := Sto) (N := x3.toNat) (fun j p => PL x3 x4 p ∧ ∀ v, v < j → v ≠ nK p → p 187 v ≤ 30) (fun j p => H_La_law_416 0 cs ss Ql x3 x4 e x6 x7 j p) (fun j p hj hI ih => ?_) (fun p hI => ?_) 0 q (by omega) ⟨P, fun v hv => absurd hv (by omega)⟩
  · obtain ⟨P, h30⟩ := hI
    have hb := P.1
    have hn := P.2.1
    have hk := hb.1.2.2.1
    have set : ∀ (c : Int) (p' : Sto), Eqv p p' → (j : Int) ≠ p 1 2 → 0 ≤ c → c < 30 → K_Cg_setChips 0 j c p' (fun r s' => H_La_law_416 0 cs ss Ql x3 x4 e x6 x7 ((j : Int) + 1) s') := fun c p' E hjk h0 h1 => by
      have k := u_setChips (n := 0) (b := p) (a := p') (s := p') (x := (j : Int)) (y := c) (by omega) (by omega) hb E (Ah.refl p')
      refine Sp.mono ?_ k
      rintro r0 s' ⟨r, rfl, U, _, _, v'⟩
      rw [toNat_n] at v'
      refine ⟨r, rfl, ?_⟩
      rw [nat_suc]
      have ok' : OK s' := by
        refine U.ok hb ?_
        rw [show s' 187 = fu (p 187) j c from funext v']
        exact (fu_ChB hb.2.2.2.2 (by omega) (by omega)).of (U.g 1 0 (by decide) (by decide)) (U.g 1 2 (by decide) (by decide))
      refine ih s' ⟨P.same U.same ok', fun v hv hvk => ?_⟩
      rw [U.K] at hvk
      rw [v']
      unfold fu
      by_cases z : v = j
      · rw [if_pos z]; omega
      · rw [if_neg z]; exact h30 v (by omega) hvk
    refine b_La_law_416 ⟨by omega, fun z => absurd z (by omega), fun _ => ⟨C0, _, q_value2 (b := p) (a := p) hb (Eqv.refl p) (Ah.refl p), ?_⟩⟩
    rintro _ s1 ⟨E, hi, rfl⟩
    refine ⟨by omega, fun z => ?_, fun z => ⟨C0, _, la_low (by decide), ?_⟩⟩
    · rw [nat_suc]
      refine ih s1 ⟨P.q E, fun v hv hvk => ?_⟩
      rw [E.K] at hvk
      have : v ≠ (p 1 2).toNat := hvk
      rw [E.c]
      exact h30 v (by omega) hvk
    · rintro r2 s2 ⟨rfl, r2a, r2b⟩
      refine ⟨by omega, fun _ => ⟨C0, _, la_low (by decide), ?_⟩, fun _ => ⟨C0, _, la_low (by decide), ?_⟩⟩
      · rintro r3 s3 ⟨rfl, r3a, r3b⟩
        exact ⟨C0, _, set r3 _ E z r3a (by omega), fun _ _ h => h⟩
      · rintro r3 s3 ⟨rfl, r3a, r3b⟩
        exact ⟨C0, _, set r3 _ E z r3a r3b, fun _ _ h => h⟩
  · obtain ⟨P, h30⟩ := hI
    have hb := P.1
    have hn := P.2.1
    have n8 := nN_8 hb
    have eN : nN p = x3.toNat := by show (p 1 0).toNat = _; rw [hn]
    have hT : sumN 8 (p 187) ≤ 2000 := by
      have l2 := sumN_le (n := 8) (f := p 187) (g := fun _ => 30) (fun v hv => by
        by_cases z : v < nN p ∧ v ≠ nK p
        · exact h30 v (by omega) z.2
        · rw [R_sum hb hv z]; decide)
      rw [sumN_const] at l2
      omega
    refine b_La_law_416 ⟨by omega, fun _ => ⟨C0, _, la_burning (b := p) (a := p) hb (Eqv.refl p) (Ah.refl p), ?_⟩, fun z => absurd z (by omega)⟩
    rintro _ s1 ⟨E1, _, rfl⟩
    refine ⟨by decide, fun z => absurd z (by decide), fun _ => ⟨C4, _, la_settles hT hb E1, ?_⟩⟩
    rintro _ s2 ⟨rfl, S2, ok2, st2⟩
    have P2 := P.same S2 ok2
    refine ⟨by decide, fun _ => ⟨C4, _, q_value3 (b := s2) (a := s2) ok2 (Eqv.refl s2) (Ah.refl s2), ?_⟩, fun z => absurd z (by decide)⟩
    rintro _ s3 ⟨E3, _, rfl⟩
    have i01 := ind_01 (Conn s2)
    have P3 := P2.q E3
    refine ⟨fun s' => PL x3 x4 s', fun s' P' => ⟨C7, lw_77 he hcs next P'⟩, by omega, fun z => P3, fun z => ⟨C7, ?_⟩⟩
    have hC : Conn s2 := Classical.byContradiction fun y => by rw [ind_f y] at z; cases z
    have C3 : Conn s3 := E3.conn.mpr hC
    have st3 : StbB s3 := (E3.stb ok2).mpr (st2 (S2.conn.mp hC))
    refine ⟨_, la_classes C3 st3 P3.1 (Eqv.refl s3), ?_⟩
    rintro _ s4 ⟨rfl, g4, ok4, t4⟩
    have P4 : PL x3 x4 s4 := P3.qc (r := 1) ⟨rfl, g4, ok4, t4⟩
    have tm : Int.tmod (e : Int) 3 = (e : Int) % 3 := Int.tmod_eq_emod_of_nonneg (by omega)
    refine ⟨by decide, fun y => absurd y (by decide), fun _ => ⟨by omega, by omega, fun _ => P4, fun _ => ⟨C7, _, la_group (g4.conn.mpr C3) ok4 (Eqv.refl s4), ?_⟩⟩⟩
    rintro _ s5 ⟨rfl, g5, ok5, t5⟩
    exact ⟨by decide, fun _ => P4.qc (r := 1) ⟨rfl, g5, ok5, t5⟩, fun y => absurd y (by decide)⟩
theorem lw_287 {x3 : Int} : ∀ (d e : Nat) (x4 : Int) (cs ss : Nat) (s : Sto), 8 - e < d → e ≤ 8 → cs ≤ 190 + 7 * e ∧ ss ≤ 3560 + 56 * e → PL x3 x4 s → H_La_law_287 0 cs ss Ql x3 x4 e s := by
  intro d
  induction d with
  | zero => intro e x4 cs ss s hd; omega
  | succ d ih =>
    intro e x4 cs ss s hd he hcs P
    have hb := P.1
    have hn := P.2.1
    have hm := P.2.2.1
    have hnr := hb.1.1
    have hmr := hb.1.2.1
    have hk := hb.1.2.2.1
    have C0 : cs + 0 ≤ 600000 ∧ ss + 0 ≤ 7302250 := by omega
    refine b_La_law_287 ⟨by omega, fun _ => ⟨C0, _, la_errors (b := s) (a := s) P.2.2.2 hb (Eqv.refl s) (Ah.refl s), ?_⟩, fun hlt => ?_⟩
    · rintro _ s1 ⟨E, _, rfl⟩
      exact ⟨C0, Or.inr rfl, rfl⟩
    · have go : ∀ (y4 : Int) (x6 x7 : Int) (s' : Sto), PL x3 y4 s' → H_La_law_416 0 cs ss Ql x3 y4 e x6 x7 0 s' := fun y4 x6 x7 s' P' => lw_416 (by omega) hcs (fun s'' P'' => ih (e + 1) y4 (cs + 7) (ss + 56) s'' (by omega) (by omega) (by omega) P'') P'
      refine ⟨C0, _, k_La_cell (by omega), ?_⟩
      rintro r1 s1 ⟨rfl, r1a, r1b⟩
      refine ⟨C0, _, k_La_cell (by omega), ?_⟩
      rintro r2 s2 ⟨rfl, r2a, r2b⟩
      refine ⟨C0, _, la_low (by decide), ?_⟩
      rintro r3 s3 ⟨rfl, r3a, r3b⟩
      refine ⟨True, fun _ => ⟨by omega, fun _ => go x4 r1 r2 s3 P, fun _ => ⟨C0, _, q_value2 (b := s3) (a := s3) hb (Eqv.refl s3) (Ah.refl s3), ?_⟩⟩, by omega, fun _ => trivial, fun _ => ⟨by omega, fun _ => trivial, fun hpos => ⟨C0, _, la_low (by omega), ?_⟩⟩⟩
      · rintro _ s4 ⟨E4, hi4, rfl⟩
        refine ⟨C0, _, la_low (m := x3) (by omega), ?_⟩
        rintro r5 s5 ⟨rfl, r5a, r5b⟩
        refine ⟨C0, _, u_setSink (b := s3) (a := s3) (x := r5) (by omega) hb E4 hi4, ?_⟩
        rintro r6 s6 ⟨_, r6, ok6, g0, g1, g2, gs⟩
        have P6 : PL x3 x4 s6 := ⟨ok6, g0.trans hn, g1.trans hm, by rcases gs 2 (by decide) with z | z; exact z; exact z.trans P.2.2.2⟩
        refine ⟨by omega, fun z => absurd r6 z, fun _ => ⟨C0, _, q_value2 (b := s6) (a := s6) ok6 (Eqv.refl s6) (Ah.refl s6), ?_⟩⟩
        rintro _ s7 ⟨E7, hi7, rfl⟩
        exact ⟨by omega, fun _ => go x4 r1 r2 s7 (P6.q E7), fun z => absurd g2 z⟩
      · rintro r4 s4 ⟨rfl, r4a, r4b⟩
        refine ⟨C0, _, u_removeEdge (b := s4) (a := s4) (x := r4) (by omega) hb (Eqv.refl s4) (Ah.refl s4), ?_⟩
        rintro r5 s5 ⟨_, r5, ok5, ng, g0, g1, g2, _⟩
        exact ⟨by omega, fun _ => go (x4 - 1) r1 r2 s5 ⟨ok5, g0.trans hn, by omega, ng.2 2 (by decide)⟩, fun z => absurd (by omega) z⟩
