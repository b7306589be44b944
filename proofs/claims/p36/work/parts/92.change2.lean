/-! reducing, the recurrent state, trees taken, states added, kept, taken back -/
theorem k_settled {n : Nat} {b a s2 : Sto} (hC : Conn b) (hb : OK b) (f1 : UpP b s2) (f2 : Ah a s2) (c2 : ∀ v, s2 187 v = b 187 v) : K_Fi_settle n 187 s2 (fun r s3 => UpP b s3 ∧ Ah a s3 ∧ ∃ f, Stl (Jm b) (nK b) (nN b) (b 187) f ∧ r = sumN (nN b) f ∧ (∀ v, v < nN b → v ≠ nK b → s3 187 v = b 187 v - lap (Jm b) (nN b) f v) ∧ OK s3 ∧ StbB s3) := by
  have hc2 : ChB s2 (s2 187) := by
    rw [show s2 187 = b 187 from funext c2]
    exact hb.2.2.2.2.of (f1.g 1 0 (by decide) (by decide)) (f1.g 1 2 (by decide) (by decide))
  have hs2 := f1.ok hb hc2
  have C2 : Conn s2 := hC.of f1.g
  have h := k_Fi_settle (n := n) (arSL arSC_187) (by decide) hs2.1 C2 hc2.ok
  refine Sp.mono ?_ h
  rintro r0 s3 ⟨r, rfl, w1, w2, w3⟩
  have st := w1.stl (by decide) hs2.1 w2
  have n2 : nN s2 = nN b := by show (s2 1 0).toNat = _; rw [f1.g 1 0 (by decide) (by decide)]
  have k2 : nK s2 = nK b := by show (s2 1 2).toNat = _; rw [f1.g 1 2 (by decide) (by decide)]
  have hJ : ∀ v w, v < nN b → w < nN b → Jm s2 v w = Jm b v w := Jm_of hb.1.1 f1.g
  rw [n2, k2] at st
  have st2 : Stl (Jm b) (nK b) (nN b) (b 187) (s3 41) := StlJ hJ (fun v _ => c2 v) st
  have f3' : UpP b s3 := f1.sc (fun k i hk => w1.1 k i (by omega) (by omega))
  have ch : ∀ v, v < nN b → v ≠ nK b → s3 187 v = b 187 v - lap (Jm b) (nN b) (s3 41) v := fun v hv hk => by
    rw [w1.2.2.2.2.1 v (by show v < nN s2; rw [n2]; exact hv) (by show v ≠ nK s2; rw [k2]; exact hk), c2]
    show _ - lap (Jm s2) (nN s2) (s3 41) v = _
    rw [n2, lapJ_congr hJ hv]
  have C3 : Conn s3 := hC.of f3'.g
  have g3 : ∀ k i, 1 ≤ k → k ≤ 13 → s3 k i = s2 k i := fun k i h1 h2 => w1.1 k i (by omega) (by omega)
  have n3 : nN s3 = nN s2 := by show (s3 1 0).toNat = _; rw [g3 1 0 (by decide) (by decide)]
  have k3 : nK s3 = nK s2 := by show (s3 1 2).toNat = _; rw [g3 1 2 (by decide) (by decide)]
  have S3 : StbB s3 := by
    unfold StbB
    rw [n3, k3]
    exact StbJ (fun v w hv hw => (Jm_of hs2.1.1 g3 v w hv hw).symm) (fun _ _ => rfl) w2
  have hw3 : WG s3 := hb.1.of f3'.g
  have hc3 : ChB s3 (s3 187) := by
    have z : ∀ v : Nat, v < 8 → ((v : Int) = s3 1 2 ∨ s3 1 0 ≤ v) → s3 187 v = 0 := fun v hv hz => w1.2.2.1 v hv (by rw [g3 1 0 (by decide) (by decide), g3 1 2 (by decide) (by decide)] at hz; exact hz)
    refine ⟨fun v hv => ⟨w1.2.1 v hv, ?_⟩, z⟩
    have hk3 := hw3.2.2.1
    have hn3 := hw3.1
    by_cases d : v < (s3 1 0).toNat ∧ v ≠ (s3 1 2).toNat
    · have := S3.con hw3 C3 d.1 d.2
      have := hw3.dbd d.1
      omega
    · rw [z v hv (by omega)]; decide
  refine ⟨_, rfl, f3', f2.sc (fun k i hk => w1.1 k i (by omega) (by omega)), s3 41, st2, ?_, ch, f3'.ok hb hc3, S3⟩
  rw [w3]
  show sumN (nN s2) (s3 41) = _
  rw [n2]
theorem UpP.N {b s : Sto} (h : UpP b s) : nN s = nN b := by show (s 1 0).toNat = _; rw [h.g 1 0 (by decide) (by decide)]
theorem UpP.K {b s : Sto} (h : UpP b s) : nK s = nK b := by show (s 1 2).toNat = _; rw [h.g 1 2 (by decide) (by decide)]
theorem UpP.J {b s : Sto} (h : UpP b s) (hb : OK b) : ∀ v w, v < nN b → w < nN b → Jm s v w = Jm b v w := Jm_of hb.1.1 h.g
theorem UpP.conn {b s : Sto} (h : UpP b s) : Conn s ↔ Conn b := ⟨fun c => c.of (fun k i h1 h2 => (h.g k i h1 h2).symm), fun c => c.of h.g⟩
/-- superstable: nothing fires -/
theorem sup_zero {b : Sto} {f : Nat → Int} (hb : OK b) (h : SupB b) (hf : Stl (Jm b) (nK b) (nN b) (b 187) f) : ∀ v, v < nN b → f v = 0 := by
  have h8 := nN_8 hb
  have ss : SSt (Jm b) (nK b) (nN b) (b 187) := ⟨fun v hv _ => (ch_R hb v (by omega)).1, h.2⟩
  have z : Stl (Jm b) (nK b) (nN b) (b 187) (fun _ => 0) := ⟨fun _ _ => Int.le_refl 0, rfl, fun v hv hk hd => by
    have t : b 187 v < dgr (Jm b) (nN b) v := ss.stb hb.1.Jnn hv hk
    show b 187 v - lap (Jm b) (nN b) (fun _ => 0) v < dgr (Jm b) (nN b) v
    rw [lap_zero, Int.sub_zero]
    exact t, LAP.zero⟩
  exact fun v hv => hf.uniq z hv
theorem R_sum {b : Sto} {v : Nat} (hb : OK b) (hv : v < 8) (hz : ¬ (v < nN b ∧ v ≠ nK b)) : b 187 v = 0 := by
  have := hb.1.2.2.1
  have := hb.1.1
  have c2 : ¬ (v < (b 1 0).toNat ∧ v ≠ (b 1 2).toNat) := hz
  exact hb.2.2.2.2.2 v hv (by omega)
theorem u_reduce {n : Nat} {b a s : Sto} (hC : Conn b) (hb : OK b) (E : Eqv b s) (hi : Ah a s) : K_Cg_reduce n s (fun r s' => UpP b s' ∧ Ah a s' ∧ (0 ≤ r ∧ r < 2147483648) ∧ OK s' ∧ SupB s' ∧ StbB s' ∧ Cls (Jm b) (nK b) (nN b) (b 187) (s' 187) ∧ (SupB b → r = 0)) := by
  have h8 := nN_8 hb
  refine e_Cg_reduce ⟨_, k_conn hb E hi, ?_⟩
  rintro _ s1 ⟨E1, hi1, rfl⟩
  rw [ind_t hC]
  refine ⟨by decide, fun _ => ⟨_, k_record hb E1 hi1, ?_⟩, fun z => absurd z (by decide)⟩
  rintro s2 ⟨f1, f2, f3⟩
  refine ⟨_, k_settled hC hb f1 f2 (fun v => (f3 187 v (by decide)).trans (E1.c v)), ?_⟩
  rintro r3 s3 ⟨g1, g2, f, g3, g4, g5, hs3, g7⟩
  have C3 : Conn s3 := g1.conn.mpr hC
  refine ⟨_, k_Fi_fireSets (arSL arSC_187) (by decide) hs3.1 C3 hs3.2.2.2.2.ok, ?_⟩
  rintro r s4 ⟨⟨f', hF, r0, rB⟩, hA, hZ⟩
  have bd := hF.bound hs3.1 C3 hs3.2.2.2.2.ok (by decide)
  obtain ⟨i1, i2, i3, i4, i5, i6⟩ := hF
  have u4 : UpP b s4 := g1.sc (fun k i hk => i1 k i (by omega) (by omega) (by omega))
  have a4 : Ah a s4 := g2.sc (fun k i hk => i1 k i (by omega) (by omega) (by omega))
  have hw4 : WG s4 := hb.1.of u4.g
  have gg : ∀ k i, 1 ≤ k → k ≤ 13 → s4 k i = s3 k i := fun k i h1 h2 => i1 k i (by omega) (by omega) (by omega)
  have hJ34 := Jm_of hs3.1.1 gg
  have n4 := u4.N
  have k4 := u4.K
  have n3 := g1.N
  have k3 := g1.K
  have C4 : Conn s4 := u4.conn.mpr hC
  have sup4 : SupB s4 := by
    refine ⟨C4, ?_⟩
    have e1 : nN s4 = (s3 1 0).toNat := n4.trans n3.symm
    have e2 : nK s4 = (s3 1 2).toNat := k4.trans k3.symm
    rw [e1, e2]
    exact (AllB.congr (fun v w hv hw => (hJ34 v w hv hw).symm) (fun _ _ => rfl)).mp hA
  have z4 : ∀ v : Nat, v < 8 → ((v : Int) = s4 1 2 ∨ s4 1 0 ≤ v) → s4 187 v = 0 := fun v hv hz => by
    rw [gg 1 0 (by decide) (by decide), gg 1 2 (by decide) (by decide)] at hz
    rw [i3 v hz]
    exact hs3.2.2.2.2.2 v hv hz
  have ss4 : SSt (Jm s4) (nK s4) (nN s4) (s4 187) := ⟨fun v hv _ => i2 v (by rw [n4] at hv; omega), sup4.2⟩
  have hc4 : ChB s4 (s4 187) := by
    refine ⟨fun v hv => ⟨i2 v hv, ?_⟩, z4⟩
    have hk3 := hw4.2.2.1
    have hn3 := hw4.1
    by_cases d : v < (s4 1 0).toNat ∧ v ≠ (s4 1 2).toNat
    · have := ss4.stb hw4.Jnn d.1 d.2
      have := hw4.dbd d.1
      omega
    · rw [z4 v hv (by omega)]; decide
  refine ⟨u4, a4, by omega, u4.ok hb hc4, sup4, fun v hv hk _ => ss4.stb hw4.Jnn hv hk, ?_, fun hS => ?_⟩
  · refine ⟨fun v => f v + f' v, ?_, fun v hv hk => ?_⟩
    · have : f' (nK b) = 0 := by rw [← k3]; exact i6
      dsimp only
      rw [g3.2.1, this]; rfl
    · have e := i4 v (by show v < nN s3; rw [n3]; exact hv) (by show v ≠ nK s3; rw [k3]; exact hk)
      have e2 : lap (Jm s3) (s3 1 0).toNat f' v = lap (Jm b) (nN b) f' v := by
        show lap (Jm s3) (nN s3) f' v = _
        rw [n3]
        exact lapJ_congr (g1.J hb) hv
      rw [e, e2, g5 v hv hk, lap_add]
      omega
  · have fz := sup_zero hb hS g3
    refine (hZ ?_).1
    have e1 : (s3 1 0).toNat = nN b := n3
    have e2 : (s3 1 2).toNat = nK b := k3
    rw [e1, e2]
    refine (AllB.congr (g1.J hb) (fun v hv => ?_)).mpr hS.2
    congr 1
    by_cases c : v = nK b
    · rw [R_sum hs3 (by omega) (by rw [k3]; exact fun z => z.2 c), R_sum hb (by omega) (fun z => z.2 c)]
    · rw [g5 v hv c, lap_congr (g := fun _ => 0) fz hv, lap_zero]
      omega
theorem u_makeRecurrent {n : Nat} {b a s : Sto} (hC : Conn b) (hb : OK b) (E : Eqv b s) (hi : Ah a s) : K_Cg_makeRecurrent n s (fun r s' => UpP b s' ∧ Ah a s' ∧ (r = 0 ∨ r = 1) ∧ OK s' ∧ RecB s' ∧ Cls (Jm b) (nK b) (nN b) (b 187) (s' 187) ∧ (RecB b → r = 0)) := by
  have h8 := nN_8 hb
  refine e_Cg_makeRecurrent ⟨_, k_conn hb E hi, ?_⟩
  rintro _ s1 ⟨E1, hi1, rfl⟩
  rw [ind_t hC]
  refine ⟨by decide, fun _ => ⟨_, k_record hb E1 hi1, ?_⟩, fun z => absurd z (by decide)⟩
  rintro s2 ⟨f1, f2, f3⟩
  refine ⟨_, k_Cg_copyChips (arSL arSC_187) (arSL arSC_188) (by decide), ?_⟩
  rintro s3 rfl
  have u3 : UpP b (wr s2 188 (cut (s2 187) (s2 188))) := f1.sc (fun k i hk => wr_ne (by omega))
  have a3 : Ah a (wr s2 188 (cut (s2 187) (s2 188))) := f2.sc (fun k i hk => wr_ne (by omega))
  have v88 : ∀ v, v < 8 → wr s2 188 (cut (s2 187) (s2 188)) 188 v = b 187 v := fun v hv => by rw [wr_eq, cut_lt hv, f3 187 v (by decide), E1.c]
  have v87 : ∀ v, wr s2 188 (cut (s2 187) (s2 188)) 187 v = b 187 v := fun v => by rw [wr_ne (by decide), f3 187 v (by decide), E1.c]
  generalize wr s2 188 (cut (s2 187) (s2 188)) = s3 at *
  have hc3 : ChB s3 (s3 187) := by
    rw [show s3 187 = b 187 from funext v87]
    exact hb.2.2.2.2.of (u3.g 1 0 (by decide) (by decide)) (u3.g 1 2 (by decide) (by decide))
  have hs3 := u3.ok hb hc3
  have C3 := u3.conn.mpr hC
  refine ⟨_, k_Fi_toRecurrent (arSL arSC_187) (by decide) hs3.1 C3 hc3.ok, ?_⟩
  rintro s4 ⟨w1, w2, w3, w4, w5⟩
  have u4 : UpP b s4 := u3.sc (fun k i hk => w1 k i (by omega) (by omega) (by omega) (by omega))
  have a4 : Ah a s4 := a3.sc (fun k i hk => w1 k i (by omega) (by omega) (by omega) (by omega))
  have e88 : ∀ v, s4 188 v = s3 188 v := fun v => w1 188 v (by decide) (by decide) (by decide) (by decide)
  refine ⟨_, k_Cg_isEqual (arSL arSC_187) (arSL arSC_188) (fun v hv => by have := w5 v hv; unfold R32; omega) (fun v hv => by rw [e88, v88 v hv]; exact R_ch hb v hv), ?_⟩
  rintro r5 s5 ⟨rfl, g5⟩
  have n3 : (s3 1 0).toNat = nN b := u3.N
  have k3 : (s3 1 2).toNat = nK b := u3.K
  rw [n3, k3] at w2 w3
  have n4 := u4.N
  have k4 := u4.K
  have rb : Rec (Jm b) (nK b) (nN b) (s5 187) := RecJ (u3.J hb) (fun _ _ => rfl) w2
  have rs : RecB s5 := ⟨u4.conn.mpr hC, by
    rw [n4, k4]
    exact RecJ (fun v w hv hw => (u4.J hb v w hv hw).symm) (fun _ _ => rfl) rb⟩
  have cl : Cls (Jm b) (nK b) (nN b) (b 187) (s5 187) := ClsJ (u3.J hb) (fun v _ _ => v87 v) (fun _ _ _ => rfl) w3
  have hc5 : ChB s5 (s5 187) := ⟨fun v hv => by have := w5 v hv; omega, fun v hv hz => w4 v hv (by rw [u3.g 1 0 (by decide) (by decide), u3.g 1 2 (by decide) (by decide)]; rw [u4.g 1 0 (by decide) (by decide), u4.g 1 2 (by decide) (by decide)] at hz; exact hz)⟩
  have ok5 := u4.ok hb hc5
  refine ⟨by omega, fun z => ⟨u4, a4, Or.inr rfl, ok5, rs, cl, fun hr => ?_⟩, fun z => ⟨u4, a4, Or.inl rfl, ok5, rs, cl, fun _ => rfl⟩⟩
  exfalso
  refine (g5.resolve_left (by omega)).2 (fun v hv => ?_)
  rw [e88, v88 v hv]
  by_cases c : v < nN b ∧ v ≠ nK b
  · exact rb.uniq hb.1.Jnn hr.2 cl.symm c.1 c.2
  · rw [R_sum ok5 hv (by rw [n4, k4]; exact c), R_sum hb hv c]
theorem u_takeTree {n T : Nat} {b a s : Sto} (hT : SpT b T) (hb : OK b) (E : Eqv b s) (hi : Ah a s) : K_Cg_takeTree n T s (fun r s' => UpP b s' ∧ Ah a s' ∧ r = sumN 8 (s' 187) ∧ OK s' ∧ RecB s' ∧ TreeOf b T (s' 187)) := by
  have h8 := nN_8 hb
  have hm := hb.1.2.1
  have l20 : T < 1048576 := by
    have := hT.lt
    have : 2 ^ (b 1 1).toNat ≤ 2 ^ 20 := Nat.pow_le_pow_right (by decide) (by omega)
    have : (2 : Nat) ^ 20 = 1048576 := by decide
    omega
  refine e_Cg_takeTree ⟨_, k_span (by unfold R32; omega) hb E hi, ?_⟩
  rintro r s1 ⟨E1, hi1, g⟩
  rw [toNat_n] at g
  have g1 := g.resolve_right (fun z => z.2 ⟨by omega, hT⟩)
  refine ⟨by omega, fun _ => ⟨_, k_record hb E1 hi1, ?_⟩, fun z => absurd z (by omega)⟩
  rintro s2 ⟨f1, f2, f3⟩
  have hw2 : WG s2 := hb.1.of f1.g
  refine ⟨_, k_Tr_toStateOf (T := T) (arSL arSC_187) (by decide) (by omega) hw2, ?_⟩
  rintro s3 ⟨w1, w2⟩
  refine ⟨_, k_Cg_sumOf (arSL arSC_187), ?_⟩
  rintro _ s4 ⟨rfl, rfl⟩
  have u3 : UpP b s4 := f1.sc (fun k i hk => w1 k i (by omega) (by omega))
  have a3 : Ah a s4 := f2.sc (fun k i hk => w1 k i (by omega) (by omega))
  have n2 := f1.N
  have k2 := f1.K
  have n3 := u3.N
  have k3 := u3.K
  have tC : ∀ (c0 : Nat → Int) v, v < nN b → treeC s2 (decT T) (s2 1 1).toNat c0 v = treeC b (decT T) (b 1 1).toNat c0 v := fun c0 v hv => by
    have e2 : s2 2 = b 2 := funext fun i => f1.g 2 i (by decide) (by decide)
    have e3 : s2 3 = b 3 := funext fun i => f1.g 3 i (by decide) (by decide)
    have eN : (s2 1 0).toNat = nN b := n2
    have eK : (s2 1 2).toNat = nK b := k2
    have e11 := f1.g 1 1 (by decide) (by decide)
    unfold treeC wl
    rw [e2, e3, e11, eN, eK, dgrJ_congr (f1.J hb) hv]
  have mk := hT.marked hb.1
  have ind0 : ∀ (c0 c1 : Nat → Int) v, v < nN b → v ≠ nK b → treeC b (decT T) (b 1 1).toNat c0 v = treeC b (decT T) (b 1 1).toNat c1 v := fun c0 c1 v hv hk => by
    unfold treeC
    rw [if_pos ⟨mk v hv, hk⟩, if_pos ⟨mk v hv, hk⟩]
  have t3 : TreeOf b T (s4 187) := ⟨hT, fun c0 v hv hk => by
    rw [w2 v (by omega), tC _ v hv]
    exact ind0 _ _ v hv hk⟩
  have rb : Rec (Jm b) (nK b) (nN b) (s4 187) := (hT.recur hb.1 (c0 := s4 187) (fun v hv hk => (t3.2 _ v hv hk).symm)).1
  have rs : RecB s4 := ⟨u3.conn.mpr (tree_conn hb.1 hT), by
    rw [n3, k3]
    exact RecJ (fun v w hv hw => (u3.J hb v w hv hw).symm) (fun _ _ => rfl) rb⟩
  have z : ∀ v : Nat, v < 8 → ¬ (v < nN b ∧ v ≠ nK b) → s4 187 v = 0 := fun v hv hz => by
    have hn := hb.1.1
    have hk := hb.1.2.2.1
    rw [w2 v hv]
    unfold treeC
    have e : (s2 1 2).toNat = nK b := k2
    have wi := wl_inv hw2 (decT T) (s2 1 1).toNat
    rw [if_neg (fun y => hz ⟨?_, by rw [← e]; exact y.2⟩), f3 187 v (by decide), E1.c]
    · exact R_sum hb hv hz
    · have := wi.2.1 v y.1
      have e2 : (s2 1 0).toNat = nN b := n2
      omega
  have hc3 : ChB s4 (s4 187) := by
    have hn := hb.1.1
    have hk := hb.1.2.2.1
    refine ⟨fun v hv => ?_, fun v hv hz => z v hv (fun y => ?_)⟩
    · by_cases c : v < nN b ∧ v ≠ nK b
      · have := rb.1 v c.1 c.2
        have d : dgr (Jm b) (b 1 0).toNat v ≤ 20 := (hb.1.dbd c.1).2
        have d2 : dgr (Jm b) (nN b) v ≤ 20 := d
        omega
      · rw [z v hv c]; decide
    · rw [u3.g 1 0 (by decide) (by decide), u3.g 1 2 (by decide) (by decide)] at hz
      have y1 : v < (b 1 0).toNat := y.1
      have y2 : v ≠ (b 1 2).toNat := y.2
      omega
  exact ⟨u3, a3, rfl, u3.ok hb hc3, rs, t3⟩
