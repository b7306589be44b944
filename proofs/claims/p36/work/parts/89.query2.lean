/-! answers that leave all as it is: stabilizing counted, the group -/
theorem wr_ok {s : Sto} {k : Nat} {f : Nat → Int} (hs : OK s) (hk : 37 ≤ k) (hk2 : k ≠ 187) : OK (wr s k f) := Eqv.ok (b := s) (fun k' i h => wr_ne (by omega)) hs
/-- a copy of chips is chips -/
theorem ChB.cut {b : Sto} {c g : Nat → Int} (h : ChB b c) : ChB b (cut c g) := ⟨fun v hv => by rw [cut_lt hv]; exact h.1 v hv, fun v hv hz => by rw [cut_lt hv]; exact h.2 v hv hz⟩
theorem SI.stl {s q : Sto} {k : Nat} (hkk : 41 < k) (h : WG s) (hI : SI s k q) (hS : Stb (Jm s) (nK s) (nN s) (q k)) : Stl (Jm s) (nK s) (nN s) (s k) (q 41) := by
  obtain ⟨i1, i2, i3, i4, i5, i6, i7, i8⟩ := hI
  exact ⟨fun v hv => i6 v hv, i7, fun v hv hk hd => by have := hS v hv hk hd; rw [i5 v hv hk] at this; exact this, i8⟩
theorem q_firings {n : Nat} {b a s : Sto} {x : Int} {f : Nat → Int} (hf : Stl (Jm b) (nK b) (nN b) (b 187) f) (hC : Conn b) (hx : (0 ≤ x ∧ x < b 1 0) ∧ x ≠ b 1 2) (hb : OK b) (E : Eqv b s) (hi : Ah a s) : K_Cg_firings n x s (fun r s' => Eqv b s' ∧ Ah a s' ∧ r = f x.toNat) := by
  have h8 := hb.1.1
  refine e_Cg_firings ⟨_, k_chipsAt (R_nd hb hx.1) hb E hi, ?_⟩
  rintro r s' ⟨_, _, rfl, g⟩
  refine ⟨by omega, fun _ => ⟨_, k_conn hb E hi, ?_⟩, fun z => absurd z (by omega)⟩
  rintro _ s1 ⟨E1, hi1, rfl⟩
  rw [ind_t hC]
  refine ⟨by decide, fun _ => ⟨_, k_Cg_copyChips (arSL arSC_187) (arSL arSC_188) (by decide), ?_⟩, fun z => absurd z (by decide)⟩
  rintro s2 rfl
  have hs1 := E1.ok hb
  have hs2 : OK (wr s1 188 (cut (s1 187) (s1 188))) := wr_ok hs1 (by decide) (by decide)
  have E2 : Eqv b (wr s1 188 (cut (s1 187) (s1 188))) := E1.sc (fun k i hk => wr_ne (by omega))
  have hi2 : Ah a (wr s1 188 (cut (s1 187) (s1 188))) := hi1.sc (fun k i hk => wr_ne (by omega))
  have cc : ∀ v, v < 8 → wr s1 188 (cut (s1 187) (s1 188)) 188 v = b 187 v := fun v hv => by rw [wr_eq, cut_lt hv, E1.c]
  generalize hw : wr s1 188 (cut (s1 187) (s1 188)) = s2 at *
  have h88 : ChB s2 (s2 188) := by
    rw [show s2 188 = cut (s1 187) (s1 188) from by rw [← hw]; exact funext fun i => wr_eq _ _ _ _]
    exact (hs1.2.2.2.2.of (by rw [← hw, wr_ne (by decide)]) (by rw [← hw, wr_ne (by decide)]) : ChB s2 (s1 187)).cut
  refine ⟨_, k_Fi_settle (arSL arSC_188) (by decide) hs2.1 (E2.conn.mpr hC) h88.ok, ?_⟩
  rintro r3 s3 ⟨w1, w2, w3⟩
  have st := w1.stl (by decide) hs2.1 w2
  have E3 : Eqv b s3 := E2.sc (fun k i hk => w1.1 k i (by omega) (by omega))
  refine ⟨by omega, E3, hi2.sc (fun k i hk => w1.1 k i (by omega) (by omega)), ?_⟩
  have st2 : Stl (Jm b) (nK b) (nN b) (b 187) (s3 41) := by
    rw [E2.N, E2.K] at st
    have h8 := nN_8 hb
    exact StlJ (E2.J hb) (fun v hv => cc v (by omega)) st
  exact st2.uniq hf (by show _ < (b 1 0).toNat; omega)
theorem q_firings_no {n : Nat} {b a s : Sto} {x : Int} (hR : R32 x) (hx : ¬ ((0 ≤ x ∧ x < b 1 0) ∧ x ≠ b 1 2)) (hb : OK b) (E : Eqv b s) (hi : Ah a s) : K_Cg_firings n x s (fun r s' => Eqv b s' ∧ Ah a s' ∧ r = -10001) := by
  refine e_Cg_firings ⟨_, k_chipsAt hR hb E hi, ?_⟩
  rintro r s' ⟨_, _, rfl, f⟩
  exact ⟨by omega, fun z => absurd z (by omega), fun _ => ⟨E, hi, rfl⟩⟩
theorem FrM.e {b s s' : Sto} (E : Eqv b s) (h : FrM s s') : Eqv b s' := E.sc (fun k i hk => h.1 k i (by omega) (by omega))
theorem FrM.a {a s s' : Sto} (hi : Ah a s) (h : FrM s s') : Ah a s' := hi.sc (fun k i hk => h.1 k i (by omega) (by omega))
theorem Eqv.trs {b s : Sto} (E : Eqv b s) : trs s = trs b := trs_of (fun k i h1 h2 => E.g k i h1 (by omega))
theorem k_all {n : Nat} {b a s : Sto} (hb : OK b) (E : Eqv b s) (hi : Ah a s) : K_Tr_count n 0 0 s (fun r s' => Eqv b s' ∧ Ah a s' ∧ r = trs b) := by
  have h := k_Tr_count (n := n) (w := 0) (B := 0) (T := 0) (E.ok hb).1 (by decide) (Or.inr rfl) (fun e he => he) (fun e he => no_bit0 he) (fun e he => no_bit0 he)
  refine Sp.mono ?_ h
  rintro r s' ⟨x, rfl, f, rfl⟩
  exact ⟨_, rfl, f.e E, f.a hi, by rw [trs_tau, E.trs]⟩
theorem q_treeCount {n : Nat} {b a s : Sto} (hb : OK b) (E : Eqv b s) (hi : Ah a s) : K_Cg_treeCount n s (fun r s' => Eqv b s' ∧ Ah a s' ∧ r = trs b) := by
  refine e_Cg_treeCount ⟨_, k_all hb E hi, ?_⟩
  rintro _ s' h
  exact h
theorem q_order_no {n : Nat} {b a s : Sto} (hC : ¬ Conn b) (hb : OK b) (E : Eqv b s) (hi : Ah a s) : K_Cg_order n s (fun r s' => Eqv b s' ∧ Ah a s' ∧ r = -10003) := by
  refine e_Cg_order ⟨_, k_conn hb E hi, ?_⟩
  rintro _ s1 ⟨E1, hi1, rfl⟩
  rw [ind_f hC]
  exact ⟨by decide, fun z => absurd rfl z, fun _ => ⟨E1, hi1, rfl⟩⟩
/-- the order of the state -/
def OrdB (b : Sto) (r : Int) : Prop := (0 < r ∧ r ≤ trs b) ∧ r ∣ trs b ∧ ∀ k : Int, Cls (Jm b) (nK b) (nN b) (fun v => k * b 187 v) (fun _ => 0) ↔ r ∣ k
theorem q_order {n : Nat} {b a s : Sto} (hC : Conn b) (hS : StbB b) (hb : OK b) (E : Eqv b s) (hi : Ah a s) : K_Cg_order n s (fun r s' => Eqv b s' ∧ Ah a s' ∧ OrdB b r) := by
  refine e_Cg_order ⟨_, k_conn hb E hi, ?_⟩
  rintro _ s1 ⟨E1, hi1, rfl⟩
  rw [ind_t hC]
  have hs1 := E1.ok hb
  have c1 := E1.conn.mpr hC
  have h8 := hs1.1.1
  have st : StbB s1 := (E1.stb hb).mpr hS
  refine ⟨by decide, fun _ => ⟨_, k_Ma_orderOf (arSL arSC_187) (by decide) hs1.1 c1 (fun v hv hk => ⟨(ch_R hs1 v (by omega)).1, st.con hs1.1 c1 hv hk⟩) (hs1.2.2.2.2.2 _ (by have := hs1.1.K; omega) (by have := hs1.1.2.2.1; omega)), ?_⟩, fun z => absurd z (by decide)⟩
  rintro r s2 ⟨f1, f2, f3, f4⟩
  refine ⟨f1.e E1, f1.a hi1, by rw [← E1.trs]; exact f2, by rw [← E1.trs]; exact f3, fun k => ?_⟩
  rw [← f4 k]
  have eN : (s1 1 0).toNat = nN b := E1.N
  have eK : (s1 1 2).toNat = nK b := E1.K
  rw [eN, eK]
  constructor
  · exact ClsJ (fun v w hv hw => (E1.J hb v w hv hw).symm) (fun v _ _ => by rw [E1.c v]) (fun _ _ _ => rfl)
  · exact ClsJ (E1.J hb) (fun v _ _ => by rw [E1.c v]) (fun _ _ _ => rfl)
theorem q_factor_no {n : Nat} {b a s : Sto} {x : Int} (hR : R32 x) (hx : x < -1 ∨ ¬ Conn b) (hb : OK b) (E : Eqv b s) (hi : Ah a s) : K_Cg_factor n x s (fun r s' => Eqv b s' ∧ Ah a s' ∧ r = -9223372036854775808) := by
  unfold R32 at hR
  refine e_Cg_factor ⟨by omega, fun _ => ⟨E, hi, rfl⟩, fun z => ⟨_, k_conn hb E hi, ?_⟩⟩
  rintro _ s1 ⟨E1, hi1, rfl⟩
  rw [ind_f (hx.resolve_left (by omega))]
  exact ⟨by decide, fun y => absurd rfl y, fun _ => ⟨E1, hi1, rfl⟩⟩
def FacP (b : Sto) : Prop := fcC b ≤ 8 ∧ (∀ k, k < fcC b → 2 ≤ fcF b k ∧ fcF b k ≤ trs b) ∧ (∀ k, k + 1 < fcC b → fcF b k ∣ fcF b (k + 1)) ∧ prodN (fcC b) (fcF b) = trs b
theorem k_fac {n : Nat} {b a s : Sto} (hC : Conn b) (hb : OK b) (E : Eqv b s) (hi : Ah a s) : K_Ma_findFactors n s (fun s' => Eqv b s' ∧ Ah a s' ∧ s' 42 1 = (fcC b : Int) ∧ (∀ k, k < fcC b → s' 43 k = fcF b k) ∧ FacP b) := by
  have h := k_Ma_findFactors (n := n) (E.ok hb).1 (E.conn.mpr hC)
  refine Sp.mono ?_ h
  rintro r s' ⟨rfl, f1, f2, f3, f4⟩
  obtain ⟨c1, c2⟩ := fc_of hb.1.1.2 E.g
  rw [c1, c2, E.trs] at f4
  rw [c1] at f2 f3
  rw [c2] at f3
  exact ⟨rfl, E.sc (fun k i hk => f1 k i (by omega) (by omega)), hi.sc (fun k i hk => f1 k i (by omega) (by omega)), f2, f3, f4⟩
theorem q_factor_c {n : Nat} {b a s : Sto} (hC : Conn b) (hb : OK b) (E : Eqv b s) (hi : Ah a s) : K_Cg_factor n (-1) s (fun r s' => Eqv b s' ∧ Ah a s' ∧ r = (fcC b : Int) ∧ FacP b) := by
  refine e_Cg_factor ⟨by omega, fun z => absurd z (by decide), fun _ => ⟨_, k_conn hb E hi, ?_⟩⟩
  rintro _ s1 ⟨E1, hi1, rfl⟩
  rw [ind_t hC]
  refine ⟨by decide, fun _ => ⟨_, k_fac hC hb E1 hi1, ?_⟩, fun z => absurd z (by decide)⟩
  rintro s2 ⟨E2, hi2, f1, f2, f3⟩
  have := f3.1
  exact ⟨by decide, fun z => absurd rfl z, fun _ => ⟨by omega, E2, hi2, f1, f3⟩⟩
theorem q_factor {n : Nat} {b a s : Sto} {x : Int} (hx : 0 ≤ x ∧ x < fcC b) (hp : FacP b) (hC : Conn b) (hb : OK b) (E : Eqv b s) (hi : Ah a s) : K_Cg_factor n x s (fun r s' => Eqv b s' ∧ Ah a s' ∧ r = fcF b x.toNat) := by
  have p := hp.1
  refine e_Cg_factor ⟨by omega, fun z => absurd z (by omega), fun _ => ⟨_, k_conn hb E hi, ?_⟩⟩
  rintro _ s1 ⟨E1, hi1, rfl⟩
  rw [ind_t hC]
  refine ⟨by decide, fun _ => ⟨_, k_fac hC hb E1 hi1, ?_⟩, fun z => absurd z (by decide)⟩
  rintro s2 ⟨E2, hi2, f1, f2, f3⟩
  exact ⟨by omega, fun _ => ⟨by omega, fun z => absurd z (by omega), fun _ => ⟨by omega, E2, hi2, f2 _ (by omega)⟩⟩, fun z => absurd z (by omega)⟩
theorem q_factor_hi {n : Nat} {b a s : Sto} {x : Int} (hR : R32 x) (hx : (fcC b : Int) ≤ x) (hC : Conn b) (hb : OK b) (E : Eqv b s) (hi : Ah a s) : K_Cg_factor n x s (fun r s' => Eqv b s' ∧ Ah a s' ∧ r = -9223372036854775808) := by
  unfold R32 at hR
  refine e_Cg_factor ⟨by omega, fun z => absurd z (by omega), fun _ => ⟨_, k_conn hb E hi, ?_⟩⟩
  rintro _ s1 ⟨E1, hi1, rfl⟩
  rw [ind_t hC]
  refine ⟨by decide, fun _ => ⟨_, k_fac hC hb E1 hi1, ?_⟩, fun z => absurd z (by decide)⟩
  rintro s2 ⟨E2, hi2, f1, f2, f3⟩
  have := f3.1
  exact ⟨by omega, fun _ => ⟨by omega, fun _ => ⟨E2, hi2, rfl⟩, fun z => absurd z (by omega)⟩, fun z => absurd z (by omega)⟩
theorem bas_of {s q : Sto} (h : ∀ k i, 1 ≤ k → k ≤ 3 → q k i = s k i) (i : Nat) : bas q i = bas s i := by
  have e2 : q 2 = s 2 := funext fun i => h 2 i (by decide) (by decide)
  have e3 : q 3 = s 3 := funext fun i => h 3 i (by decide) (by decide)
  have e11 := h 1 1 (by decide) (by decide)
  have e12 := h 1 2 (by decide) (by decide)
  unfold bas
  rw [e11]
  refine sumN_congr (fun T _ => ?_)
  rw [ind_c (SpT.of h)]
  congr 2
  unfold lvT uOf wl
  rw [e2, e3, e11, e12]
theorem q_levelCount {n : Nat} {b a s : Sto} {x : Int} (hR : R32 x) (hb : OK b) (E : Eqv b s) (hi : Ah a s) : K_Cg_levelCount n x s (fun r s' => Eqv b s' ∧ Ah a s' ∧ (x < 0 → r = -10002) ∧ (0 ≤ x → ¬ Conn b → r = -10003) ∧ (0 ≤ x → Conn b → r = if x < 21 then bas b x.toNat else 0)) := by
  have hR2 := hR
  unfold R32 at hR2
  refine e_Cg_levelCount ⟨by omega, fun _ => ⟨_, k_conn hb E hi, ?_⟩, fun z => ⟨E, hi, fun _ => rfl, fun y => absurd y (by omega), fun y => absurd y (by omega)⟩⟩
  rintro _ s1 ⟨E1, hi1, rfl⟩
  have i1 := ind_01 (Conn b)
  refine ⟨by omega, fun z => ⟨_, k_Le_countAt (E1.ok hb).1 hR, ?_⟩, fun z => ⟨E1, hi1, fun y => absurd y (by omega), fun _ _ => rfl, fun _ y => absurd z (by rw [ind_t y]; decide)⟩⟩
  rintro r s2 ⟨f1, f2⟩
  refine ⟨E1.sc (fun k i hk => f1 k i (by omega)), hi1.sc (fun k i hk => f1 k i (by omega)), fun y => absurd y (by omega), fun _ y => absurd (ind_f y) z, fun y _ => ?_⟩
  rw [f2, bas_of (fun k i h1 h2 => E1.g k i h1 (by omega))]
  exact ite_congr (propext ⟨fun z => z.2, fun z => ⟨y, z⟩⟩) (fun _ => rfl) (fun _ => rfl)
theorem q_level {n : Nat} {b a s : Sto} (hr : RecB b) (hb : OK b) (E : Eqv b s) (hi : Ah a s) : K_Cg_level n s (fun r s' => Eqv b s' ∧ Ah a s' ∧ r = sumN 8 (b 187) - (b 1 1 - b 13 (nK b))) := by
  refine e_Cg_level ⟨_, k_rec hb E hi, ?_⟩
  rintro _ s1 ⟨E1, hi1, rfl⟩
  rw [ind_t hr]
  refine ⟨by decide, fun _ => ⟨_, k_Cg_sumOf (arSL arSC_187), ?_⟩, fun z => absurd z (by decide)⟩
  rintro _ s2 ⟨rfl, rfl⟩
  refine ⟨_, k_Gr_edgesAwayFromSink (E1.ok hb).1, ?_⟩
  rintro _ s3 ⟨rfl, rfl⟩
  refine ⟨E1, hi1, ?_⟩
  rw [E1.g 1 1 (by decide) (by decide), E1.g 1 2 (by decide) (by decide), E1.g 13 _ (by decide) (by decide), sumN_congr (fun v _ => E1.c v)]
/-- T is the tree of the state c -/
def TreeOf (b : Sto) (T : Nat) (c : Nat → Int) : Prop := SpT b T ∧ ∀ (c0 : Nat → Int) v, v < nN b → v ≠ nK b → treeC b (decT T) (b 1 1).toNat c0 v = c v
theorem TreeOf.uniq {b : Sto} {T T' : Nat} {c : Nat → Int} (hb : WG b) (h : TreeOf b T c) (h' : TreeOf b T' c) : T = T' := by
  have a := (h.1.recur hb (c0 := c) (c := c) (fun v hv hk => (h.2 c v hv hk).symm)).2
  have b := (h'.1.recur hb (c0 := c) (c := c) (fun v hv hk => (h'.2 c v hv hk).symm)).2
  exact a.symm.trans b
theorem treeC_of {b s : Sto} (hb : OK b) (E : Eqv b s) {T v : Nat} (hv : v < nN b) (c0 : Nat → Int) : treeC s (decT T) (s 1 1).toNat c0 v = treeC b (decT T) (b 1 1).toNat c0 v := by
  have e2 : s 2 = b 2 := funext fun i => E.g 2 i (by decide) (by decide)
  have e3 : s 3 = b 3 := funext fun i => E.g 3 i (by decide) (by decide)
  have eN : (s 1 0).toNat = nN b := E.N
  have eK : (s 1 2).toNat = nK b := E.K
  have e11 := E.g 1 1 (by decide) (by decide)
  unfold treeC wl
  rw [e2, e3, e11, eN, eK, dgrJ_congr (E.J hb) hv]
theorem TreeOf.of {b s : Sto} (hb : OK b) (E : Eqv b s) {T : Nat} {c : Nat → Int} : TreeOf s T c ↔ TreeOf b T c := by
  unfold TreeOf
  rw [E.N, E.K]
  constructor
  · rintro ⟨h1, h2⟩
    exact ⟨(SpT.of (fun k i q1 q2 => E.g k i q1 (by omega))).mp h1, fun c0 v hv hk => by rw [← treeC_of hb E hv]; exact h2 c0 v hv hk⟩
  · rintro ⟨h1, h2⟩
    exact ⟨(SpT.of (fun k i q1 q2 => E.g k i q1 (by omega))).mpr h1, fun c0 v hv hk => by rw [treeC_of hb E hv]; exact h2 c0 v hv hk⟩
theorem q_tree {n : Nat} {b a s : Sto} (hr : RecB b) (hb : OK b) (E : Eqv b s) (hi : Ah a s) : K_Cg_tree n s (fun r s' => Eqv b s' ∧ Ah a s' ∧ ∃ T : Nat, r = T ∧ TreeOf b T (b 187)) := by
  refine e_Cg_tree ⟨_, k_rec hb E hi, ?_⟩
  rintro _ s1 ⟨E1, hi1, rfl⟩
  rw [ind_t hr]
  have hs1 := E1.ok hb
  refine ⟨by decide, fun _ => ⟨_, k_Tr_treeOf (arSL arSC_187) (by decide) hs1.1 (fun v hv => by have := ch_R hs1 v hv; omega), ?_⟩, fun z => absurd z (by decide)⟩
  rintro _ s2 ⟨f1, rfl⟩
  have r1 := ((E1.rec hb).mpr hr).2
  refine ⟨E1.sc (fun k i hk => f1 k i (by omega)), hi1.sc (fun k i hk => f1 k i (by omega)), _, rfl, ?_⟩
  have t1 : TreeOf s1 (trOf s1 (s1 187)) (s1 187) := ⟨r1.tree hs1.1, fun c0 v hv hk => r1.back hs1.1 hv hk⟩
  rw [show s1 187 = b 187 from funext E1.c] at t1
  have t2 := (TreeOf.of hb E1).mp t1
  have e : trOf s1 (b 187) = (wl s1 (decC s1 (s1 187)) (s1 1 1).toNat).2.2.1 := by rw [show s1 187 = b 187 from funext E1.c]; rfl
  rw [← e]
  exact t2
theorem q_tree_no {n : Nat} {b a s : Sto} (hr : ¬ RecB b) (hb : OK b) (E : Eqv b s) (hi : Ah a s) : K_Cg_tree n s (fun r s' => Eqv b s' ∧ Ah a s' ∧ r = -10004) := by
  refine e_Cg_tree ⟨_, k_rec hb E hi, ?_⟩
  rintro _ s1 ⟨E1, hi1, rfl⟩
  rw [ind_f hr]
  exact ⟨by decide, fun z => absurd rfl z, fun _ => ⟨E1, hi1, rfl⟩⟩
/-- e is the identity -/
def IdB (b : Sto) (e : Nat → Int) : Prop := Rec (Jm b) (nK b) (nN b) e ∧ Cls (Jm b) (nK b) (nN b) (fun _ => 0) e
theorem IdB.uniq {b : Sto} {e e' : Nat → Int} (hb : WG b) (h : IdB b e) (h' : IdB b e') {v : Nat} (hv : v < nN b) (hk : v ≠ nK b) : e v = e' v := h.1.uniq hb.Jnn h'.1 (h.2.symm.trans h'.2) hv hk
theorem q_identity {n : Nat} {b a s : Sto} {x : Int} (hC : Conn b) (hx : (0 ≤ x ∧ x < b 1 0) ∧ x ≠ b 1 2) (hb : OK b) (E : Eqv b s) (hi : Ah a s) : K_Cg_identity n x s (fun r s' => Eqv b s' ∧ Ah a s' ∧ ∃ e, IdB b e ∧ r = e x.toNat) := by
  have h8 := hb.1.1
  refine e_Cg_identity ⟨_, k_chipsAt (R_nd hb hx.1) hb E hi, ?_⟩
  rintro r s' ⟨_, _, rfl, g⟩
  refine ⟨by omega, fun _ => ⟨_, k_conn hb E hi, ?_⟩, fun z => absurd z (by omega)⟩
  rintro _ s1 ⟨E1, hi1, rfl⟩
  rw [ind_t hC]
  refine ⟨by decide, fun _ => ⟨_, k_Cg_clearChips (arSL arSC_188), ?_⟩, fun z => absurd z (by decide)⟩
  rintro s2 rfl
  have hs1 := E1.ok hb
  have hs2 : OK (wr s1 188 (cut (fun _ => 0) (s1 188))) := wr_ok hs1 (by decide) (by decide)
  have E2 : Eqv b (wr s1 188 (cut (fun _ => 0) (s1 188))) := E1.sc (fun k i hk => wr_ne (by omega))
  have hi2 : Ah a (wr s1 188 (cut (fun _ => 0) (s1 188))) := hi1.sc (fun k i hk => wr_ne (by omega))
  have cc : ∀ v, v < 8 → wr s1 188 (cut (fun _ => 0) (s1 188)) 188 v = 0 := fun v hv => by rw [wr_eq, cut_lt hv]
  generalize hw : wr s1 188 (cut (fun _ => 0) (s1 188)) = s2 at *
  have h88 : ChB s2 (s2 188) := ⟨fun v hv => by rw [cc v hv]; omega, fun v hv _ => cc v hv⟩
  refine ⟨_, k_Fi_toRecurrent (arSL arSC_188) (by decide) hs2.1 (E2.conn.mpr hC) h88.ok, ?_⟩
  rintro s3 ⟨w1, w2, w3, w4, w5⟩
  refine ⟨by omega, E2.sc (fun k i hk => w1 k i (by omega) (by omega) (by omega) (by omega)), hi2.sc (fun k i hk => w1 k i (by omega) (by omega) (by omega) (by omega)), s3 188, ⟨?_, ?_⟩, rfl⟩
  · have eN : (s2 1 0).toNat = nN b := E2.N
    have eK : (s2 1 2).toNat = nK b := E2.K
    rw [eN, eK] at w2
    exact RecJ (E2.J hb) (fun _ _ => rfl) w2
  · have eN : (s2 1 0).toNat = nN b := E2.N
    have eK : (s2 1 2).toNat = nK b := E2.K
    rw [eN, eK] at w3
    have h8 := nN_8 hb
    exact ClsJ (E2.J hb) (fun v hv _ => cc v (by omega)) (fun _ _ _ => rfl) w3
theorem q_identity_no {n : Nat} {b a s : Sto} {x : Int} (hR : R32 x) (hx : ¬ ((0 ≤ x ∧ x < b 1 0) ∧ x ≠ b 1 2)) (hb : OK b) (E : Eqv b s) (hi : Ah a s) : K_Cg_identity n x s (fun r s' => Eqv b s' ∧ Ah a s' ∧ r = -10001) := by
  refine e_Cg_identity ⟨_, k_chipsAt hR hb E hi, ?_⟩
  rintro r s' ⟨_, _, rfl, f⟩
  exact ⟨by omega, fun z => absurd z (by omega), fun _ => ⟨E, hi, rfl⟩⟩
theorem rank_of {s q : Sto} (h : ∀ k i, 1 ≤ k → k ≤ 3 → q k i = s k i) (T : Nat) : rank q T = rank s T := by
  unfold rank
  rw [h 1 1 (by decide) (by decide)]
  exact sumN_congr (fun U _ => ind_c (and_congr (SpT.of h) Iff.rfl))
theorem q_treeAt {n : Nat} {b a s : Sto} {x : Int} (hR : R32 x) (hb : OK b) (E : Eqv b s) (hi : Ah a s) : K_Cg_treeAt n x s (fun r s' => Eqv b s' ∧ Ah a s' ∧ (x < 0 → r = -10002) ∧ (0 ≤ x → trs b ≤ x → r = -10007) ∧ (0 ≤ x → x < trs b → ∃ T : Nat, r = T ∧ SpT b T ∧ rank b T = x)) := by
  have hR2 := hR
  unfold R32 at hR2
  have tb := trs_bd hb.1
  refine e_Cg_treeAt ⟨by omega, fun z => ⟨by omega, _, k_all hb E hi, ?_⟩, fun z => ⟨E, hi, fun _ => rfl, fun y => absurd y (by omega), fun y => absurd y (by omega)⟩⟩
  rintro _ s1 ⟨E1, hi1, rfl⟩
  refine ⟨by omega, fun z2 => ?_, fun z2 => ⟨E1, hi1, fun y => absurd y (by omega), fun _ _ => rfl, fun _ y => absurd y (by omega)⟩⟩
  obtain ⟨k, rfl⟩ : ∃ k : Nat, x = k := ⟨x.toNat, by omega⟩
  refine ⟨_, k_Tr_treeNumbered (E1.ok hb).1 (by rw [E1.trs]; exact z2), ?_⟩
  rintro r s2 ⟨f1, T, f2, f3, f4⟩
  have g3 : ∀ k i, 1 ≤ k → k ≤ 3 → s1 k i = b k i := fun k i h1 h2 => E1.g k i h1 (by omega)
  exact ⟨f1.e E1, f1.a hi1, fun y => absurd y (by omega), fun _ y => absurd y (by omega), fun _ _ => ⟨T, f2, (SpT.of g3).mp f3, by rw [← rank_of g3]; exact f4⟩⟩
