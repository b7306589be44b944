/-! calls that change the chips -/
def UpP (b s' : Sto) : Prop := (∀ k i, (1 ≤ k ∧ k ≤ 13) ∨ (31 ≤ k ∧ k ≤ 36) → s' k i = b k i) ∧ WH s' ∧ s' 17 0 = (if b 17 0 = 12 then 12 else b 17 0 + 1) ∧ ∀ v, v < 8 → s' (hRow s') v = b 187 v
theorem UpP.g {b s' : Sto} (h : UpP b s') : ∀ k i, 1 ≤ k → k ≤ 13 → s' k i = b k i := fun k i h1 h2 => h.1 k i (Or.inl ⟨h1, h2⟩)
theorem UpP.ok {b s' : Sto} (h : UpP b s') (hb : OK b) (hc : ChB s' (s' 187)) : OK s' := by
  refine ⟨hb.1.of h.g, by rw [h.g 1 1 (by decide) (by decide)]; exact hb.2.1, h.2.1, fun i hi => ?_, hc⟩
  rw [h.1 32 i (by omega)]
  exact hb.2.2.2.1 i hi
theorem hRow_in {s : Sto} (h : WH s) : 19 ≤ hRow s ∧ hRow s ≤ 30 := by
  obtain ⟨h1, h2⟩ := h
  unfold hRow
  omega
theorem k_record {n : Nat} {b a s : Sto} (hb : OK b) (E : Eqv b s) (hi : Ah a s) : K_Hi_record n 187 s (fun s' => UpP b s' ∧ Ah a s' ∧ ∀ k i, 36 < k → s' k i = s k i) := by
  have hs := E.ok hb
  have h := k_Hi_record (n := n) (arSL arSC_187) (by decide) hs.2.2.1
  refine Sp.mono ?_ h
  rintro r s' ⟨rfl, f1, f2, f3, f4⟩
  refine ⟨rfl, ⟨fun k i hk => (f4 k i (by omega)).trans (E k i (by omega)), f1, ?_, fun v hv => (f3 v hv).trans (E.c v)⟩, hi.sc (fun k i hk => f4 k i (by omega)), fun k i hk => f4 k i (by omega)⟩
  rw [f2, E 17 0 (by omega)]
/-- more of the state has changed behind the record -/
theorem UpP.sc {b s s' : Sto} (h : UpP b s) (f : ∀ k i, (1 ≤ k ∧ k ≤ 13) ∨ (17 ≤ k ∧ k ≤ 36) → s' k i = s k i) : UpP b s' := by
  have e17 : s' 17 0 = s 17 0 ∧ s' 17 1 = s 17 1 := ⟨f 17 0 (by omega), f 17 1 (by omega)⟩
  have er : hRow s' = hRow s := by unfold hRow; rw [e17.1, e17.2]
  have hr := hRow_in h.2.1
  refine ⟨fun k i hk => (f k i (by omega)).trans (h.1 k i hk), ?_, by rw [e17.1]; exact h.2.2.1, fun v hv => ?_⟩
  · have := h.2.1
    unfold WH at this ⊢
    rw [e17.1, e17.2]; exact this
  · rw [er, f _ v (by omega)]; exact h.2.2.2 v hv
theorem u_setChips {n : Nat} {b a s : Sto} {x y : Int} (hx : (0 ≤ x ∧ x < b 1 0) ∧ x ≠ b 1 2) (hy : 0 ≤ y ∧ y ≤ 1000) (hb : OK b) (E : Eqv b s) (hi : Ah a s) : K_Cg_setChips n x y s (fun r s' => UpP b s' ∧ Ah a s' ∧ r = b 187 x.toNat ∧ ∀ v, s' 187 v = fu (b 187) x.toNat y v) := by
  have h8 := hb.1.1
  refine e_Cg_setChips ⟨_, k_chipsAt (R_nd hb hx.1) hb E hi, ?_⟩
  rintro r s1 ⟨E1, hi1, rfl, f⟩
  refine ⟨by omega, fun _ => ⟨by omega, fun z => absurd z (by omega), fun _ => ⟨by omega, fun _ => ⟨_, k_record hb E1 hi1, ?_⟩, fun z => absurd z (by omega)⟩⟩, fun z => absurd z (by omega)⟩
  rintro s2 ⟨f1, f2, f3⟩
  refine ⟨by omega, by omega, fun s3 e3 => ⟨f1.sc (fun k i hk => by rw [e3, up_k (by omega)]), f2.sc (fun k i hk => by rw [e3, up_k (by omega)]), by rw [f3 _ _ (by decide), E1.c], fun v => ?_⟩⟩
  rw [e3]
  unfold fu
  by_cases c : v = x.toNat
  · rw [c, up_eq, if_pos rfl]
  · rw [up_i c, if_neg c, f3 _ _ (by decide), E1.c]
theorem fu_ChB {b : Sto} {c : Nat → Int} (h : ChB b c) {x : Nat} {y : Int} (hx : (x : Int) < b 1 0 ∧ (x : Int) ≠ b 1 2) (hy : 0 ≤ y ∧ y ≤ 2000) : ChB b (fu c x y) := by
  refine ⟨fun v hv => ?_, fun v hv hz => ?_⟩
  · unfold fu; split
    · exact hy
    · exact h.1 v hv
  · unfold fu
    rw [if_neg (by omega)]
    exact h.2 v hv hz
/-- one node has fired -/
theorem u_fire {n : Nat} {b a s : Sto} {x : Int} (hx : (0 ≤ x ∧ x < b 1 0) ∧ x ≠ b 1 2) (hd : 0 < dgr (Jm b) (nN b) x.toNat ∧ dgr (Jm b) (nN b) x.toNat ≤ b 187 x.toNat) (hb : OK b) (E : Eqv b s) (hi : Ah a s) : K_Cg_fire n x s (fun r s' => UpP b s' ∧ Ah a s' ∧ r = b 187 x.toNat - dgr (Jm b) (nN b) x.toNat ∧ ∀ v, v < 8 → s' 187 v = giveF b x.toNat 1 (b 187) v) := by
  have h8 := hb.1.1
  refine e_Cg_fire ⟨_, k_chipsAt (R_nd hb hx.1) hb E hi, ?_⟩
  rintro r s1 ⟨E1, hi1, rfl, f⟩
  refine ⟨by omega, fun _ => ⟨_, k_canFire hx.1 hb E1 hi1, ?_⟩, fun z => absurd z (by omega)⟩
  rintro r2 s2 ⟨rfl, g⟩
  refine ⟨by omega, fun _ => ⟨_, k_record hb E1 hi1, ?_⟩, fun z => absurd ⟨hx.2, hd⟩ (g.resolve_left (by omega)).2⟩
  rintro s3 ⟨f1, f2, f3⟩
  obtain ⟨u, rfl⟩ : ∃ u : Nat, x = u := ⟨x.toNat, by omega⟩
  have hw3 : WG s3 := hb.1.of f1.g
  have e10 := f1.g 1 0 (by decide) (by decide)
  have e12 := f1.g 1 2 (by decide) (by decide)
  refine ⟨_, k_Fi_give (arSL arSC_187) (by decide) hw3 (by omega), ?_⟩
  rintro s4 rfl
  rw [toNat_n]
  have hJ : ∀ v w, v < (b 1 0).toNat → w < (b 1 0).toNat → Jm s3 v w = Jm b v w := Jm_of hb.1.1 f1.g
  have v4 : ∀ v, v < 8 → giveF s3 u 1 (s3 187) v = giveF b u 1 (b 187) v := fun v hv => by
    unfold giveF
    rw [e10, e12, f3 187 v (by decide), E1.c, dgrJ_congr hJ (by omega)]
    congr 1
    by_cases c : v < (b 1 0).toNat ∧ v ≠ (b 1 2).toNat
    · rw [if_pos c, if_pos c, hJ u v (by omega) c.1]
    · rw [if_neg c, if_neg c]
  refine ⟨by omega, f1.sc (fun k i hk => wr_ne (by omega)), f2.sc (fun k i hk => wr_ne (by omega)), ?_, fun v hv => by rw [wr_eq]; exact v4 v hv⟩
  rw [wr_eq, v4 u (by omega)]
  unfold giveF
  rw [if_pos rfl, hb.1.Jz (by omega)]
  have : (if u < (b 1 0).toNat ∧ u ≠ (b 1 2).toNat then 1 * (0 : Int) else 0) = 0 := by split <;> rfl
  rw [this]
  show b 187 u - 1 * dgr (Jm b) (b 1 0).toNat u + 0 = b 187 u - dgr (Jm b) (b 1 0).toNat u
  omega
/-- what stabilizing makes of the state -/
theorem u_stabilize {n : Nat} {b a s : Sto} {f : Nat → Int} (hf : Stl (Jm b) (nK b) (nN b) (b 187) f) (hC : Conn b) (hb : OK b) (E : Eqv b s) (hi : Ah a s) : K_Cg_stabilize n s (fun r s' => UpP b s' ∧ Ah a s' ∧ r = sumN (nN b) f ∧ (∀ v, v < nN b → v ≠ nK b → s' 187 v = b 187 v - lap (Jm b) (nN b) f v) ∧ OK s' ∧ StbB s') := by
  have h8 := nN_8 hb
  refine e_Cg_stabilize ⟨_, k_conn hb E hi, ?_⟩
  rintro _ s1 ⟨E1, hi1, rfl⟩
  rw [ind_t hC]
  refine ⟨by decide, fun _ => ⟨_, k_record hb E1 hi1, ?_⟩, fun z => absurd z (by decide)⟩
  rintro s2 ⟨f1, f2, f3⟩
  have c2 : ∀ v, s2 187 v = b 187 v := fun v => (f3 187 v (by decide)).trans (E1.c v)
  have hc2 : ChB s2 (s2 187) := by
    rw [show s2 187 = b 187 from funext c2]
    exact hb.2.2.2.2.of (f1.g 1 0 (by decide) (by decide)) (f1.g 1 2 (by decide) (by decide))
  have hs2 := f1.ok hb hc2
  have C2 : Conn s2 := hC.of f1.g
  refine ⟨_, k_Fi_settle (arSL arSC_187) (by decide) hs2.1 C2 hc2.ok, ?_⟩
  rintro r s3 ⟨w1, w2, w3⟩
  have st := w1.stl (by decide) hs2.1 w2
  have n2 : nN s2 = nN b := by show (s2 1 0).toNat = _; rw [f1.g 1 0 (by decide) (by decide)]
  have k2 : nK s2 = nK b := by show (s2 1 2).toNat = _; rw [f1.g 1 2 (by decide) (by decide)]
  have hJ : ∀ v w, v < nN b → w < nN b → Jm s2 v w = Jm b v w := Jm_of hb.1.1 f1.g
  rw [n2, k2] at st
  have st2 : Stl (Jm b) (nK b) (nN b) (b 187) (s3 41) := StlJ hJ (fun v _ => c2 v) st
  have ef : ∀ v, v < nN b → s3 41 v = f v := fun v hv => st2.uniq hf hv
  have f3' : UpP b s3 := f1.sc (fun k i hk => w1.1 k i (by omega) (by omega))
  have ch : ∀ v, v < nN b → v ≠ nK b → s3 187 v = b 187 v - lap (Jm b) (nN b) f v := fun v hv hk => by
    rw [w1.2.2.2.2.1 v (by show v < nN s2; rw [n2]; exact hv) (by show v ≠ nK s2; rw [k2]; exact hk), c2]
    show _ - lap (Jm s2) (nN s2) (s3 41) v = _
    rw [n2, lapJ_congr hJ hv, lap_congr ef hv]
  have C3 : Conn s3 := hC.of f3'.g
  have g3 : ∀ k i, 1 ≤ k → k ≤ 13 → s3 k i = s2 k i := fun k i h1 h2 => w1.1 k i (by omega) (by omega)
  have n3 : nN s3 = nN s2 := by show (s3 1 0).toNat = _; rw [g3 1 0 (by decide) (by decide)]
  have k3 : nK s3 = nK s2 := by show (s3 1 2).toNat = _; rw [g3 1 2 (by decide) (by decide)]
  have S3 : StbB s3 := by
    unfold StbB
    rw [n3, k3]
    exact StbJ (fun v w hv hw => (Jm_of hs2.1.1 g3 v w hv hw).symm) (fun _ _ => rfl) w2
  have hw3 : WG s3 := hb.1.of f3'.g
  have hc3 : ChB s3 (s3 187) := by
    have e10 := f3'.g 1 0 (by decide) (by decide)
    have e12 := f3'.g 1 2 (by decide) (by decide)
    have z : ∀ v : Nat, v < 8 → ((v : Int) = s3 1 2 ∨ s3 1 0 ≤ v) → s3 187 v = 0 := fun v hv hz => w1.2.2.1 v hv (by rw [g3 1 0 (by decide) (by decide), g3 1 2 (by decide) (by decide)] at hz; exact hz)
    refine ⟨fun v hv => ⟨w1.2.1 v hv, ?_⟩, z⟩
    have hk3 := hw3.2.2.1
    have hn3 := hw3.1
    by_cases d : v < (s3 1 0).toNat ∧ v ≠ (s3 1 2).toNat
    · have := S3.con hw3 C3 d.1 d.2
      have := hw3.dbd d.1
      omega
    · rw [z v hv (by omega)]; decide
  refine ⟨f3', f2.sc (fun k i hk => w1.1 k i (by omega) (by omega)), ?_, ch, f3'.ok hb hc3, S3⟩
  rw [w3]
  show sumN (nN s2) (s3 41) = _
  rw [n2]
  exact sumN_congr ef
