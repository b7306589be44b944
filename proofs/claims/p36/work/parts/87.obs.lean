/-! what the class shows: stores that agree in it -/
def Eqv (b s : Sto) : Prop := ∀ k i, (1 ≤ k ∧ k ≤ 13) ∨ (17 ≤ k ∧ k ≤ 36) ∨ k = 187 → s k i = b k i
/-- the arrays of the law's own -/
def Ah (a s : Sto) : Prop := ∀ k i, 190 ≤ k → s k i = a k i
theorem Eqv.refl (s : Sto) : Eqv s s := fun _ _ _ => rfl
theorem Ah.refl (s : Sto) : Ah s s := fun _ _ _ => rfl
theorem Eqv.g {b s : Sto} (E : Eqv b s) : ∀ k i, 1 ≤ k → k ≤ 13 → s k i = b k i := fun k i h1 h2 => E k i (Or.inl ⟨h1, h2⟩)
theorem Eqv.c {b s : Sto} (E : Eqv b s) : ∀ i, s 187 i = b 187 i := fun i => E 187 i (by omega)
theorem Eqv.symm {b s : Sto} (E : Eqv b s) : Eqv s b := fun k i h => (E k i h).symm
/-- scratch alone has changed -/
theorem Eqv.sc {b s s' : Sto} (E : Eqv b s) (h : ∀ k i, (1 ≤ k ∧ k ≤ 13) ∨ (17 ≤ k ∧ k ≤ 36) ∨ k = 187 → s' k i = s k i) : Eqv b s' := fun k i hk => (h k i hk).trans (E k i hk)
theorem Ah.sc {a s s' : Sto} (hi : Ah a s) (h : ∀ k i, 190 ≤ k → s' k i = s k i) : Ah a s' := fun k i hk => (h k i hk).trans (hi k i hk)
/-- an array of the law's own changes -/
theorem Eqv.up {b s s' : Sto} {k i : Nat} {x : Int} (E : Eqv b s) (hk : 190 ≤ k) (e : s' = up s k i x) : Eqv b s' := E.sc (fun k' i' h => by rw [e, up_k (by omega)])
theorem Eqv.wr {b s : Sto} {k : Nat} {f : Nat → Int} (E : Eqv b s) (hk : 190 ≤ k) : Eqv b (wr s k f) := E.sc (fun k' i' h => wr_ne (by omega))
/-- chips: none at the sink or behind the nodes, at most 2000 at a node -/
def ChB (s : Sto) (c : Nat → Int) : Prop := (∀ v, v < 8 → 0 ≤ c v ∧ c v ≤ 2000) ∧ ∀ v : Nat, v < 8 → ((v : Int) = s 1 2 ∨ s 1 0 ≤ v) → c v = 0
def OK (s : Sto) : Prop := WG s ∧ s 1 1 ≤ 14 ∧ WH s ∧ WS s ∧ ChB s (s 187)
abbrev nN (s : Sto) : Nat := (s 1 0).toNat
abbrev nK (s : Sto) : Nat := (s 1 2).toNat
theorem ChB.of {b s : Sto} {c : Nat → Int} (h : ChB b c) (e0 : s 1 0 = b 1 0) (e2 : s 1 2 = b 1 2) : ChB s c := ⟨h.1, fun v hv hz => h.2 v hv (by rw [e0, e2] at hz; exact hz)⟩
theorem Eqv.ok {b s : Sto} (E : Eqv b s) (h : OK b) : OK s := by
  obtain ⟨h1, h2, h3, h4, h5⟩ := h
  have e10 := E.g 1 0 (by decide) (by decide)
  have e12 := E.g 1 2 (by decide) (by decide)
  have e17 := fun i => E 17 i (by omega)
  have e32 := fun i => E 32 i (by omega)
  refine ⟨h1.of E.g, by rw [E.g 1 1 (by decide) (by decide)]; exact h2, ?_, fun i hi => by rw [e32]; exact h4 i hi, ?_⟩
  · unfold WH; rw [e17, e17]; exact h3
  · rw [show s 187 = b 187 from funext E.c]; exact h5.of e10 e12
theorem ChB.ok {s : Sto} {k : Nat} (h : ChB s (s k)) : ChOK s k 17000 := by
  refine ⟨fun v hv => (h.1 v hv).1, h.2, ?_⟩
  have := sumN_le (n := 8) (f := s k) (g := fun _ => 2000) (fun v hv => (h.1 v hv).2)
  rw [sumN_const] at this
  omega
/-- joinings that agree -/
theorem Eqv.J {b s : Sto} (E : Eqv b s) (h : OK b) : ∀ v w, v < nN b → w < nN b → Jm s v w = Jm b v w := Jm_of h.1.1 E.g
section
variable {J J' : Nat → Nat → Int} {K N : Nat}
theorem StbJ (hJ : ∀ v w, v < N → w < N → J v w = J' v w) {c c' : Nat → Int} (hc : ∀ v, v < N → c v = c' v) (h : Stb J K N c) : Stb J' K N c' := fun v hv hk hd => by
  rw [← dgrJ_congr hJ hv] at hd ⊢
  rw [← hc v hv]
  exact h v hv hk hd
theorem ClsJ (hJ : ∀ v w, v < N → w < N → J v w = J' v w) {c c' d d' : Nat → Int} (hc : ∀ v, v < N → v ≠ K → c v = c' v) (hd : ∀ v, v < N → v ≠ K → d v = d' v) (h : Cls J K N c d) : Cls J' K N c' d' := by
  obtain ⟨g, g0, g1⟩ := h
  exact ⟨g, g0, fun v hv hk => by rw [← hc v hv hk, ← hd v hv hk, ← lapJ_congr hJ hv]; exact g1 v hv hk⟩
theorem RecJ (hJ : ∀ v w, v < N → w < N → J v w = J' v w) {c c' : Nat → Int} (hc : ∀ v, v < N → c v = c' v) (h : Rec J K N c) : Rec J' K N c' :=
  ⟨fun v hv hk => by rw [← dgrJ_congr hJ hv, ← hc v hv]; exact h.1 v hv hk, (AllB.congr hJ (fun v hv => by rw [dgrJ_congr hJ hv, hc v hv])).mp h.2⟩
theorem StlJ (hJ : ∀ v w, v < N → w < N → J v w = J' v w) {c c' f : Nat → Int} (hc : ∀ v, v < N → c v = c' v) (h : Stl J K N c f) : Stl J' K N c' f := by
  refine ⟨h.1, h.2.1, StbJ hJ (fun v hv => by rw [hc v hv, lapJ_congr hJ hv]) h.2.2.1, fun g h1 h2 h3 => h.2.2.2 g h1 h2 (StbJ (fun v w hv hw => (hJ v w hv hw).symm) (fun v hv => by rw [hc v hv, lapJ_congr hJ hv]) h3)⟩
end
/-- the state is recurrent, superstable -/
def RecB (b : Sto) : Prop := Conn b ∧ Rec (Jm b) (nK b) (nN b) (b 187)
def SupB (b : Sto) : Prop := Conn b ∧ AllB (Jm b) (fun v => b 187 v + 1) (nK b) (nN b)
def StbB (b : Sto) : Prop := Stb (Jm b) (nK b) (nN b) (b 187)
theorem Eqv.N {b s : Sto} (E : Eqv b s) : nN s = nN b := by show (s 1 0).toNat = _; rw [E.g 1 0 (by decide) (by decide)]
theorem Eqv.K {b s : Sto} (E : Eqv b s) : nK s = nK b := by show (s 1 2).toNat = _; rw [E.g 1 2 (by decide) (by decide)]
theorem Eqv.conn {b s : Sto} (E : Eqv b s) : Conn s ↔ Conn b := ⟨fun h => h.of E.symm.g, fun h => h.of E.g⟩
theorem Eqv.stb {b s : Sto} (E : Eqv b s) (h : OK b) : StbB s ↔ StbB b := by
  unfold StbB
  rw [E.N, E.K]
  exact ⟨StbJ (E.J h) (fun v _ => E.c v), StbJ (fun v w hv hw => (E.J h v w hv hw).symm) (fun v _ => (E.c v).symm)⟩
theorem Eqv.rec {b s : Sto} (E : Eqv b s) (h : OK b) : RecB s ↔ RecB b := by
  unfold RecB
  rw [E.N, E.K, E.conn]
  exact and_congr Iff.rfl ⟨RecJ (E.J h) (fun v _ => E.c v), RecJ (fun v w hv hw => (E.J h v w hv hw).symm) (fun v _ => (E.c v).symm)⟩
theorem Eqv.sup {b s : Sto} (E : Eqv b s) (h : OK b) : SupB s ↔ SupB b := by
  unfold SupB
  rw [E.N, E.K, E.conn]
  exact and_congr Iff.rfl (AllB.congr (E.J h) (fun v _ => by rw [E.c v]))
theorem ind_01 (p : Prop) : ind p = 0 ∨ ind p = 1 := by
  by_cases c : p
  · exact Or.inr (ind_t c)
  · exact Or.inl (ind_f c)
theorem ch_R {b : Sto} (h : OK b) (v : Nat) (hv : v < 8) : 0 ≤ b 187 v ∧ b 187 v ≤ 2000 := h.2.2.2.2.1 v hv
theorem nK_lt {b : Sto} (h : OK b) : nK b < nN b := h.1.K
theorem nN_8 {b : Sto} (h : OK b) : 2 ≤ nN b ∧ nN b ≤ 8 := by have := h.1.1; show 2 ≤ (b 1 0).toNat ∧ (b 1 0).toNat ≤ 8; omega
/-! answers that leave all as it is -/
theorem q_value0 {n : Nat} {b a s : Sto} (hb : OK b) (E : Eqv b s) (hi : Ah a s) : K_Cg_value n 0 s (fun r s' => Eqv b s' ∧ Ah a s' ∧ r = b 1 0) :=
  e_Cg_value ⟨by omega, fun _ => ⟨E, hi, E.g 1 0 (by decide) (by decide)⟩, fun z => absurd z (by decide), fun z => absurd z (by decide), fun z => absurd z (by decide), fun z => absurd z (by decide), fun z => absurd z (by decide), fun z => absurd z (by decide), fun z => absurd z (by decide)⟩
theorem q_value1 {n : Nat} {b a s : Sto} (hb : OK b) (E : Eqv b s) (hi : Ah a s) : K_Cg_value n 1 s (fun r s' => Eqv b s' ∧ Ah a s' ∧ r = b 1 1) :=
  e_Cg_value ⟨by omega, fun z => absurd z (by decide), fun _ => ⟨E, hi, E.g 1 1 (by decide) (by decide)⟩, fun z => absurd z (by decide), fun z => absurd z (by decide), fun z => absurd z (by decide), fun z => absurd z (by decide), fun z => absurd z (by decide), fun z => absurd z (by decide)⟩
theorem q_value2 {n : Nat} {b a s : Sto} (hb : OK b) (E : Eqv b s) (hi : Ah a s) : K_Cg_value n 2 s (fun r s' => Eqv b s' ∧ Ah a s' ∧ r = b 1 2) :=
  e_Cg_value ⟨by omega, fun z => absurd z (by decide), fun z => absurd z (by decide), fun _ => ⟨E, hi, E.g 1 2 (by decide) (by decide)⟩, fun z => absurd z (by decide), fun z => absurd z (by decide), fun z => absurd z (by decide), fun z => absurd z (by decide), fun z => absurd z (by decide)⟩
theorem k_conn {n : Nat} {b a s : Sto} (hb : OK b) (E : Eqv b s) (hi : Ah a s) : K_Gr_isConnected n s (fun r s' => Eqv b s' ∧ Ah a s' ∧ r = ind (Conn b)) := by
  have h := k_Gr_isConnected (n := n) (E.ok hb).1
  refine Sp.mono ?_ h
  rintro r s' ⟨x, rfl, f, g⟩
  refine ⟨x, rfl, E.sc (fun k i hk => f k i (by omega)), hi.sc (fun k i hk => f k i (by omega)), ?_⟩
  rcases g with ⟨rfl, c⟩ | ⟨rfl, c⟩
  · exact (ind_t (E.conn.mp c)).symm
  · exact (ind_f (fun z => c (E.conn.mpr z))).symm
theorem q_value3 {n : Nat} {b a s : Sto} (hb : OK b) (E : Eqv b s) (hi : Ah a s) : K_Cg_value n 3 s (fun r s' => Eqv b s' ∧ Ah a s' ∧ r = ind (Conn b)) := by
  refine e_Cg_value ⟨by omega, fun z => absurd z (by decide), fun z => absurd z (by decide), fun z => absurd z (by decide), fun _ => ⟨_, k_conn hb E hi, ?_⟩, fun z => absurd z (by decide), fun z => absurd z (by decide), fun z => absurd z (by decide), fun z => absurd z (by decide)⟩
  rintro _ s' ⟨E', hi', rfl⟩
  have := ind_01 (Conn b)
  exact ⟨by omega, fun z => ⟨E', hi', z.symm⟩, fun z => ⟨E', hi', by omega⟩⟩
theorem q_value4 {n : Nat} {b a s : Sto} (hb : OK b) (E : Eqv b s) (hi : Ah a s) : K_Cg_value n 4 s (fun r s' => Eqv b s' ∧ Ah a s' ∧ r = sumN 8 (b 187)) := by
  refine e_Cg_value ⟨by omega, fun z => absurd z (by decide), fun z => absurd z (by decide), fun z => absurd z (by decide), fun z => absurd z (by decide), fun _ => ⟨_, k_Cg_sumOf (arSL arSC_187), ?_⟩, fun z => absurd z (by decide), fun z => absurd z (by decide), fun z => absurd z (by decide)⟩
  rintro _ s' ⟨rfl, rfl⟩
  exact ⟨E, hi, sumN_congr (fun v _ => E.c v)⟩
theorem q_value5 {n : Nat} {b a s : Sto} (hb : OK b) (E : Eqv b s) (hi : Ah a s) : K_Cg_value n 5 s (fun r s' => Eqv b s' ∧ Ah a s' ∧ r = b 17 0) :=
  e_Cg_value ⟨by omega, fun z => absurd z (by decide), fun z => absurd z (by decide), fun z => absurd z (by decide), fun z => absurd z (by decide), fun z => absurd z (by decide), fun _ => ⟨E, hi, E 17 0 (by omega)⟩, fun z => absurd z (by decide), fun z => absurd z (by decide)⟩
theorem q_value6 {n : Nat} {b a s : Sto} (hb : OK b) (E : Eqv b s) (hi : Ah a s) : K_Cg_value n 6 s (fun r s' => Eqv b s' ∧ Ah a s' ∧ r = b 1 1 - b 13 (nK b)) := by
  refine e_Cg_value ⟨by omega, fun z => absurd z (by decide), fun z => absurd z (by decide), fun z => absurd z (by decide), fun z => absurd z (by decide), fun z => absurd z (by decide), fun z => absurd z (by decide), fun _ => ⟨_, k_Gr_edgesAwayFromSink (E.ok hb).1, ?_⟩, fun z => absurd z (by decide)⟩
  rintro _ s' ⟨rfl, rfl⟩
  exact ⟨E, hi, by rw [E.g 1 1 (by decide) (by decide), E.g 1 2 (by decide) (by decide), E.g 13 _ (by decide) (by decide)]⟩
theorem q_value7 {n : Nat} {b a s : Sto} (hb : OK b) (E : Eqv b s) (hi : Ah a s) : K_Cg_value n 7 s (fun r s' => Eqv b s' ∧ Ah a s' ∧ r = -10002) :=
  e_Cg_value ⟨by omega, fun z => absurd z (by decide), fun z => absurd z (by decide), fun z => absurd z (by decide), fun z => absurd z (by decide), fun z => absurd z (by decide), fun z => absurd z (by decide), fun z => absurd z (by decide), fun _ => ⟨E, hi, rfl⟩⟩
