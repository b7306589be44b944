/-! the law's classes: the last loops -/
def GG (b s : Sto) : Prop := ∀ k i, 1 ≤ k → k ≤ 13 → s k i = b k i
theorem GG.N {b s : Sto} (h : GG b s) : nN s = nN b := by show (s 1 0).toNat = _; rw [h 1 0 (by decide) (by decide)]
theorem GG.K {b s : Sto} (h : GG b s) : nK s = nK b := by show (s 1 2).toNat = _; rw [h 1 2 (by decide) (by decide)]
theorem GG.J {b s : Sto} (h : GG b s) (hb : OK b) : ∀ v w, v < nN b → w < nN b → Jm s v w = Jm b v w := Jm_of hb.1.1 h
theorem GG.conn {b s : Sto} (h : GG b s) : Conn s ↔ Conn b := ⟨fun c => c.of (fun k i h1 h2 => (h k i h1 h2).symm), fun c => c.of h⟩
theorem GG.trs {b s : Sto} (h : GG b s) : trs s = trs b := trs_of (fun k i h1 h2 => h k i h1 (by omega))
theorem GG.rec {b s : Sto} (h : GG b s) (hb : OK b) {c : Nat → Int} : Rec (Jm s) (nK s) (nN s) c ↔ Rec (Jm b) (nK b) (nN b) c := by
  rw [h.N, h.K]
  exact ⟨RecJ (h.J hb) (fun _ _ => rfl), RecJ (fun v w hv hw => (h.J hb v w hv hw).symm) (fun _ _ => rfl)⟩
theorem GG.cls {b s : Sto} (h : GG b s) (hb : OK b) {c d : Nat → Int} : Cls (Jm s) (nK s) (nN s) c d ↔ Cls (Jm b) (nK b) (nN b) c d := by
  rw [h.N, h.K]
  exact ⟨ClsJ (h.J hb) (fun _ _ _ => rfl) (fun _ _ _ => rfl), ClsJ (fun v w hv hw => (h.J hb v w hv hw).symm) (fun _ _ _ => rfl) (fun _ _ _ => rfl)⟩
theorem GG.dgr {b s : Sto} (h : GG b s) (hb : OK b) {v : Nat} (hv : v < nN b) : dgr (Jm s) (nN s) v = dgr (Jm b) (nN b) v := by
  rw [h.N]
  exact dgrJ_congr (h.J hb) hv
theorem RecC {b : Sto} {c c' : Nat → Int} (e : ∀ v, v < nN b → v ≠ nK b → c v = c' v) (h : Rec (Jm b) (nK b) (nN b) c) : Rec (Jm b) (nK b) (nN b) c' :=
  ⟨fun v hv hk => by rw [← e v hv hk]; exact h.1 v hv hk, (AllB.congrK (fun v hv hk => by rw [e v hv hk])).mp h.2⟩
/-- a state of eight cells -/
def ext (b : Sto) (c : Nat → Int) (v : Nat) : Int := if v < nN b ∧ v ≠ nK b then c v else 0
theorem ch_ext {b s : Sto} (h : GG b s) (hs : OK s) {c : Nat → Int} (e : ∀ v, v < nN b → v ≠ nK b → s 187 v = c v) : ∀ v, v < 8 → s 187 v = ext b c v := fun v hv => by
  unfold ext
  by_cases q : v < nN b ∧ v ≠ nK b
  · rw [if_pos q]; exact e v q.1 q.2
  · rw [if_neg q]
    exact R_sum hs hv (by rw [h.N, h.K]; exact q)
/-- what is known of the classes: c the state, e the identity, h the recurrent state of c's class -/
def CX (b : Sto) (c e h : Nat → Int) (ord : Int) : Prop := OK b ∧ Conn b ∧ (∀ v, v < nN b → v ≠ nK b → 0 ≤ c v ∧ c v < dgr (Jm b) (nN b) v) ∧ Rec (Jm b) (nK b) (nN b) e ∧ Cls (Jm b) (nK b) (nN b) (fun _ => 0) e ∧ Rec (Jm b) (nK b) (nN b) h ∧ Cls (Jm b) (nK b) (nN b) c h ∧ (0 < ord ∧ ord ≤ trs b) ∧ ord ∣ trs b ∧ ∀ k : Int, Cls (Jm b) (nK b) (nN b) (fun v => k * h v) (fun _ => 0) ↔ ord ∣ k
def CQ (b : Sto) (c h : Nat → Int) (q : Sto) : Prop := GG b q ∧ OK q ∧ q 32 2 = b 32 2 ∧ (q 32 1 = 1 ∧ ∀ v, v < 8 → q 35 v = ext b h v) ∧ ∀ v, v < nN b → v ≠ nK b → q 190 v = c v
theorem CQ.same {b q q' : Sto} {c h : Nat → Int} (H : CQ b c h q) (S : SameG q q') (hi : ∀ i, q' 190 i = q 190 i) (ok : OK q') : CQ b c h q' := by
  obtain ⟨h1, h2, h3, ⟨h4, h5⟩, h6⟩ := H
  exact ⟨fun k i a b => (S k i (Or.inl ⟨a, b⟩)).trans (h1 k i a b), ok, (S 32 2 (by omega)).trans h3, ⟨(S 32 1 (by omega)).trans h4, fun v hv => (S 35 v (by omega)).trans (h5 v hv)⟩, fun v hv hk => (hi v).trans (h6 v hv hk)⟩
theorem CQ.q {b q q' : Sto} {c h : Nat → Int} (H : CQ b c h q) (E : Eqv q q') (hi : Ah q q') : CQ b c h q' := H.same E.same (fun i => hi 190 i (by decide)) (E.ok H.2.1)
theorem CQ.up {b q q' : Sto} {c h : Nat → Int} (H : CQ b c h q) (U : UpP q q') (hi : Ah q q') (ok : OK q') : CQ b c h q' := H.same U.same (fun i => hi 190 i (by decide)) ok
def Qc (b : Sto) : Int → Sto → Prop := fun r s' => r = 1 ∧ GG b s' ∧ OK s' ∧ s' 32 2 = b 32 2
theorem rec_bd {b : Sto} (hb : OK b) {h : Nat → Int} (hr : Rec (Jm b) (nK b) (nN b) h) (v : Nat) : 0 ≤ ext b h v ∧ ext b h v ≤ 20 := by
  unfold ext
  by_cases q : v < nN b ∧ v ≠ nK b
  · have := hr.1 v q.1 q.2
    have d : 0 ≤ dgr (Jm b) (nN b) v ∧ dgr (Jm b) (nN b) v ≤ 20 := hb.1.dbd q.1
    rw [if_pos q]; omega
  · rw [if_neg q]; decide
theorem trs_R {b : Sto} (hb : OK b) : 0 ≤ trs b ∧ trs b ≤ 77520 := ⟨(trs_bd hb.1).1, trs_small hb.1⟩
/-- adding the state that is kept, and stabilizing -/
theorem cl_add {n : Nat} {b q a s : Sto} {c h u : Nat → Int} (hb : OK b) (hC : Conn b) (hh : Rec (Jm b) (nK b) (nN b) h) (hu : Rec (Jm b) (nK b) (nN b) u) (H : CQ b c h q) (e : ∀ v, v < nN b → v ≠ nK b → q 187 v = u v) (E : Eqv q s) (hi : Ah a s) : K_Cg_add n 1 s (fun r s' => UpP q s' ∧ Ah a s' ∧ r = sumN 8 (s' 187) ∧ OK s' ∧ ∀ v, v < 8 → s' 187 v = ext b h v + ext b u v) := by
  have hq := H.2.1
  obtain ⟨h4, h5⟩ := H.2.2.2.1
  have ee := ch_ext H.1 hq e
  have k := u_add (n := n) (b := q) (a := a) (s := s) (x := 1) (by decide) h4 (fun v hv => by
    show 0 ≤ q 35 v ∧ q 35 v + q 187 v ≤ 2000
    have := rec_bd hb hh v
    have := rec_bd hb hu v
    rw [h5 v hv, ee v hv]; omega) (fun v hv hz => by
    show q 35 v = 0
    rw [H.1.N, H.1.K] at hz
    rw [h5 v hv]
    exact if_neg hz) hq E hi
  refine Sp.mono ?_ k
  rintro r s' ⟨x, rfl, p1, p2, p3, p4, p5⟩
  refine ⟨x, rfl, p1, p2, p3, p4, fun v hv => ?_⟩
  rw [p5 v hv]
  show q 35 v + q 187 v = _
  rw [h5 v hv, ee v hv]
theorem stl_sm {b : Sto} (hb : OK b) (hC : Conn b) : ∃ f, Stl (Jm b) (nK b) (nN b) (b 187) f ∧ (0 ≤ sumN (nN b) f ∧ sumN (nN b) f ≤ 896000) := by
  obtain ⟨f, h1, h2⟩ := stl_ex (B := 16000) (by decide) (by decide) hb.1 hC (k := 187) ⟨fun v hv => (ch_R hb v hv).1, hb.2.2.2.2.2, by
    have := sumN_le (n := 8) (f := b 187) (g := fun _ => 2000) (fun v hv => (ch_R hb v hv).2)
    rw [sumN_const] at this
    omega⟩
  exact ⟨f, h1, sumN_nn (fun v hv => h1.1 v hv), by omega⟩
/-- h + u, stabilized -/
theorem cl_stab {n : Nat} {b q a s : Sto} {h u : Nat → Int} (hb : OK b) (hC : Conn b) (hh : Rec (Jm b) (nK b) (nN b) h) (hu : Rec (Jm b) (nK b) (nN b) u) (hG : GG b q) (hq : OK q) (e : ∀ v, v < 8 → q 187 v = ext b h v + ext b u v) (E : Eqv q s) (hi : Ah a s) : K_Cg_stabilize n s (fun r s' => UpP q s' ∧ Ah a s' ∧ (0 ≤ r ∧ r ≤ 896000) ∧ OK s' ∧ Rec (Jm b) (nK b) (nN b) (s' 187) ∧ Cls (Jm b) (nK b) (nN b) (fun v => h v + u v) (s' 187)) := by
  have Cq := hG.conn.mpr hC
  have n8 := nN_8 hb
  obtain ⟨f, hf, fb⟩ := stl_sm hq Cq
  have k := u_stabilize (n := n) hf Cq hq E hi
  refine Sp.mono ?_ k
  rintro r s' ⟨x, rfl, p1, p2, p3, p4, p5, p6⟩
  have n1 := hG.N
  have k1 := hG.K
  have ra := rec_add (c0 := u) (c1 := s' 187) hq Cq ((hG.rec hb).mpr hu) (fun v hv hk => by
    rw [n1] at hv
    rw [k1] at hk
    have := rec_bd hb hh v
    rw [e v (by omega)]
    show u v ≤ ext b h v + ext b u v
    have : ext b u v = u v := if_pos ⟨hv, hk⟩
    omega) hf p4 (fun v hv hk => (ch_R p5 v (by rw [n1] at hv; omega)).1)
  refine ⟨x, rfl, p1, p2, by omega, p5, (hG.rec hb).mp ra.1, ?_⟩
  refine ((hG.cls hb).mp ra.2).of (fun v hv hk => ?_) (fun _ _ _ => rfl)
  rw [e v (by omega)]
  unfold ext
  rw [if_pos ⟨hv, hk⟩, if_pos ⟨hv, hk⟩]
theorem cl_425 {b : Sto} {c e h : Nat → Int} {ord : Int} (X : CX b c e h ord) : ∀ (d t : Nat) (q : Sto), 40 - t < d → (t : Int) ≤ ord → CQ b c h q → (∀ v, v < nN b → v ≠ nK b → q 191 v = e v) → Rec (Jm b) (nK b) (nN b) (q 187) → Cls (Jm b) (nK b) (nN b) (fun v => (t : Int) * h v) (q 187) → H_La_classes_425 3 (Qc b) ord t t q := by
  obtain ⟨hb, hC, hc, he, he0, hh, hch, ho, hot, hk⟩ := X
  have n8 := nN_8 hb
  have tb := trs_R hb
  intro d
  induction d with
  | zero => intro t q hd; omega
  | succ d ih =>
    intro t q hd ht H h191 hr hcl
    have hq := H.2.1
    have hG := H.1
    have n1 := hG.N
    have k1 := hG.K
    refine b_La_classes_425 ⟨True, fun _ => ?_, ⟨by omega, by omega⟩, fun _ => trivial, fun hlt => ⟨by omega, fun _ => trivial, fun h40 => ?_⟩⟩
    · refine ⟨_, la_lay (b := q) (a := q) (arX (by decide) (by decide)) (by decide) (fun v hv hvk => ?_) hq (Eqv.refl q) (Ah.refl q), ?_⟩
      · rw [n1] at hv
        rw [k1] at hvk
        have := hc v hv hvk
        have d : 0 ≤ dgr (Jm b) (nN b) v ∧ dgr (Jm b) (nN b) v ≤ 20 := hb.1.dbd hv
        rw [H.2.2.2.2 v hv hvk]; omega
      · rintro s1 ⟨S1, hi1, ok1, v1⟩
        have H1 := H.same S1 (fun i => hi1 190 i (by decide)) ok1
        have hG1 := H1.1
        have C1 := hG1.conn.mpr hC
        have e1 : ∀ v, v < nN b → v ≠ nK b → s1 187 v = c v := fun v hv hvk => by rw [v1 v (by rw [n1]; exact hv) (by rw [k1]; exact hvk), H.2.2.2.2 v hv hvk]
        have st1 : StbB s1 := fun v hv hvk _ => by
          rw [hG1.N] at hv
          rw [hG1.K] at hvk
          rw [hG1.dgr hb hv, e1 v hv hvk]
          exact (hc v hv hvk).2
        refine ⟨_, q_order (b := s1) (a := s1) C1 st1 ok1 (Eqv.refl s1) (Ah.refl s1), ?_⟩
        rintro r s2 ⟨E2, hi2, ⟨o1, o2⟩, o3, o4⟩
        rw [hG1.trs] at o2 o3
        have o5 : ∀ k : Int, Cls (Jm b) (nK b) (nN b) (fun v => k * c v) (fun _ => 0) ↔ r ∣ k := fun k => by
          rw [← o4 k, hG1.cls hb]
          exact ⟨fun z => z.of (fun v hv hvk => by rw [e1 v hv hvk]) (fun _ _ _ => rfl), fun z => z.of (fun v hv hvk => by rw [e1 v hv hvk]) (fun _ _ _ => rfl)⟩
        have d1 : r ∣ ord := (o5 ord).mp ((Cls.mul ord hch).trans ((hk ord).mpr (Int.dvd_refl _)))
        have d2 : ord ∣ r := (hk r).mp ((Cls.mul r hch).symm.trans ((o5 r).mpr (Int.dvd_refl _)))
        have er : r = ord := Int.dvd_antisymm (by omega) (by omega) d1 d2
        refine ⟨⟨by omega, by omega⟩, fun z => absurd er z, fun _ => ⟨_, q_treeCount (b := s1) (a := s1) ok1 E2 hi2, ?_⟩⟩
        rintro _ s3 ⟨E3, hi3, rfl⟩
        have tz : Int.tmod (trs s1) ord = 0 := by rw [hG1.trs]; exact Int.tmod_eq_zero_of_dvd hot
        rw [tz, hG1.trs]
        have H3 := H1.q E3 hi3
        exact ⟨by omega, ⟨⟨by omega, by omega⟩, by omega⟩, by decide, fun z => absurd rfl z, fun _ => ⟨rfl, H3.1, H3.2.1, H3.2.2.1⟩⟩
    · refine ⟨_, cl_add (a := q) (u := q 187) hb hC hh hr H (fun _ _ _ => rfl) (Eqv.refl q) (Ah.refl q), ?_⟩
      rintro r1 s1 ⟨U1, hi1, _, ok1, v1⟩
      have H1 := H.up U1 hi1 ok1
      refine ⟨_, cl_stab (a := s1) hb hC hh hr H1.1 ok1 v1 (Eqv.refl s1) (Ah.refl s1), ?_⟩
      rintro r2 s2 ⟨U2, hi2, _, ok2, rec2, cl2⟩
      have H2 := H1.up U2 hi2 ok2
      have a191 : ∀ v, v < nN b → v ≠ nK b → s2 191 v = e v := fun v hv hvk => by rw [hi2 191 v (by decide), hi1 191 v (by decide)]; exact h191 v hv hvk
      have n2 := H2.1.N
      have k2 := H2.1.K
      refine ⟨_, la_are (b := s2) (a := s2) (arX (by decide) (by decide)) (by decide) (fun v hv hvk => ?_) ok2 (Eqv.refl s2) (Ah.refl s2), ?_⟩
      · rw [n2] at hv
        rw [k2] at hvk
        have := rec_bd hb he v
        have e1 : ext b e v = e v := if_pos ⟨hv, hvk⟩
        rw [a191 v hv hvk]
        unfold R32
        omega
      rintro _ s3 ⟨E3, hi3, rfl⟩
      have cl3 : Cls (Jm b) (nK b) (nN b) (fun v => ((t + 1 : Nat) : Int) * h v) (s2 187) := by
        refine Cls.trans ?_ cl2
        refine ((Cls.refl h).add hcl).of (fun v _ _ => ?_) (fun _ _ _ => rfl)
        rw [Int.natCast_succ, Int.add_mul, Int.one_mul, Int.add_comm]
      have iff : (∀ v, v < nN s2 → v ≠ nK s2 → s2 187 v = s2 191 v) ↔ (t : Int) + 1 = ord := by
        rw [n2, k2]
        constructor
        · intro z
          have z0 : Cls (Jm b) (nK b) (nN b) (fun _ => 0) (s2 187) := he0.of (fun _ _ _ => rfl) (fun v hv hvk => by rw [z v hv hvk, a191 v hv hvk])
          have dv := (hk ((t + 1 : Nat) : Int)).mp (cl3.trans z0.symm)
          have := Int.le_of_dvd (by omega) dv
          omega
        · intro z v hv hvk
          have z0 := (hk ((t + 1 : Nat) : Int)).mpr (by rw [show ((t + 1 : Nat) : Int) = ord by omega]; exact Int.dvd_refl _)
          rw [a191 v hv hvk]
          exact rec2.uniq hb.1.Jnn he (cl3.symm.trans (z0.trans he0)) hv hvk
      have i01 := ind_01 (∀ v, v < nN s2 → v ≠ nK s2 → s2 187 v = s2 191 v)
      have go : H_La_classes_425 3 (Qc b) ord ((t : Int) + 1) ((t : Int) + 1) s3 := by
        rw [nat_suc]
        refine ih (t + 1) s3 (by omega) (by omega) (H2.q E3 hi3) (fun v hv hvk => by rw [hi3 191 v (by decide)]; exact a191 v hv hvk) (RecC (fun v _ _ => (E3.c v).symm) rec2) (cl3.of (fun _ _ _ => rfl) (fun v _ _ => E3.c v))
      refine ⟨fun v => v = ind (∀ v, v < nN s2 → v ≠ nK s2 → s2 187 v = s2 191 v), fun v hv => ⟨⟨by omega, by omega⟩, fun _ => go, fun z => absurd hv.symm z⟩, ⟨by omega, by omega⟩, fun z => (ind_f (fun y => z (iff.mp y))).symm, fun z => (ind_t (iff.mpr z)).symm⟩
