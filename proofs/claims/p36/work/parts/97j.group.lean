/-! the law's group -/
theorem lvT_m {b : Sto} (T : Nat) : lvT b T ≤ (b 1 1).toNat := cntD_le _ _
theorem bas_all (b : Sto) : sumN ((b 1 1).toNat + 1) (fun l => bas b l) = trs b := by
  have e : sumN ((b 1 1).toNat + 1) (fun l => bas b l) = sumN ((b 1 1).toNat + 1) (fun l => sumN (2 ^ (b 1 1).toNat) (fun T => ind (SpT b T ∧ lvT b T = l))) := sumN_congr (fun l _ => bas_eq l)
  rw [e, sumN_comm]
  refine sumN_congr (fun T _ => ?_)
  by_cases c : SpT b T
  · rw [ind_t c, sumN_congr (g := fun l => if l = lvT b T then 1 else 0) (fun l _ => by
      by_cases d : l = lvT b T
      · rw [if_pos d, ind_t ⟨c, d.symm⟩]
      · rw [if_neg d, ind_f (fun z => d z.2.symm)]), sumN_one 1 (by have := lvT_m (b := b) T; omega)]
  · rw [ind_f c]
    exact sumN_z (fun l _ => ind_f (fun z => c z.1))
theorem bas_hi (b : Sto) : bas b ((b 1 1).toNat + 1) = 0 := by
  rw [bas_eq]
  exact sumN_z (fun T _ => ind_f (fun z => by have := lvT_m (b := b) T; omega))
theorem gr_190 {n : Nat} {b : Sto} (hb : OK b) (hC : Conn b) : ∀ (d k : Nat) (q : Sto) (x10 : Int), 12 - k < d → k ≤ 12 → (k : Int) ≤ trs b → GG b q → OK q → q 32 2 = b 32 2 → ((x10 = -1 ∧ k = 0) ∨ ∃ T : Nat, x10 = (T : Int) ∧ T < 1048576 ∧ rank b T = (k : Int) - 1) → H_La_group_190 n (Qc b) (trs b) x10 k q := by
  have hm := hb.1.2.1
  have tb := trs_R hb
  have tp := trs_pos hb.1 hC
  intro d
  induction d with
  | zero => intro k q x10 hd; omega
  | succ d ih =>
    intro k q x10 hd hk12 hkt hG hq h32 hx
    have et := hG.trs
    have rkq : ∀ T, rank q T = rank b T := fun T => rank_of (fun k i h1 h2 => hG k i h1 (by omega)) T
    have spq : ∀ T, SpT q T ↔ SpT b T := fun T => SpT.of (fun k i h1 h2 => hG k i h1 (by omega))
    have lT : ∀ T, SpT b T → T < 1048576 := fun T hT => by
      have := hT.lt
      have : 2 ^ (b 1 1).toNat ≤ 2 ^ 20 := Nat.pow_le_pow_right (by decide) (by omega)
      have : (2 : Nat) ^ 20 = 1048576 := by decide
      omega
    have E := Eqv.refl q
    have hi := Ah.refl q
    refine b_La_group_190 ⟨by omega, True, fun _ => ⟨by omega, fun _ => ⟨rfl, hG, hq, h32⟩, fun _ => ?_⟩, by omega, fun _ => trivial, fun hlt => ⟨by omega, fun _ => trivial, fun h12 => ?_⟩⟩
    · refine ⟨_, q_treeAt (b := q) (a := q) (by unfold R32; omega) hq E hi, ?_⟩
      rintro r s1 ⟨E, hi, _, r1, _⟩
      rw [r1 (by omega) (by omega)]
      refine ⟨by decide, fun z => absurd rfl z, fun _ => ⟨_, q_treeAt (b := q) (a := q) (by unfold R32; omega) hq E hi, ?_⟩⟩
      rintro r2 s2 ⟨E, hi, _, _, r2e⟩
      obtain ⟨T, rfl, hT, _⟩ := r2e (by omega) (by omega)
      have hTb := (spq T).mp hT
      have l1 := lT T hTb
      have t0 : T ≠ 0 := fun z => SpT_0 hb (z ▸ hTb)
      refine ⟨by omega, fun z => absurd z (by omega), fun _ => ⟨_, q_treeAt (b := q) (a := q) (by unfold R32; omega) hq E hi, ?_⟩⟩
      rintro r3 s3 ⟨E, hi, r3, _, _⟩
      rw [r3 (by decide)]
      exact ⟨by decide, fun z => absurd rfl z, fun _ => ⟨rfl, fun k i a c => (E.g k i a c).trans (hG k i a c), E.ok hq, (E 32 2 (by omega)).trans h32⟩⟩
    · refine ⟨_, q_treeAt (b := q) (a := q) (by unfold R32; omega) hq E hi, ?_⟩
      rintro r s1 ⟨E, hi, _, _, r1⟩
      obtain ⟨T, rfl, hT, rT⟩ := r1 (by omega) (by omega)
      have hTb := (spq T).mp hT
      have l1 := lT T hTb
      rw [rkq] at rT
      have up : x10 < (T : Int) := by
        rcases hx with ⟨z, _⟩ | ⟨T', z, _, z2⟩
        · omega
        · apply Classical.byContradiction
          intro c
          have := rank_le (s := b) (T := T') (T' := T) (by omega)
          omega
      have x10R : -1 ≤ x10 ∧ x10 < 1048576 := by
        rcases hx with ⟨z, _⟩ | ⟨T', z, z1, _⟩
        · omega
        · omega
      refine ⟨by omega, fun z => absurd z (by omega), fun _ => ⟨_, u_takeTree (b := q) (a := q) hT hq E hi, ?_⟩⟩
      rintro r2 s2 ⟨U2, hi2, r2e, ok2, rec2, t2⟩
      have G2 : GG b s2 := fun k i a c => (U2.g k i a c).trans (hG k i a c)
      have s0 : 0 ≤ sumN 8 (s2 187) ∧ sumN 8 (s2 187) ≤ 16000 := by
        have l1 := sumN_nn (n := 8) (f := s2 187) (fun v hv => (ch_R ok2 v hv).1)
        have l2 := sumN_le (n := 8) (f := s2 187) (g := fun _ => 2000) (fun v hv => (ch_R ok2 v hv).2)
        rw [sumN_const] at l2
        omega
      have t2b : TreeOf b T (s2 187) := (TreeOf.gg hb hG).mp t2
      refine ⟨by omega, fun z => absurd z (by omega), fun _ => ⟨_, q_kind (b := s2) (a := s2) ok2 (Eqv.refl s2) (Ah.refl s2), ?_⟩⟩
      rintro _ s3 ⟨E, hi, rfl⟩
      have k3 := kind_i (StbB s2) (RecB s2) (SupB s2)
      rw [k3.2.1, ind_t rec2]
      refine ⟨by decide, fun z => absurd z (by decide), fun _ => ⟨_, q_tree (b := s2) (a := s2) rec2 ok2 E hi, ?_⟩⟩
      rintro _ s4 ⟨E, hi, T', rfl, t4⟩
      have eT : T' = T := ((TreeOf.gg hb G2).mp t4).uniq hb.1 t2b
      subst eT
      refine ⟨by omega, fun z => absurd rfl z, fun _ => ⟨_, q_level (b := s2) (a := s2) rec2 ok2 E hi, ?_⟩⟩
      rintro _ s5 ⟨E, hi, rfl⟩
      obtain ⟨lv1, lv2⟩ := lev_eq ok2 rec2 t4
      refine ⟨by omega, fun _ => ?_, fun z => absurd z (by omega)⟩
      rw [nat_suc]
      refine ih (k + 1) s5 T' (by omega) (by omega) (by omega) (fun k i a c => (E.g k i a c).trans (G2 k i a c)) (E.ok ok2) ?_ (Or.inr ⟨T', rfl, l1, by omega⟩)
      rw [E 32 2 (by omega), U2.1 32 2 (by omega)]
      exact h32
theorem la_group {n : Nat} {b s : Sto} (hC : Conn b) (hb : OK b) (E : Eqv b s) : K_La_group n s (Qc b) := by
  have hm := hb.1.2.1
  have hm14 := hb.2.1
  have tb := trs_R hb
  have tp := trs_pos hb.1 hC
  have hi := Ah.refl s
  have em : (((b 1 1).toNat : Nat) : Int) = b 1 1 := by omega
  refine e_La_group ?_
  refine ⟨_, q_treeCount hb E hi, ?_⟩
  rintro _ s ⟨E, hi, rfl⟩
  refine ⟨_, q_factor_c hC hb E hi, ?_⟩
  rintro _ s1 ⟨E, hi, rfl, hp⟩
  obtain ⟨p1, p2, p3, p4⟩ := hp
  have hp : FacP b := ⟨p1, p2, p3, p4⟩
  refine loop_inv (α := Int × Sto) (N := fcC b) (fun k p => Eqv b p.2 ∧ p.1 = prodN k (fcF b)) (fun k p => H_La_group_17 n (Qc b) (trs b) p.1 (fcC b) k p.2) (fun k p hk hI ih => ?_) (fun p hI => ?_) 0 (1, s1) (by omega) ⟨E, rfl⟩
  · obtain ⟨x3, q⟩ := p
    obtain ⟨E, h3⟩ := hI
    dsimp only at E h3 ⊢
    have hi := Ah.refl q
    have pk := p2 k hk
    have nx : x3 * fcF b k = prodN (k + 1) (fcF b) := by rw [h3]; rfl
    refine b_La_group_17 ⟨by omega, ⟨by omega, by omega⟩, fun z => absurd z (by omega), fun _ => ⟨_, q_factor (by omega) hp hC hb E hi, ?_⟩⟩
    rintro _ s2 ⟨E, hi, rfl⟩
    rw [toNat_n, nat_suc]
    refine ⟨by omega, fun z => absurd z (by omega), fun _ => ⟨by omega, fun _ => ih (_, s2) ⟨E, nx⟩, fun hk0 => ⟨_, q_factor (by omega) hp hC hb E hi, ?_⟩⟩⟩
    rintro _ s3 ⟨E, hi, rfl⟩
    obtain ⟨k', rfl⟩ : ∃ k', k = k' + 1 := ⟨k - 1, by omega⟩
    have e1 : ((k' + 1 : Nat) : Int) - 1 = (k' : Int) := by omega
    rw [e1, toNat_n]
    have pk' := p2 k' (by omega)
    have tz : Int.tmod (fcF b (k' + 1)) (fcF b k') = 0 := Int.tmod_eq_zero_of_dvd (p3 k' hk)
    rw [tz]
    exact ⟨⟨⟨by omega, by omega⟩, by omega⟩, by decide, fun _ => ih (_, s3) ⟨E, nx⟩, fun z => absurd rfl z⟩
  · obtain ⟨x3, q⟩ := p
    obtain ⟨E, h3⟩ := hI
    dsimp only at E h3 ⊢
    have hi := Ah.refl q
    rw [p4] at h3
    refine b_La_group_17 ⟨by omega, ⟨by omega, by omega⟩, fun _ => ⟨_, q_value1 hb E hi, ?_⟩, fun z => absurd z (by omega)⟩
    rintro _ s2 ⟨E, hi, rfl⟩
    refine loop_inv (α := Int × Sto) (N := (b 1 1).toNat + 1) (fun l p => Eqv b p.2 ∧ p.1 = sumN l (fun l => bas b l)) (fun l p => H_La_group_90 n (Qc b) (trs b) x3 (fcC b) p.1 (b 1 1) l p.2) (fun l p hl hI ih => ?_) (fun p hI => ?_) 0 (0, s2) (by omega) ⟨E, rfl⟩
    · obtain ⟨x7, q⟩ := p
      obtain ⟨E, h7⟩ := hI
      dsimp only at E h7 ⊢
      refine b_La_group_90 ⟨by omega, fun z => absurd z (by omega), fun _ => ⟨_, q_levelCount (a := q) (by unfold R32; omega) hb E (Ah.refl q), ?_⟩⟩
      rintro r s3 ⟨E, hi, _, _, r3⟩
      have r3 := r3 (by omega) hC
      rw [toNat_n, if_pos (by omega)] at r3
      have bb := bas_bd b l
      rw [nat_suc]
      refine ⟨by omega, ih (_, s3) ⟨E, ?_⟩⟩
      dsimp only
      rw [h7, r3]; rfl
    · obtain ⟨x7, q⟩ := p
      obtain ⟨E, h7⟩ := hI
      dsimp only at E h7 ⊢
      rw [bas_all] at h7
      refine b_La_group_90 ⟨by omega, fun _ => ⟨by omega, fun z => absurd h3 z, fun _ => ⟨by omega, fun z => absurd h7 z, fun _ => ⟨_, q_levelCount (a := q) (by unfold R32; omega) hb E (Ah.refl q), ?_⟩⟩⟩, fun z => absurd z (by omega)⟩
      rintro r s3 ⟨E, hi, _, _, r3⟩
      have r3 := r3 (by omega) hC
      obtain ⟨T0, t1, t2⟩ := lev0 hb hC
      have bt := bas_tree t1
      rw [t2] at bt
      have bb := bas_bd b 0
      have r3' : r = bas b 0 := r3
      refine ⟨by omega, fun z => absurd z (by omega), fun _ => ⟨_, q_levelCount (a := q) (by unfold R32; omega) hb E hi, ?_⟩⟩
      rintro r4 s4 ⟨E, hi, _, _, r4e⟩
      have r4e := r4e (by omega) hC
      rw [show (b 1 1 + 1).toNat = (b 1 1).toNat + 1 by omega, bas_hi, if_pos (by omega)] at r4e
      refine ⟨by omega, fun z => absurd r4e z, fun _ => ⟨_, q_levelCount (a := q) (by unfold R32; omega) hb E hi, ?_⟩⟩
      rintro r5 s5 ⟨E, hi, r5e, _, _⟩
      have r5e := r5e (by decide)
      refine ⟨by omega, fun z => absurd r5e z, fun _ => ⟨_, q_factor_hi (a := q) (by unfold R32; omega) (Int.le_refl _) hC hb E hi, ?_⟩⟩
      rintro _ s6 ⟨E, hi, rfl⟩
      refine ⟨by decide, fun z => absurd z (by decide), fun _ => ⟨_, q_factor_no (a := q) (by unfold R32; omega) (Or.inl (by decide)) hb E hi, ?_⟩⟩
      rintro _ s7 ⟨E, hi, rfl⟩
      exact ⟨by decide, fun _ => gr_190 hb hC 13 0 s7 (-1) (by decide) (by decide) (by omega) E.g (E.ok hb) (E 32 2 (by omega)) (Or.inl ⟨rfl, rfl⟩), fun z => absurd z (by decide)⟩
