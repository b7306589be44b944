/-! the law's burning -/
theorem bRn_K {b : Sto} : bRn b (nK b) = 0 := rnd_K _
theorem bRn_bd (b : Sto) (v : Nat) : -1 ≤ bRn b v ∧ bRn b v ≤ nN b := rnd_bd _ _ _ _ _ _
theorem bRn_no {b : Sto} (hb : OK b) {v : Nat} (hv : v < nN b) (h : bRn b v = -1) : b 187 v + sumN (nN b) (fun w => if bRn b w = -1 then 0 else Jm b v w) < dgr (Jm b) (nN b) v := by
  have a := rnd_fix (J := Jm b) (need := fun v => dgr (Jm b) (nN b) v - b 187 v) (K := nK b) (N := nN b) hb.1.K v hv h
  have e : sumN (nN b) (fun w => if bRn b w = -1 then 0 else Jm b v w) = sumN (nN b) (fun w => if rnd (Jm b) (fun v => dgr (Jm b) (nN b) v - b 187 v) (nK b) (nN b) (nN b) w = -1 then 0 else Jm b v w) := rfl
  dsimp only at a
  rw [e]
  omega
theorem bRn_at {b : Sto} {t : Nat} (ht : t ≤ nN b) (v : Nat) : sumN (nN b) (fun w => if rnd (Jm b) (fun v => dgr (Jm b) (nN b) v - b 187 v) (nK b) (nN b) t w = -1 then 0 else Jm b v w) = sumN (nN b) (fun w => if bRn b w = -1 ∨ (t : Int) < bRn b w then 0 else Jm b v w) :=
  sumN_congr (fun w _ => ite_congr (propext (rnd_at ht)) (fun _ => rfl) (fun _ => rfl))
theorem bRn_yes {b : Sto} {v : Nat} (hk : v ≠ nK b) (h : bRn b v ≠ -1) : 1 ≤ bRn b v ∧ dgr (Jm b) (nN b) v ≤ b 187 v + sumN (nN b) (fun w => if bRn b w = -1 ∨ bRn b v ≤ bRn b w then 0 else Jm b v w) ∧ (1 < bRn b v → b 187 v + sumN (nN b) (fun w => if bRn b w = -1 ∨ bRn b v - 1 ≤ bRn b w then 0 else Jm b v w) < dgr (Jm b) (nN b) v) := by
  obtain ⟨t, h1, h2, h3, h4⟩ := rnd_when hk h
  have h2' : bRn b v = (t : Int) + 1 := h2
  rw [bRn_at (by omega)] at h4
  refine ⟨by omega, ?_, fun h5 => ?_⟩
  · have e : sumN (nN b) (fun w => if bRn b w = -1 ∨ bRn b v ≤ bRn b w then 0 else Jm b v w) = sumN (nN b) (fun w => if bRn b w = -1 ∨ (t : Int) < bRn b w then 0 else Jm b v w) := sumN_congr (fun w _ => ite_congr (propext (by rw [h2']; omega)) (fun _ => rfl) (fun _ => rfl))
    rw [e]
    omega
  · obtain ⟨t', rfl⟩ : ∃ t', t = t' + 1 := ⟨t - 1, by omega⟩
    have e : sumN (nN b) (fun w => if bRn b w = -1 ∨ bRn b v - 1 ≤ bRn b w then 0 else Jm b v w) = sumN (nN b) (fun w => if bRn b w = -1 ∨ (t' : Int) < bRn b w then 0 else Jm b v w) := sumN_congr (fun w _ => ite_congr (propext (by rw [h2']; omega)) (fun _ => rfl) (fun _ => rfl))
    rw [e, ← bRn_at (by omega)]
    apply Classical.byContradiction
    intro c
    have k : rnd (Jm b) (fun v => dgr (Jm b) (nN b) v - b 187 v) (nK b) (nN b) t' v = -1 := Classical.byContradiction fun z => by
      have := rnd_keep z
      rw [h3] at this
      exact z this.symm
    have : rnd (Jm b) (fun v => dgr (Jm b) (nN b) v - b 187 v) (nK b) (nN b) (t' + 1) v = (t' : Int) + 1 := by
      conv => lhs; unfold rnd
      exact if_pos ⟨k, by omega⟩
    omega
theorem kind_and : ∀ p : Nat, p < 2 → ∀ q : Nat, q < 2 → ∀ r : Nat, r < 2 → iand ((p : Int) + 2 * q + 4 * r) 1 = p ∧ iand ((p : Int) + 2 * q + 4 * r) 2 = 2 * q ∧ iand ((p : Int) + 2 * q + 4 * r) 3 = p + 2 * q ∧ iand ((p : Int) + 2 * q + 4 * r) 5 = p + 4 * r ∧ iand ((p : Int) + 2 * q + 4 * r) 6 = 2 * q + 4 * r := by decide +kernel
theorem kind_i (P Q R : Prop) : iand (ind P + 2 * ind Q + 4 * ind R) 1 = ind P ∧ iand (ind P + 2 * ind Q + 4 * ind R) 2 = 2 * ind Q ∧ iand (ind P + 2 * ind Q + 4 * ind R) 3 = ind P + 2 * ind Q ∧ iand (ind P + 2 * ind Q + 4 * ind R) 5 = ind P + 4 * ind R ∧ iand (ind P + 2 * ind Q + 4 * ind R) 6 = 2 * ind Q + 4 * ind R := by
  have e : ∀ p : Prop, ∃ n : Nat, n < 2 ∧ ind p = (n : Int) := fun p => by
    rcases ind_01 p with h | h
    · exact ⟨0, by decide, h⟩
    · exact ⟨1, by decide, h⟩
  obtain ⟨p, hp, ep⟩ := e P
  obtain ⟨q, hq, eq⟩ := e Q
  obtain ⟨r, hr, er⟩ := e R
  rw [ep, eq, er]
  exact kind_and p hp q hq r hr
/-- what burnt() answers -/
def bAn (b : Sto) (v : Nat) : Int := if bRn b v = -1 then -10007 else bRn b v
theorem bAn_c (b : Sto) (v : Nat) : (bRn b v = -1 ∧ bAn b v = -10007) ∨ (0 ≤ bRn b v ∧ bAn b v = bRn b v) := by
  have := bRn_bd b v
  unfold bAn
  by_cases c : bRn b v = -1
  · exact Or.inl ⟨c, if_pos c⟩
  · exact Or.inr ⟨by omega, if_neg c⟩
theorem la_burning {n : Nat} {b a s : Sto} (hb : OK b) (E : Eqv b s) (hi : Ah a s) : K_La_burning n s (fun r s' => Eqv b s' ∧ Ah a s' ∧ r = 1) := by
  have hn := hb.1.1
  have hk2 := hb.1.2.2.1
  have eN : ((nN b : Nat) : Int) = b 1 0 := by show (((b 1 0).toNat : Nat) : Int) = _; omega
  have eK : ((nK b : Nat) : Int) = b 1 2 := by show (((b 1 2).toNat : Nat) : Int) = _; omega
  have eb : ∀ x, (if bRn b x = -1 then -10007 else bRn b x) = bAn b x := fun _ => rfl
  refine e_La_burning ⟨_, q_value0 hb E hi, ?_⟩
  rintro _ s1 ⟨E, hi, rfl⟩
  refine ⟨_, q_value2 hb E hi, ?_⟩
  rintro _ s2 ⟨E, hi, rfl⟩
  refine loop_inv (α := Int × Sto) (N := nN b) (fun v p => Eqv b p.2 ∧ Ah a p.2 ∧ p.1 = ind (∀ w, w < v → bRn b w ≠ -1)) (fun v p => H_La_burning_17 n _ (b 1 0) (b 1 2) p.1 v p.2) (fun v p hv hI ih => ?_) (fun p hI => ?_) 0 (1, s2) (by omega) ⟨E, hi, (ind_t (fun w hw => absurd hw (by omega))).symm⟩
  · obtain ⟨x3, q⟩ := p
    obtain ⟨E, hi, h3⟩ := hI
    dsimp only at E hi h3 ⊢
    have h01 := ind_01 (∀ w, w < v → bRn b w ≠ -1)
    have hv2 : (v : Int) < b 1 0 := by omega
    -- the inner loop
    have inner : ∀ y q, Eqv b q → Ah a q → y = ind (∀ w, w < v + 1 → bRn b w ≠ -1) → H_La_burning_55 n (fun r s' => Eqv b s' ∧ Ah a s' ∧ r = 1) (b 1 0) (b 1 2) y v (bAn b v) 0 0 0 q := fun y q E hi hy => by
      have hy01 := ind_01 (∀ w, w < v + 1 → bRn b w ≠ -1)
      refine loop_inv (α := Int × Int × Sto) (N := nN b) (fun w p => Eqv b p.2.2 ∧ Ah a p.2.2 ∧ p.1 = sumN w (fun w => if bRn b w = -1 ∨ (0 ≤ bAn b v ∧ bAn b v ≤ bRn b w) then 0 else Jm b v w) ∧ p.2.1 = sumN w (fun w => if bRn b w = -1 ∨ bAn b v - 1 ≤ bRn b w then 0 else Jm b v w)) (fun w p => H_La_burning_55 n _ (b 1 0) (b 1 2) y v (bAn b v) p.1 p.2.1 w p.2.2) (fun w p hw hI ih2 => ?_) (fun p hI => ?_) 0 (0, 0, q) (by omega) ⟨E, hi, rfl, rfl⟩
      · obtain ⟨x6, x7, q⟩ := p
        obtain ⟨E, hi, h6, h7⟩ := hI
        dsimp only at E hi h6 h7 ⊢
        have cw := bAn_c b w
        have cv := bAn_c b v
        have bw := bRn_bd b w
        have bv := bRn_bd b v
        refine b_La_burning_55 ⟨by omega, fun z => absurd z (by omega), fun _ => ⟨_, q_burnt (by omega) hb E hi, ?_⟩⟩
        rintro _ q1 ⟨E, hi, rfl⟩
        rw [toNat_n, eb, nat_suc]
        have st6 : ∀ z, z = (if bRn b w = -1 ∨ (0 ≤ bAn b v ∧ bAn b v ≤ bRn b w) then 0 else Jm b v w) → x6 + z = sumN (w + 1) (fun w => if bRn b w = -1 ∨ (0 ≤ bAn b v ∧ bAn b v ≤ bRn b w) then 0 else Jm b v w) := fun z hz => by rw [h6, hz]; rfl
        have st7 : ∀ z, z = (if bRn b w = -1 ∨ bAn b v - 1 ≤ bRn b w then 0 else Jm b v w) → x7 + z = sumN (w + 1) (fun w => if bRn b w = -1 ∨ bAn b v - 1 ≤ bRn b w then 0 else Jm b v w) := fun z hz => by rw [h7, hz]; rfl
        refine ⟨bRn b w = -1 ∨ (0 ≤ bAn b v ∧ bAn b v ≤ bRn b w), fun z s' => Eqv b s' ∧ Ah a s' ∧ z = (if bRn b w = -1 ∨ (0 ≤ bAn b v ∧ bAn b v ≤ bRn b w) then 0 else Jm b v w), fun z => ⟨E, hi, (if_pos z).symm⟩, ?_, by omega, fun z => by omega, fun z => ⟨¬ (bRn b w = -1 ∨ (0 ≤ bAn b v ∧ bAn b v ≤ bRn b w)), fun y => ⟨_, la_joins hv hw hb E hi, ?_⟩, by omega, fun y => by omega, fun y => ⟨⟨by omega, by omega⟩, fun u => by omega, fun u => by omega⟩⟩⟩
        · rintro z s' ⟨E, hi, hz⟩
          refine ⟨by omega, fun u => ih2 (x6 + z, x7 + 0, s') ⟨E, hi, st6 z hz, st7 0 (if_pos (by omega)).symm⟩, fun u => ⟨⟨by omega, by omega⟩, fun u2 => ih2 (x6 + z, x7 + 0, s') ⟨E, hi, st6 z hz, st7 0 (if_pos (by omega)).symm⟩, fun u2 => ⟨_, la_joins hv hw hb E hi, ?_⟩⟩⟩
          rintro _ s3 ⟨E, hi, rfl⟩
          exact ih2 (x6 + z, x7 + Jm b v w, s3) ⟨E, hi, st6 z hz, st7 _ (if_neg (by omega)).symm⟩
        · rintro _ s3 ⟨E, hi, rfl⟩
          exact ⟨E, hi, (if_neg y).symm⟩
      · obtain ⟨x6, x7, q⟩ := p
        obtain ⟨E, hi, h6, h7⟩ := hI
        dsimp only at E hi h6 h7 ⊢
        have cv := bAn_c b v
        have bv := bRn_bd b v
        have hJ8 : ∀ w, w < nN b → 0 ≤ Jm b v w ∧ Jm b v w ≤ 20 := fun w hw => hb.1.J (by omega) (by omega)
        have b6 : 0 ≤ x6 ∧ x6 ≤ 160 := by
          have l1 := sumN_nn (n := nN b) (f := fun w => if bRn b w = -1 ∨ (0 ≤ bAn b v ∧ bAn b v ≤ bRn b w) then 0 else Jm b v w) (fun w hw => by have := hJ8 w hw; split <;> omega)
          have l2 := sumN_le (n := nN b) (f := fun w => if bRn b w = -1 ∨ (0 ≤ bAn b v ∧ bAn b v ≤ bRn b w) then 0 else Jm b v w) (g := fun _ => 20) (fun w hw => by have := hJ8 w hw; split <;> omega)
          rw [sumN_const] at l2
          omega
        have b7 : 0 ≤ x7 ∧ x7 ≤ 160 := by
          have l1 := sumN_nn (n := nN b) (f := fun w => if bRn b w = -1 ∨ bAn b v - 1 ≤ bRn b w then 0 else Jm b v w) (fun w hw => by have := hJ8 w hw; split <;> omega)
          have l2 := sumN_le (n := nN b) (f := fun w => if bRn b w = -1 ∨ bAn b v - 1 ≤ bRn b w then 0 else Jm b v w) (g := fun _ => 20) (fun w hw => by have := hJ8 w hw; split <;> omega)
          rw [sumN_const] at l2
          omega
        have db : 0 ≤ dgr (Jm b) (nN b) v ∧ dgr (Jm b) (nN b) v ≤ 20 := hb.1.dbd hv
        have cb := ch_R hb v (by omega)
        refine b_La_burning_55 ⟨by omega, fun _ => ⟨by omega, fun z => ⟨by omega, fun y => ?_, fun y => ?_⟩, fun z => ⟨by omega, fun y => ?_, fun y => ?_⟩⟩, fun z => absurd z (by omega)⟩
        · -- it burns
          have hne : bRn b v ≠ -1 := by omega
          have hvk : v ≠ nK b := by omega
          obtain ⟨g1, g2, g3⟩ := bRn_yes hvk hne
          have e6 : x6 = sumN (nN b) (fun w => if bRn b w = -1 ∨ bRn b v ≤ bRn b w then 0 else Jm b v w) := h6.trans (sumN_congr (fun w _ => ite_congr (propext (by omega)) (fun _ => rfl) (fun _ => rfl)))
          have e7 : x7 = sumN (nN b) (fun w => if bRn b w = -1 ∨ bRn b v - 1 ≤ bRn b w then 0 else Jm b v w) := h7.trans (sumN_congr (fun w _ => ite_congr (propext (by omega)) (fun _ => rfl) (fun _ => rfl)))
          rw [← e6] at g2
          rw [← e7] at g3
          refine ⟨_, q_chips (by omega) hb E hi, ?_⟩
          rintro _ q1 ⟨E, hi, rfl⟩
          refine ⟨_, q_degree (by omega) hb E hi, ?_⟩
          rintro _ q2 ⟨E, hi, rfl⟩
          rw [toNat_n]
          refine ⟨⟨by omega, by omega⟩, fun w => absurd w (by omega), fun w => ⟨by omega, fun _ => ?_, fun w2 => ⟨_, q_chips (by omega) hb E hi, ?_⟩⟩⟩
          · exact ih (_, q2) ⟨E, hi, by dsimp only; assumption⟩
          · rintro _ q3 ⟨E, hi, rfl⟩
            refine ⟨_, q_degree (by omega) hb E hi, ?_⟩
            rintro _ q4 ⟨E, hi, rfl⟩
            rw [toNat_n]
            have := g3 (by omega)
            exact ⟨⟨by omega, by omega⟩, fun _ => ih (_, q4) ⟨E, hi, by dsimp only; assumption⟩, fun w3 => absurd w3 (by omega)⟩
        · -- it doesn't
          have hne : bRn b v = -1 := by omega
          have hvk : v ≠ nK b := by omega
          have g := bRn_no hb hv hne
          have e6 : x6 = sumN (nN b) (fun w => if bRn b w = -1 then 0 else Jm b v w) := h6.trans (sumN_congr (fun w _ => ite_congr (propext (by omega)) (fun _ => rfl) (fun _ => rfl)))
          rw [← e6] at g
          refine ⟨by omega, fun w => absurd w (by omega), fun _ => ⟨_, q_chips (by omega) hb E hi, ?_⟩⟩
          rintro _ q1 ⟨E, hi, rfl⟩
          refine ⟨_, q_degree (by omega) hb E hi, ?_⟩
          rintro _ q2 ⟨E, hi, rfl⟩
          rw [toNat_n]
          exact ⟨⟨by omega, by omega⟩, fun _ => ih (_, q2) ⟨E, hi, by dsimp only; assumption⟩, fun w3 => absurd w3 (by omega)⟩
        · exact ih (_, q) ⟨E, hi, by dsimp only; assumption⟩
        · have hvk : v = nK b := by omega
          have g := bRn_K (b := b)
          rw [← hvk] at g
          omega
    refine b_La_burning_17 ⟨by omega, fun z => absurd z (by omega), fun _ => ⟨_, q_burnt (by omega) hb E hi, ?_⟩⟩
    rintro _ q1 ⟨E, hi, rfl⟩
    rw [toNat_n, eb]
    have cv := bAn_c b v
    have bv := bRn_bd b v
    refine ⟨by omega, fun z => inner 0 q1 E hi ?_, fun z => ⟨by omega, fun y => inner 0 q1 E hi ?_, fun y => inner 1 q1 E hi ?_⟩⟩
    · refine (ind_f (fun u => ?_)).symm
      rw [ind_t (fun w hw => u w (by omega))] at h3
      omega
    · exact (ind_f (fun u => u v (by omega) (by omega))).symm
    · refine (ind_t (fun w hw => ?_)).symm
      by_cases c : w = v
      · rw [c]; omega
      · have h3' : ∀ w, w < v → bRn b w ≠ -1 := Classical.byContradiction fun u => by rw [ind_f u] at h3; exact z h3
        exact h3' w (by omega)
  · obtain ⟨x3, q⟩ := p
    obtain ⟨E, hi, h3⟩ := hI
    dsimp only at E hi h3 ⊢
    have h01 := ind_01 (∀ w, w < nN b → bRn b w ≠ -1)
    have k := kind_i (StbB b) (RecB b) (SupB b)
    have iS := ind_01 (StbB b)
    have iR := ind_01 (RecB b)
    have iC := ind_01 (Conn b)
    have recI : RecB b ↔ (∀ w, w < nN b → bRn b w ≠ -1) ∧ StbB b ∧ Conn b := by
      constructor
      · rintro ⟨r1, r2⟩
        exact ⟨r2.2, ((rec_of hb r1).mpr r2).1, r1⟩
      · rintro ⟨r1, r2, r3⟩
        exact ⟨r3, fun v hv hk => ⟨(ch_R hb v (by have := nN_8 hb; omega)).1, r2.con hb.1 r3 hv hk⟩, r1⟩
    refine b_La_burning_17 ⟨by omega, fun _ => ⟨_, q_kind hb E hi, ?_⟩, fun z => absurd z (by omega)⟩
    rintro _ q1 ⟨E, hi, rfl⟩
    rw [k.2.1]
    refine ⟨fun z => z = ind (RecB b), fun z18 hz18 => ⟨fun s' => Eqv b s' ∧ Ah a s' ∧ ¬ RecB b, fun z s' => Eqv b s' ∧ Ah a s' ∧ z = ind (RecB b), ?_, ?_, by omega, fun z => ?_, fun z => ⟨_, q_kind hb E hi, ?_⟩⟩, by omega, fun z => by omega, fun z => by omega⟩
    · rintro s' ⟨E, hi, z⟩
      exact ⟨E, hi, (ind_f z).symm⟩
    · rintro z s' ⟨E, hi, hz⟩
      exact ⟨⟨by omega, by omega⟩, fun y => absurd (hz18.trans hz.symm) y, fun _ => ⟨E, hi, rfl⟩⟩
    · refine ⟨E, hi, fun y => ?_⟩
      rw [ind_t (recI.mp y).1] at h3
      omega
    · rintro _ q2 ⟨E, hi, rfl⟩
      rw [k.1]
      have hall : ∀ w, w < nN b → bRn b w ≠ -1 := Classical.byContradiction fun u => by rw [ind_f u] at h3; exact z h3
      refine ⟨by omega, fun y => ⟨E, hi, fun w => y (ind_t (recI.mp w).2.1)⟩, fun y => ⟨_, q_value3 hb E hi, ?_⟩⟩
      rintro _ q3 ⟨E, hi, rfl⟩
      have hst : StbB b := Classical.byContradiction fun u => by rw [ind_f u] at y; omega
      refine ⟨by omega, fun w => ⟨E, hi, fun u => w (ind_t u.1)⟩, fun w => ⟨E, hi, ?_⟩⟩
      have hc : Conn b := Classical.byContradiction fun u => by rw [ind_f u] at w; omega
      exact (ind_t (recI.mpr ⟨hall, hst, hc⟩)).symm
