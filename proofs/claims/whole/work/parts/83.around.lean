/-! the machine's diagonal form: one corner -/
def Sm (t N : Nat) (q : Sto) (x : Int) : Prop := ∃ i j, (t ≤ i ∧ i < N) ∧ (t ≤ j ∧ j < N) ∧ q (45 + i) j ≠ 0 ∧ q (45 + i) j ≤ x
def Tb (t N : Nat) (q : Sto) (x : Int) : Prop := (q (45 + t) t ≠ 0 ∧ q (45 + t) t ≤ x) ∧ (∀ i, t < i → i < N → q (45 + i) t = 0) ∧ ∃ j, t < j ∧ j < N ∧ q (45 + t) j % q (45 + t) t ≠ 0
def CaP (N t : Nat) (D g : Int) (s s' : Sto) : Prop := Fr5 t s s' ∧ DgF N D ((Int.gcd (s' (45 + t) t) D : Nat) : Int) (t + 1) (Cf s') ∧ g ∣ ((Int.gcd (s' (45 + t) t) D : Nat) : Int) ∧ CaR N t D (Cr N s) (Cr N s')
theorem CaP.of {N t : Nat} {D g : Int} {s s' : Sto} (ht : t < N) (hf : Fr5 t s s') (hF : DgF N D g t (Cf s')) (hc : ∀ i, t < i → i < N → s' (45 + i) t = 0) (hr : ∀ j, t < j → j < N → s' (45 + t) j = 0) (hd : ∀ i j, t < i → i < N → t < j → j < N → s' (45 + t) t ∣ s' (45 + i) j) (hR : CaR N t D (Cr N s) (Cr N s')) : CaP N t D g s s' := by
  obtain ⟨h1, h2, h3, h4, h5⟩ := hF
  refine ⟨hf, ⟨h1, h2, fun i j hi hj hij => ?_, Int.gcd_dvd_right .., fun i j hi hj hi2 hj2 => Int.dvd_trans (Int.gcd_dvd_left ..) (hd i j hi hi2 hj hj2)⟩, Int.dvd_coe_gcd (h5 t t (Nat.le_refl t) (Nat.le_refl t) ht ht) h4, hR⟩
  by_cases c : i = t
  · subst c
    by_cases d : j < i
    · exact ⟨(h3 j i d ht (by omega)).2, (h3 j i d ht (by omega)).1⟩
    · exact ⟨hr j (by omega) hj, hc j (by omega) hj⟩
  · exact h3 i j (by omega) hj hij
theorem ca_one {t N : Nat} {D g x : Int} {s q : Sto} {c : Nat} (hN : s 42 4 = (N : Int)) (hN8 : N ≤ 8) (ht : t < N) (hD : 0 < D ∧ D ≤ 500000) (hc : c < 1000000) (hq : Fr5 t s q) (hF : DgF N D g t (Cf q)) (hL : Sm t N q x) (hP : ∃ j, Pre N t D j (Cr N s) (Cr N q))
    (K1 : ∀ p q', 0 < p → p ≤ x → Fr5 t s q' → DgF N D g t (Cf q') → Sm t N q' (p - 1) → (∃ j, Pre N t D j (Cr N s) (Cr N q')) → H_Ma_clearAround_3 (CaP N t D g s) t D (c + 1 : Nat) q')
    (K2 : ∀ p q', 0 < p → p ≤ x → (∃ a b, (t ≤ a ∧ a < N) ∧ (t ≤ b ∧ b < N) ∧ q (45 + a) b = p) → ¬ Tb t N q p → Fr5 t s q' → DgF N D g t (Cf q') → Tb t N q' p → (∃ j, Pre N t D j (Cr N s) (Cr N q')) → H_Ma_clearAround_3 (CaP N t D g s) t D (c + 1 : Nat) q') : H_Ma_clearAround_3 (CaP N t D g s) t D c q := by
  have e4 : q 42 4 = (N : Int) := (hq.1 42 4 (by omega)).trans hN
  have hb : ∀ i j, i < N → j < N → 0 ≤ q (45 + i) j ∧ q (45 + i) j < D := hF.1
  refine b_Ma_clearAround_3 ⟨by omega, fun z => absurd z (by omega), fun _ => ⟨_, k_Ma_bringLeastToCorner e4 hN8 ht (fun i j hi hj => by have := hb i j hi hj; omega), ?_⟩⟩
  rw [nat_suc]
  rintro r6 s5 ⟨f5, h5⟩
  rcases h5 with ⟨r0, rfl, hz⟩ | ⟨r1, a, b, ha, hb2, hn, hmin, hcor, hv⟩
  · obtain ⟨i, j, hi, hj, hnz, _⟩ := hL
    exact absurd (hz i j hi.1 hi.2 hj.1 hj.2) hnz
  subst r1
  refine ⟨by omega, fun _ => ?_, fun z => absurd z (by omega)⟩
  have g5 : DgF N D g t (Cf s5) := by
    have a1 : DgF N D g t (fun i j => q (45 + sw2 t a i) j) := hF.swr ⟨Nat.le_refl t, ht⟩ ha (fun i j _ _ => rfl)
    exact a1.swc ⟨Nat.le_refl t, ht⟩ hb2 (fun i j hi hj => hv i j hi hj)
  have e45 : s5 42 4 = (N : Int) := (f5.1 42 4 (by omega)).trans e4
  have vt : s5 (45 + t) t = q (45 + a) b := by
    rw [hv t t ht ht]
    unfold sw2
    rw [if_pos rfl, if_pos rfl]
  have hp : 0 < q (45 + a) b := by have := hb a b ha.2 hb2.2; omega
  have hpx : q (45 + a) b ≤ x := by
    obtain ⟨i, j, hi, hj, hnz, hle⟩ := hL
    have := hmin i j hi.1 hi.2 hj.1 hj.2 hnz
    omega
  generalize hpe : q (45 + a) b = p at *
  refine ⟨_, k_Ma_clearColumn e45 hN8 ht hD g5 (by omega), ?_⟩
  rintro r13 s12 ⟨f12, g12, c12, m12, d12, z12, u12⟩
  have e412 : s12 42 4 = (N : Int) := (f12.1 42 4 (by omega)).trans e45
  have vt12 : s12 (45 + t) t = p := (c12 t t (Nat.le_refl t) ht).trans vt
  refine ⟨_, k_Ma_clearRow e412 hN8 ht hD g12 (by omega), ?_⟩
  rintro r18 s17 ⟨f17, g17, c17, m17, d17, u17⟩
  have e417 : s17 42 4 = (N : Int) := (f17.1 42 4 (by omega)).trans e412
  have vt17 : s17 (45 + t) t = p := (c17 t t (Nat.le_refl t) ht).trans vt12
  have fr17 : Fr5 t s s17 := hq.trans (f5.trans (f12.trans f17))
  have smc : ∀ i, t < i → i < N → s12 (45 + i) t ≠ 0 → Sm t N s17 (p - 1) := fun i h1 h2 h3 => by
    refine ⟨i, t, by omega, by omega, ?_, ?_⟩
    · rw [c17 i t (Nat.le_refl t) h2]; exact h3
    · rw [c17 i t (Nat.le_refl t) h2, m12 i h1 h2, vt]
      have := Int.emod_lt_of_pos (s5 (45 + i) t) hp
      omega
  have smr : ∀ j, t < j → j < N → s17 (45 + t) j ≠ 0 → Sm t N s17 (p - 1) := fun j h1 h2 h3 => by
    refine ⟨t, j, by omega, by omega, h3, ?_⟩
    rw [m17 j h1 h2, vt12]
    have := Int.emod_lt_of_pos (s12 (45 + t) j) hp
    omega
  have fl : oFL N t (Cr N q) a b := by
    refine ⟨ha, hb2, by rw [Cr_in ha.2 hb2.2, hpe]; omega, fun i j h1 h2 h3 h4 h5 => ?_⟩
    rw [Cr_in h2 h4] at h5 ⊢
    rw [Cr_in ha.2 hb2.2, hpe]
    exact hmin i j h1 h2 h3 h4 h5
  have e5 : Cr N s5 = oSw N t (Cr N q) a b := funext fun i => funext fun j => by
    unfold oSw
    by_cases c : i < N ∧ j < N
    · rw [if_pos c, Cr_in c.1 c.2, Cr_in (sw2_lt ht ha.2 c.1) (sw2_lt ht hb2.2 c.2)]
      exact hv i j c.1 c.2
    · rw [if_neg c]; exact if_neg c
  have e12 : Cr N s12 = oCc N t D (Cr N s5) := funext fun i => funext fun j => by
    unfold oCc
    by_cases c : i < N ∧ j < N
    · rw [if_pos c, Cr_in c.1 c.2, Cr_in c.1 c.2, Cr_in c.1 ht, Cr_in ht ht, Cr_in ht c.2]
      exact u12 i j c.1 c.2
    · rw [if_neg c]; exact if_neg c
  have e17 : Cr N s17 = o3 N t D (Cr N q) a b := by
    unfold o3
    rw [← e5, ← e12]
    funext i j
    unfold oCr
    by_cases c : i < N ∧ j < N
    · rw [if_pos c, Cr_in c.1 c.2, Cr_in c.1 c.2, Cr_in c.1 ht, Cr_in ht ht, Cr_in ht c.2]
      exact u17 i j c.1 c.2
    · rw [if_neg c]; exact if_neg c
  have nclr : (∃ i, t < i ∧ i < N ∧ s17 (45 + i) t ≠ 0) ∨ (∃ j, t < j ∧ j < N ∧ s17 (45 + t) j ≠ 0) → ∃ j, Pre N t D j (Cr N s) (Cr N s17) := fun z => by
    obtain ⟨j, hj⟩ := hP
    refine ⟨j + 1, Pre.snoc j hj (Or.inr ⟨a, b, fl, Or.inl ⟨rfl, fun y => ?_, e17⟩⟩)⟩
    rw [← e17] at y
    rcases z with ⟨i, h1, h2, h3⟩ | ⟨j, h1, h2, h3⟩
    · have := y.1 i h1 h2
      rw [Cr_in h2 ht] at this
      exact h3 this
    · have := y.2 j h1 h2
      rw [Cr_in ht h2] at this
      exact h3 this
  refine ⟨by rcases d12 with ⟨z, _⟩ | ⟨z, _⟩ <;> omega, fun z => ?_, fun z => ⟨by rcases d17 with ⟨z, _⟩ | ⟨z, _⟩ <;> omega, fun z2 => ?_, fun z2 => ?_⟩⟩
  · obtain ⟨_, i, h1, h2, h3⟩ := d12.resolve_left (by omega)
    exact K1 p s17 hp hpx fr17 g17 (smc i h1 h2 h3) (nclr (Or.inl ⟨i, h1, h2, by rw [c17 i t (Nat.le_refl t) h2]; exact h3⟩))
  · obtain ⟨_, j, h1, h2, h3⟩ := d17.resolve_left (by omega)
    exact K1 p s17 hp hpx fr17 g17 (smr j h1 h2 h3) (nclr (Or.inr ⟨j, h1, h2, h3⟩))
  · obtain ⟨_, cc⟩ := d12.resolve_right (by omega)
    obtain ⟨_, rr⟩ := d17.resolve_right (by omega)
    have cc17 : ∀ i, t < i → i < N → s17 (45 + i) t = 0 := fun i h1 h2 => by rw [c17 i t (Nat.le_refl t) h2]; exact cc i h1 h2
    have clr : oClr N t (o3 N t D (Cr N q) a b) := by
      rw [← e17]
      exact ⟨fun i h1 h2 => by rw [Cr_in h2 ht]; exact cc17 i h1 h2, fun j h1 h2 => by rw [Cr_in ht h2]; exact rr j h1 h2⟩
    refine ⟨_, k_Ma_addUndividedRow e417 hN8 ht hD g17 (by omega) cc17 rr, ?_⟩
    rintro r27 s26 (⟨w0, rfl, w2⟩ | ⟨w0, w1, w2, w3, w4, w5, w6⟩)
    · refine ⟨by omega, fun z => absurd w0 z, fun _ => CaP.of ht fr17 g17 cc17 rr w2 ?_⟩
      obtain ⟨j, hj⟩ := hP
      refine ⟨j, _, hj, Or.inr ⟨a, b, fl, Or.inr (Or.inr ⟨rfl, clr, ?_, e17⟩)⟩⟩
      rw [← e17]
      intro i j h1 h2 h3 h4
      rw [Cr_in ht ht, Cr_in h2 h4]
      exact w2 i j h1 h2 h3 h4
    · refine ⟨by omega, fun _ => ?_, fun z => absurd z (by omega)⟩
      refine K2 p s26 hp hpx ⟨a, b, ha, hb2, hpe⟩ (fun hT => ?_) (fr17.trans w1) w2 ⟨⟨by omega, by omega⟩, w4, ?_⟩ ?_
      · obtain ⟨⟨t1, t2⟩, t3, j, t4, t5, t6⟩ := hT
        obtain ⟨ea, eb⟩ := hcor t1 t2
        have same5 : ∀ i j, i < N → j < N → s5 (45 + i) j = q (45 + i) j := fun i j hi hj => by
          have sw : ∀ i, sw2 t t i = i := fun i => by unfold sw2; split; (rename_i h; exact h.symm); rfl
          rw [hv i j hi hj, ea, eb, sw, sw]
        have z5 : ∀ i, t < i → i < N → s5 (45 + i) t = 0 := fun i h1 h2 => by rw [same5 i t h2 ht]; exact t3 i h1 h2
        have r0 := rr j t4 t5
        rw [m17 j t4 t5, vt12, z12 z5 t j ht t5, same5 t j ht t5] at r0
        rw [ea, eb] at hpe
        rw [hpe] at t6
        exact t6 r0
      · obtain ⟨j, h1, h2, h3⟩ := w5
        exact ⟨j, h1, h2, by rw [w3]; exact h3⟩
      · obtain ⟨j, hj⟩ := hP
        obtain ⟨i0, y1, y2, ⟨j0, y3, y4, y5⟩, y6, y7⟩ := w6
        refine ⟨j + 1, Pre.snoc j hj (Or.inr ⟨a, b, fl, Or.inr (Or.inl ⟨rfl, clr, i0, ?_, ?_⟩)⟩)⟩
        · rw [← e17]
          refine ⟨y1, y2, ⟨j0, y3, y4, by rw [Cr_in ht ht, Cr_in y2 y4]; exact y5⟩, fun i' j h1 h2 h3 h4 => ?_⟩
          rw [Cr_in ht ht, Cr_in (by omega) h4]
          exact y6 i' j h1 h2 h3 h4
        · rw [← e17]
          funext i j
          unfold oAr
          by_cases c : i < N ∧ j < N
          · rw [if_pos c, Cr_in c.1 c.2, Cr_in c.1 c.2, Cr_in ht c.2, Cr_in y2 c.2]
            exact y7 i j c.1 c.2
          · rw [if_neg c]; exact if_neg c
theorem k_Ma_clearAround {t N : Nat} {D g : Int} {s : Sto} (hN : s 42 4 = (N : Int)) (hN8 : N ≤ 8) (ht : t < N) (hD : 0 < D ∧ D ≤ 400000) (hF : DgF N D g t (Cf s)) : K_Ma_clearAround t D s (CaP N t D g s) := by
  have hD5 : 0 < D ∧ D ≤ 500000 := by omega
  have main : ∀ x : Nat, (∀ (q : Sto) (c : Nat), Fr5 t s q → DgF N D g t (Cf q) → Sm t N q x → c + 2 * x + 2 ≤ 1000000 → (∃ j, Pre N t D j (Cr N s) (Cr N q)) → H_Ma_clearAround_3 (CaP N t D g s) t D c q) ∧ ∀ (q : Sto) (c : Nat), Fr5 t s q → DgF N D g t (Cf q) → Tb t N q x → c + 2 * x + 1 ≤ 1000000 → (∃ j, Pre N t D j (Cr N s) (Cr N q)) → H_Ma_clearAround_3 (CaP N t D g s) t D c q := by
    intro x
    induction x using Nat.strongRecOn with
    | ind x ih =>
      have down : ∀ (p : Int) (q : Sto) (c : Nat), 0 < p → p ≤ x → Fr5 t s q → DgF N D g t (Cf q) → Sm t N q (p - 1) → c + 2 * x ≤ 1000000 → (∃ j, Pre N t D j (Cr N s) (Cr N q)) → H_Ma_clearAround_3 (CaP N t D g s) t D c q := fun p q c h0 h1 h2 h3 h4 h5 h6 => by
        refine (ih (p - 1).toNat (by omega)).1 q c h2 h3 ?_ (by omega) h6
        rw [show (((p - 1).toNat : Nat) : Int) = p - 1 by omega]
        exact h4
      have hB : ∀ (q : Sto) (c : Nat), Fr5 t s q → DgF N D g t (Cf q) → Tb t N q x → c + 2 * x + 1 ≤ 1000000 → (∃ j, Pre N t D j (Cr N s) (Cr N q)) → H_Ma_clearAround_3 (CaP N t D g s) t D c q := fun q c h2 h3 h4 h5 h6 => by
        have hb : ∀ i j, i < N → j < N → 0 ≤ q (45 + i) j ∧ q (45 + i) j < D := h3.1
        have hT := h4
        obtain ⟨⟨t1, t2⟩, t3, t4⟩ := h4
        have btt := hb t t ht ht
        by_cases sm : Sm t N q (q (45 + t) t - 1)
        · exact down (q (45 + t) t) q c (by omega) t2 h2 h3 sm (by omega) h6
        · refine ca_one (x := (x : Int)) hN hN8 ht hD5 (by omega) h2 h3 ⟨t, t, by omega, by omega, t1, t2⟩ h6 (fun p q' k0 k1 k2 k3 k4 k5 => down p q' (c + 1) k0 k1 k2 k3 k4 (by omega) k5) (fun p q' k0 k1 k2 k3 => ?_)
          obtain ⟨a, b, ha, hb2, hab⟩ := k2
          refine absurd ⟨⟨t1, ?_⟩, t3, t4⟩ k3
          apply Classical.byContradiction
          intro z
          exact sm ⟨a, b, ha, hb2, by omega, by omega⟩
      refine ⟨fun q c h2 h3 h4 h5 h6 => ?_, hB⟩
      refine ca_one (x := (x : Int)) hN hN8 ht hD5 (by omega) h2 h3 h4 h6 (fun p q' k0 k1 k2 k3 k4 k5 => down p q' (c + 1) k0 k1 k2 k3 k4 (by omega) k5) (fun p q' k0 k1 k2 k3 k4 k5 k6 k7 => ?_)
      refine hB q' (c + 1) k4 k5 ⟨⟨k6.1.1, ?_⟩, k6.2⟩ (by omega) k7
      have := k6.1.2
      omega
  have hb : ∀ i j, i < N → j < N → 0 ≤ s (45 + i) j ∧ s (45 + i) j < D := hF.1
  refine e_Ma_clearAround ?_
  by_cases z : ∃ i j, (t ≤ i ∧ i < N) ∧ (t ≤ j ∧ j < N) ∧ s (45 + i) j ≠ 0
  · obtain ⟨i, j, hi, hj, hnz⟩ := z
    have := hb i j hi.2 hj.2
    exact (main (D - 1).toNat).1 s 0 (Fr5.refl t s) hF ⟨i, j, hi, hj, hnz, by omega⟩ (by omega) ⟨0, rfl⟩
  · have hz : ∀ i j, t ≤ i → i < N → t ≤ j → j < N → s (45 + i) j = 0 := fun i j h1 h2 h3 h4 => Classical.byContradiction fun y => z ⟨i, j, ⟨h1, h2⟩, ⟨h3, h4⟩, y⟩
    refine b_Ma_clearAround_3 ⟨by omega, fun z => absurd z (by omega), fun _ => ⟨_, k_Ma_bringLeastToCorner hN hN8 ht (fun i j hi hj => by have := hb i j hi hj; omega), ?_⟩⟩
    rintro r6 s5 ⟨f5, h5⟩
    rcases h5 with ⟨r0, rfl, _⟩ | ⟨r1, a, b, ha, hb2, hn, _⟩
    · exact ⟨by omega, fun z => absurd r0 z, fun _ => CaP.of ht f5 hF (fun i h1 h2 => hz i t (by omega) h2 (Nat.le_refl t) ht) (fun j h1 h2 => hz t j (Nat.le_refl t) ht (by omega) h2) (fun i j h1 h2 h3 h4 => by rw [hz i j (by omega) h2 (by omega) h4]; exact Int.dvd_zero _) ⟨0, _, rfl, Or.inl ⟨rfl, rfl, fun i j h1 h2 h3 h4 => by rw [Cr_in h2 h4]; exact hz i j h1 h2 h3 h4⟩⟩⟩
    · exact absurd (hz a b ha.1 ha.2 hb2.1 hb2.2) hn
