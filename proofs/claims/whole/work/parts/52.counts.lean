/-! counting by level -/
theorem PS_of {s q : Sto} (h : ∀ k i, 1 ≤ k → k ≤ 13 → q k i = s k i) : PS q = PS s ∧ Ein q = Ein s := by
  have h1 : q 1 = s 1 := funext fun i => h 1 i (by decide) (by decide)
  have h2 : q 2 = s 2 := funext fun i => h 2 i (by decide) (by decide)
  have h3 : q 3 = s 3 := funext fun i => h 3 i (by decide) (by decide)
  have hE : Ein q = Ein s := by funext S e; unfold Ein; rw [h2, h3]
  refine ⟨?_, hE⟩
  funext S
  unfold PS cS
  rw [hE, h1, h2, h3]
theorem sum_odd (F : Nat → Int) (hF : ∀ p, p.testBit 0 = false → F p = 0) : ∀ k, sumN (2 * k) F = sumN k (fun j => F (2 * j + 1)) := by
  intro k
  induction k with
  | zero => rfl
  | succ k ih =>
    show sumN (2 * k + 1 + 1) F = _
    show sumN (2 * k) F + F (2 * k) + F (2 * k + 1) = sumN k (fun j => F (2 * j + 1)) + F (2 * k + 1)
    rw [ih, hF (2 * k) (by rw [Nat.testBit_zero]; exact decide_eq_false (by omega))]
    omega
theorem sub_le {p S : Nat} (h : p &&& S = p) : p ≤ S := by
  rw [← h]; exact Nat.and_le_right
theorem cntD_no (m : Nat) : cntD (fun _ => false) m = 0 := by
  induction m with
  | zero => rfl
  | succ m ih => show (if false = true then cntD (fun _ => false) m + 1 else cntD (fun _ => false) m) = 0; rw [if_neg (by decide), ih]
noncomputable def GP (s : Sto) (S p : Nat) (i : Nat) : Int := if p.testBit 0 = true ∧ p &&& S = p then shn (cntD (Ein s (S ^^^ p)) (s 1 1).toNat) (PS s p) i else 0
/-- the sum for a set out of those for its parts -/
theorem PS_rec {s : Sto} {m : Nat} (hm : m < 128) (i : Nat) : shn (cntD (Ein s (2 * m + 1)) (s 1 1).toNat) del0 i - sumN m (fun j => GP s (2 * m + 1) (2 * j + 1) i) = PS s (2 * m + 1) i := by
  have h0 : (2 * m + 1).testBit 0 = true := by rw [Nat.testBit_zero]; exact decide_eq_true (by omega)
  have e := comp_sum (s := s) (S := 2 * m + 1) (by omega) h0 i
  have e2 : sumN (2 ^ 8) (fun p => GP s (2 * m + 1) p i) = sumN 128 (fun j => GP s (2 * m + 1) (2 * j + 1) i) := sum_odd _ (fun p hp => if_neg (fun z => by rw [hp] at z; cases z.1)) 128
  have e3 := sumN_split (a := m + 1) (b := 127 - m) (fun j => GP s (2 * m + 1) (2 * j + 1) i)
  have ez : sumN (127 - m) (fun j => GP s (2 * m + 1) (2 * (m + 1 + j) + 1) i) = 0 := sumN_z (fun j _ => if_neg (fun z => by have := sub_le z.2; omega))
  rw [show m + 1 + (127 - m) = 128 by omega, ez] at e3
  have e4 : GP s (2 * m + 1) (2 * m + 1) i = PS s (2 * m + 1) i := by
    unfold GP
    rw [if_pos ⟨h0, Nat.and_self _⟩, Nat.xor_self, show Ein s 0 = (fun _ => false) from funext fun e => by unfold Ein; rw [Nat.zero_testBit]; rfl, cntD_no]
    rfl
  have e5 : sumN (m + 1) (fun j => GP s (2 * m + 1) (2 * j + 1) i) = sumN m (fun j => GP s (2 * m + 1) (2 * j + 1) i) + GP s (2 * m + 1) (2 * m + 1) i := rfl
  have e6 : shn (cntD (Ein s (2 * m + 1)) (s 1 1).toNat) del0 i = sumN (2 ^ 8) (fun p => GP s (2 * m + 1) p i) := e
  omega
theorem arl {j : Nat} (h : j < 128) : ar SC (58 + j) 2 21 := by
  have := rwSC_57 (i := (j : Int)) (by omega)
  rw [toNat_n] at this
  exact this
theorem k_Le_sumConnected {m : Nat} {s : Sto} (h : WG s) (hS : 2 * m + 1 < 2 ^ (s 1 0).toNat) (hE : ∀ S, S < 2 ^ (s 1 0).toNat → s 56 S = cntD (Ein s S) (s 1 1).toNat) (hP : ∀ j, j < m → ∀ i, i < 21 → s (58 + j) i = PS s (2 * j + 1) i) : K_Le_sumConnected ((2 * m + 1 : Nat) : Int) s (fun s' => ∃ g, s' = wr s (58 + m) g ∧ ∀ i, i < 21 → g i = PS s (2 * m + 1) i) := by
  have hn := h.1
  have hm2 := h.2.1
  have hN : 2 ^ (s 1 0).toNat ≤ 256 := pow_n8 (by omega)
  have et : Int.tdiv ((2 * m + 1 : Nat) : Int) 2 = (m : Int) := by rw [Int.tdiv_eq_ediv_of_nonneg (by omega)]; omega
  refine e_Le_sumConnected ⟨by omega, by omega, ?_⟩
  rw [et, toNat_n]
  have hk2 := arl (j := m) (by omega)
  have hc := hE (2 * m + 1) hS
  have hcl := cntD_le (Ein s (2 * m + 1)) (s 1 1).toNat
  refine loop_inv (α := Sto) (N := 21) (fun j q => ∃ g, q = wr s (58 + m) g ∧ ∀ i, i < j → g i = shn (cntD (Ein s (2 * m + 1)) (s 1 1).toNat) del0 i) (fun j q => H_Le_sumConnected_11 _ ((2 * m + 1 : Nat) : Int) (58 + m) j q) (fun j q hj hI ih => ?_) (fun q hI => ?_) 0 s (by omega) ⟨s (58 + m), (wr_self s _).symm, fun i z => absurd z (by omega)⟩
  · obtain ⟨g, e, hg⟩ := hI
    have hc2 : q 56 (Int.toNat ((2 * m + 1 : Nat) : Int)) = (cntD (Ein s (2 * m + 1)) (s 1 1).toNat : Int) := by rw [e, wr_ne (by omega), toNat_n]; exact hc
    have step : ∀ x : Int, x = shn (cntD (Ein s (2 * m + 1)) (s 1 1).toNat) del0 j → ∀ s1, s1 = up q (58 + m) (Int.toNat (j : Int)) x → H_Le_sumConnected_11 _ ((2 * m + 1 : Nat) : Int) (58 + m) ((j : Int) + 1) s1 := fun x hx s1 e1 => by
      rw [nat_suc]
      refine ih s1 ⟨fu g j x, by rw [e1, e, up_wr_wr, toNat_n], fun i hi => ?_⟩
      by_cases d : i = j
      · rw [d, fu_eq, hx]
      · rw [fu_ne d]; exact hg i (by omega)
    refine b_Le_sumConnected_11 hk2 ⟨by omega, fun c => absurd c (by omega), fun _ => ⟨by omega, ⟨by omega, by omega⟩, fun c => ⟨by omega, step 0 ?_⟩, fun c => ⟨by omega, step 1 ?_⟩⟩⟩
    · rw [shn_at]
      unfold del0
      split
      · rfl
      · rw [if_neg (by omega)]
    · rw [shn_at, if_neg (by omega)]
      unfold del0
      rw [if_pos (by omega)]
  · obtain ⟨g, e, hg⟩ := hI
    refine b_Le_sumConnected_11 hk2 ⟨by omega, fun _ => ?_, fun c => absurd c (by omega)⟩
    refine loop_inv (α := Sto) (N := m) (fun j q => ∃ g, q = wr s (58 + m) g ∧ ∀ i, i < 21 → g i = shn (cntD (Ein s (2 * m + 1)) (s 1 1).toNat) del0 i - sumN j (fun j' => GP s (2 * m + 1) (2 * j' + 1) i)) (fun j q => H_Le_sumConnected_43 _ ((2 * m + 1 : Nat) : Int) (58 + m) ((2 * j + 1 : Nat) : Int) q) (fun j q hj hI ih => ?_) (fun q hI => ?_) 0 q (by omega) ⟨g, e, fun i hi => by rw [hg i hi]; show _ = _ - 0; omega⟩
    · obtain ⟨g, e, hg⟩ := hI
      have hz := inv_z (p := 2 * j + 1) (S := 2 * m + 1) (by omega) (by omega)
      have hr := iand_inv (p := 2 * j + 1) (S := 2 * m + 1) (by omega) (by omega)
      have hr2 : (2 * j + 1) &&& (2 ^ 32 - (2 * m + 1 + 1)) ≤ 2 * j + 1 := Nat.and_le_left
      have h0 : (2 * j + 1).testBit 0 = true := by rw [Nat.testBit_zero]; exact decide_eq_true (by omega)
      have etj : Int.tdiv ((2 * j + 1 : Nat) : Int) 2 = (j : Int) := by rw [Int.tdiv_eq_ediv_of_nonneg (by omega)]; omega
      have en : ((2 * j + 1 : Nat) : Int) + 2 = ((2 * (j + 1) + 1 : Nat) : Int) := by omega
      refine b_Le_sumConnected_43 hk2 ⟨⟨by omega, by omega⟩, fun c => absurd c (by omega), fun _ => ⟨by omega, fun c => ?_, fun c => ⟨by omega, by omega, ?_⟩⟩⟩
      · rw [en]
        refine ih q ⟨g, e, fun i hi => ?_⟩
        rw [hg i hi]
        show _ = _ - (sumN j (fun j' => GP s (2 * m + 1) (2 * j' + 1) i) + GP s (2 * m + 1) (2 * j + 1) i)
        have : GP s (2 * m + 1) (2 * j + 1) i = 0 := if_neg (fun z => c (hz.mpr z.2))
        omega
      · have hsub := hz.mp c
        have hx := inv_x (p := 2 * j + 1) (S := 2 * m + 1) (by omega) (by omega) hsub
        have hxl : (2 * m + 1) ^^^ (2 * j + 1) < 2 ^ (s 1 0).toNat := Nat.xor_lt_two_pow hS (by omega)
        have h56 : q 56 ((2 * m + 1) ^^^ (2 * j + 1)) = (cntD (Ein s ((2 * m + 1) ^^^ (2 * j + 1))) (s 1 1).toNat : Int) := by
          rw [e, wr_ne (by omega)]; exact hE _ hxl
        have hle := cntD_le (Ein s ((2 * m + 1) ^^^ (2 * j + 1))) (s 1 1).toNat
        rw [hx, etj, toNat_n, toNat_n, h56]
        refine ⟨by omega, _, k_Le_subtractShifted hk2 (arl (by omega)) (by omega) (by omega), ?_⟩
        rintro s1 rfl
        rw [en]
        refine ih _ ⟨_, by rw [e, wr_wr], fun i hi => ?_⟩
        rw [if_pos hi, wr_eq, hg i hi]
        show _ = _ - (sumN j (fun j' => GP s (2 * m + 1) (2 * j' + 1) i) + GP s (2 * m + 1) (2 * j + 1) i)
        have : GP s (2 * m + 1) (2 * j + 1) i = shn (cntD (Ein s ((2 * m + 1) ^^^ (2 * j + 1))) (s 1 1).toNat) (PS s (2 * j + 1)) i := if_pos ⟨h0, hsub⟩
        have e7 : shn (cntD (Ein s ((2 * m + 1) ^^^ (2 * j + 1))) (s 1 1).toNat) (wr s (58 + m) g (58 + j)) i = shn (cntD (Ein s ((2 * m + 1) ^^^ (2 * j + 1))) (s 1 1).toNat) (PS s (2 * j + 1)) i := by
          rw [shn_at, shn_at]
          split
          · rfl
          · rw [wr_ne (by omega), hP j hj _ (by omega)]
        rw [this, e7]
        omega
    · obtain ⟨g, e, hg⟩ := hI
      exact b_Le_sumConnected_43 hk2 ⟨⟨by omega, by omega⟩, fun _ => ⟨g, e, fun i hi => by rw [hg i hi]; exact PS_rec (by omega) i⟩, fun c => absurd c (by omega)⟩
/-- no tree of too high a level -/
theorem lvT_le {s : Sto} (h : WG s) {T : Nat} (hT : SpT s T) : lvT s T + ((s 1 0).toNat - 1) ≤ (s 1 1).toNat := by
  have hn := h.1
  have hb := hT.2.1
  rw [← cntD_bc] at hb
  have e1 : cntD (fun e => (uOf s T).testBit e && T.testBit e) (s 1 1).toNat = cntD (fun e => T.testBit e) (s 1 1).toNat := cntD_congr (fun e he => by
    cases q : T.testBit e
    · rw [Bool.and_false]
    · have : (uOf s T).testBit e = true := (wl_inv h (decT T) (s 1 1).toNat).1 e (by rw [hT.found h]; exact q)
      rw [this]; rfl)
  have mono : ∀ m, cntD (fun e => (uOf s T).testBit e && T.testBit e) m ≤ cntD (fun e => (uOf s T).testBit e) m := by
    intro m
    induction m with
    | zero => exact Nat.le_refl _
    | succ m ih =>
      unfold cntD
      cases (uOf s T).testBit m <;> cases T.testBit m <;> simp <;> omega
  have e2 := mono (s 1 1).toNat
  have e3 := cntD_not (fun e => (uOf s T).testBit e) (s 1 1).toNat
  unfold lvT
  omega
/-- the number of trees of level i -/
noncomputable def bas (s : Sto) (i : Nat) : Int := sumN (2 ^ (s 1 1).toNat) (fun T => ind (SpT s T) * shn (lvT s T) del0 i)
theorem bas_z {s : Sto} (h : WG s) {i : Nat} (hi : (s 1 1).toNat < i + ((s 1 0).toNat - 1)) : bas s i = 0 := sumN_z (fun T _ => by
  by_cases c : SpT s T
  · have := lvT_le h c
    rw [shn_at]
    split
    · simp
    · unfold del0; rw [if_neg (by omega)]; simp
  · rw [ind_f c]; simp)
theorem bas_eq {s : Sto} (i : Nat) : bas s i = sumN (2 ^ (s 1 1).toNat) (fun T => ind (SpT s T ∧ lvT s T = i)) := sumN_congr (fun T _ => by
  have e : shn (lvT s T) del0 i = if lvT s T = i then 1 else 0 := by
    rw [shn_at]
    unfold del0
    split
    · rw [if_neg (by omega)]
    · split
      · rw [if_pos (by omega)]
      · rw [if_neg (by omega)]
  rw [e]
  by_cases c : SpT s T
  · by_cases d : lvT s T = i
    · rw [ind_t c, ind_t ⟨c, d⟩, if_pos d]; rfl
    · rw [ind_t c, ind_f (fun z => d z.2), if_neg d]; rfl
  · rw [ind_f c, ind_f (fun z => c z.1)]; simp)
theorem zmn_z {f : Nat → Int} {d : Nat} (hf : ∀ i, d < i → f i = 0) : ∀ r i, d + r < i → zmn r f i = 0 := by
  intro r
  induction r with
  | zero => intro i hi; exact hf i (by omega)
  | succ r ih =>
    intro i hi
    show sh (zmn r f) i - zmn r f i = 0
    unfold sh
    rw [if_neg (by omega), ih (i - 1) (by omega), ih i (by omega)]
    rfl
theorem bas_20 {s : Sto} (h : WG s) {r : Nat} (hr : r + 1 ≤ (s 1 0).toNat - 1) : zmn r (bas s) 20 = 0 := by
  have hm := h.2.1
  by_cases c : (s 1 1).toNat < (s 1 0).toNat - 1
  · have : ∀ i, bas s i = 0 := fun i => bas_z h (by omega)
    have e : bas s = nul := funext this
    rw [e]
    have : ∀ r, zmn r nul = nul := by
      intro r
      induction r with
      | zero => rfl
      | succ r ih => show zm (zmn r nul) = nul; rw [ih, zm_nul]
    rw [this]; rfl
  · exact zmn_z (d := (s 1 1).toNat - ((s 1 0).toNat - 1)) (fun i hi => bas_z h (by omega)) r 20 (by omega)
