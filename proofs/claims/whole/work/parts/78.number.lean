/-! the tree with a number -/
/-- trees whose bits from d on are a's -/
noncomputable def pfx (s : Sto) (d a : Nat) : Int := sumN (2 ^ (s 1 1).toNat) (fun T => ind (SpT s T ∧ T / 2 ^ d = a))
noncomputable def lss (s : Sto) (d a : Nat) : Int := sumN (2 ^ (s 1 1).toNat) (fun T => ind (SpT s T ∧ T / 2 ^ d < a))
theorem div_suc (T d : Nat) : T / 2 ^ (d + 1) = T / 2 ^ d / 2 := by rw [Nat.pow_succ, Nat.div_div_eq_div_mul]
theorem pfx_two (s : Sto) (d a : Nat) : pfx s (d + 1) a = pfx s d (2 * a) + pfx s d (2 * a + 1) := by
  unfold pfx
  rw [← sumN_add]
  refine sumN_congr (fun T _ => ?_)
  rw [div_suc]
  generalize T / 2 ^ d = x
  by_cases c : SpT s T
  · by_cases e1 : x = 2 * a
    · rw [ind_t ⟨c, by omega⟩, ind_t ⟨c, e1⟩, ind_f (fun z => by omega)]; rfl
    · by_cases e2 : x = 2 * a + 1
      · rw [ind_t ⟨c, by omega⟩, ind_f (fun z => e1 z.2), ind_t ⟨c, e2⟩]; rfl
      · rw [ind_f (fun z => by omega), ind_f (fun z => e1 z.2), ind_f (fun z => e2 z.2)]; rfl
  · rw [ind_f (fun z => c z.1), ind_f (fun z => c z.1), ind_f (fun z => c z.1)]; rfl
theorem lss_even (s : Sto) (d a : Nat) : lss s d (2 * a) = lss s (d + 1) a := by
  unfold lss
  refine sumN_congr (fun T _ => ind_c ?_)
  rw [div_suc]
  generalize T / 2 ^ d = x
  constructor <;> rintro ⟨h1, h2⟩ <;> exact ⟨h1, by omega⟩
theorem lss_odd (s : Sto) (d a : Nat) : lss s d (2 * a + 1) = lss s (d + 1) a + pfx s d (2 * a) := by
  unfold lss pfx
  rw [← sumN_add]
  refine sumN_congr (fun T _ => ?_)
  rw [div_suc]
  generalize T / 2 ^ d = x
  by_cases c : SpT s T
  · by_cases e1 : x = 2 * a
    · rw [ind_t ⟨c, by omega⟩, ind_f (fun z => by omega), ind_t ⟨c, e1⟩]; rfl
    · by_cases e2 : x < 2 * a
      · rw [ind_t ⟨c, by omega⟩, ind_t ⟨c, by omega⟩, ind_f (fun z => e1 z.2)]; rfl
      · rw [ind_f (fun z => by omega), ind_f (fun z => by omega), ind_f (fun z => e1 z.2)]; rfl
  · rw [ind_f (fun z => c z.1), ind_f (fun z => c z.1), ind_f (fun z => c z.1)]; rfl
theorem SpT.lt {s : Sto} {T : Nat} (h : SpT s T) : T < 2 ^ (s 1 1).toNat := lt_pow h.1
theorem sum_pos {n : Nat} {f : Nat → Int} (h : 0 < sumN n f) : ∃ i, i < n ∧ 0 < f i := by
  apply Classical.byContradiction
  intro z
  have := sumN_le (n := n) (f := f) (g := fun _ => 0) (fun i hi => Classical.byContradiction fun q => z ⟨i, hi, by omega⟩)
  rw [sumN_zero] at this
  omega
theorem ind_pos {p : Prop} (h : 0 < ind p) : p := Classical.byContradiction fun z => by rw [ind_f z] at h; omega
theorem pfx_ex {s : Sto} {d a : Nat} (h : 0 < pfx s d a) : ∃ T, SpT s T ∧ T / 2 ^ d = a := by
  obtain ⟨T, _, h2⟩ := sum_pos h
  exact ⟨T, ind_pos h2⟩
/-- bits from d on -/
theorem div_bits {T w d : Nat} : T / 2 ^ d = w / 2 ^ d ↔ ∀ i, d ≤ i → T.testBit i = w.testBit i := by
  constructor
  · intro e i hi
    have h := congrArg (fun x => Nat.testBit x (i - d)) e
    rw [Nat.testBit_div_two_pow, Nat.testBit_div_two_pow, show i - d + d = i by omega] at h
    exact h
  · intro h
    apply Nat.eq_of_testBit_eq
    intro i
    rw [Nat.testBit_div_two_pow, Nat.testBit_div_two_pow]
    exact h _ (by omega)
theorem mul_low {a d i : Nat} (hi : i < d) : (2 ^ d * a).testBit i = false := by
  rw [Nat.testBit_two_pow_mul]
  simp; omega
theorem mul_div (a d : Nat) : 2 ^ d * a / 2 ^ d = a := Nat.mul_div_cancel_left a (Nat.two_pow_pos d)
/-- what is decided from d on -/
def Dec (s : Sto) (d w B : Nat) : Prop := (∀ i, w.testBit i = true → d ≤ i ∧ i < (s 1 1).toNat) ∧ ∀ i, B.testBit i = true ↔ d ≤ i ∧ i < (s 1 1).toNat ∧ w.testBit i = false
theorem tau_pfx {s : Sto} {d w B : Nat} (h : Dec s d w B) : tau s w B = pfx s d (w / 2 ^ d) := by
  unfold tau pfx
  refine sumN_congr (fun T _ => ind_c ?_)
  rw [div_bits]
  constructor
  · rintro ⟨h1, h2, h3⟩
    refine ⟨h1, fun i hi => ?_⟩
    cases c : w.testBit i
    · by_cases e : i < (s 1 1).toNat
      · exact h3 i ((h.2 i).mpr ⟨hi, e, c⟩)
      · cases q : T.testBit i
        · rfl
        · exact absurd (h1.1 i q) e
    · exact h2 i c
  · rintro ⟨h1, h2⟩
    refine ⟨h1, fun i hi => by rw [h2 i (h.1 i hi).1]; exact hi, fun i hi => ?_⟩
    have := (h.2 i).mp hi
    rw [h2 i this.1]
    exact this.2.2
theorem Dec.no {s : Sto} {d w B : Nat} (h : Dec s (d + 1) w B) (hd : d < (s 1 1).toNat) : Dec s d w (B ||| 2 ^ d) := by
  refine ⟨fun i hi => by have := h.1 i hi; omega, fun i => ?_⟩
  rw [tb_or, Bool.or_eq_true, decide_eq_true_eq, h.2 i]
  constructor
  · rintro (z | z)
    · exact ⟨by omega, z.2⟩
    · subst z
      refine ⟨Nat.le_refl d, hd, ?_⟩
      cases q : w.testBit d
      · rfl
      · have := h.1 d q; omega
  · rintro ⟨z1, z2, z3⟩
    by_cases c : d = i
    · exact Or.inr c
    · exact Or.inl ⟨by omega, z2, z3⟩
theorem Dec.yes {s : Sto} {d w B : Nat} (h : Dec s (d + 1) w B) (hd : d < (s 1 1).toNat) : Dec s d (w ||| 2 ^ d) B := by
  refine ⟨fun i hi => ?_, fun i => ?_⟩
  · rw [tb_or, Bool.or_eq_true, decide_eq_true_eq] at hi
    rcases hi with z | z
    · have := h.1 i z; omega
    · omega
  · rw [tb_or, Bool.or_eq_false_iff, decide_eq_false_iff_not, h.2 i]
    constructor
    · rintro ⟨z1, z2, z3⟩
      exact ⟨by omega, z2, z3, by omega⟩
    · rintro ⟨z1, z2, z3, z4⟩
      exact ⟨by omega, z2, z3⟩
theorem Dec.low {s : Sto} {d w B : Nat} (h : Dec s (d + 1) w B) : w / 2 ^ d = 2 * (w / 2 ^ (d + 1)) ∧ (w ||| 2 ^ d) / 2 ^ d = 2 * (w / 2 ^ (d + 1)) + 1 := by
  have hb : w.testBit d = false := by
    cases q : w.testBit d
    · rfl
    · have := h.1 d q; omega
  have e1 : w / 2 ^ d % 2 = 0 := by
    rw [Nat.testBit_eq_decide_div_mod_eq, decide_eq_false_iff_not] at hb
    omega
  rw [div_suc, Nat.or_div_two_pow, Nat.div_self (Nat.two_pow_pos d)]
  generalize w / 2 ^ d = x at *
  refine ⟨by omega, ?_⟩
  have e2 : x = 2 ^ 1 * (x / 2) := by omega
  have e3 := Nat.two_pow_add_eq_or_of_lt (i := 1) (b := 1) (by decide) (x / 2)
  rw [← e2] at e3
  omega
theorem Dec.lt {s : Sto} {d w B : Nat} (h : Dec s d w B) : w < 2 ^ (s 1 1).toNat ∧ B < 2 ^ (s 1 1).toNat := ⟨lt_pow (fun e he => (h.1 e he).2), lt_pow (fun e he => ((h.2 e).mp he).2.1)⟩
theorem tau_one (s : Sto) (w : Nat) : pfx s 0 w = ind (SpT s w) := by
  by_cases c : w < 2 ^ (s 1 1).toNat
  · unfold pfx
    rw [sumN_congr (g := fun T => if T = w then ind (SpT s w) else 0) (fun T _ => by
      rw [Nat.pow_zero, Nat.div_one]
      by_cases d : T = w
      · rw [if_pos d, d]
        exact ind_c ⟨fun z => z.1, fun z => ⟨z, rfl⟩⟩
      · rw [if_neg d]
        exact ind_f (fun z => d z.2)), sumN_one _ c]
  · rw [ind_f (fun z => c z.lt)]
    exact sumN_z (fun T hT => ind_f (fun z => by rw [Nat.pow_zero, Nat.div_one] at z; omega))
/-- how many trees have a smaller number -/
noncomputable def rank (s : Sto) (T : Nat) : Int := sumN (2 ^ (s 1 1).toNat) (fun T' => ind (SpT s T' ∧ T' < T))
theorem rank_lss (s : Sto) (w : Nat) : lss s 0 w = rank s w := sumN_congr (fun T _ => by rw [Nat.pow_zero, Nat.div_one])
theorem rank_le {s : Sto} {T T' : Nat} (h : T' ≤ T) : rank s T' ≤ rank s T := sumN_le (fun U _ => by
  by_cases c : SpT s U ∧ U < T'
  · rw [ind_t c, ind_t ⟨c.1, by omega⟩]; exact Int.le_refl 1
  · rw [ind_f c]; exact (ind_bd _).1)
/-- the number of trees -/
noncomputable def trs (s : Sto) : Int := sumN (2 ^ (s 1 1).toNat) (fun T => ind (SpT s T))
theorem no_bit0 {e : Nat} {p : Prop} (h : (0 : Nat).testBit e = true) : p := by rw [Nat.zero_testBit] at h; cases h
theorem trs_tau (s : Sto) : tau s 0 0 = trs s := sumN_congr (fun T _ => ind_c ⟨fun z => z.1, fun z => ⟨z, fun e he => no_bit0 he, fun e he => no_bit0 he⟩⟩)
theorem trs_bd {s : Sto} (h : WG s) : 0 ≤ trs s ∧ trs s ≤ 1048576 := by
  have hm := h.2.1
  refine ⟨sumN_nn (fun _ _ => (ind_bd _).1), ?_⟩
  have a := sumN_le (n := 2 ^ (s 1 1).toNat) (f := fun T => ind (SpT s T)) (g := fun _ => 1) (fun _ _ => (ind_bd _).2)
  rw [sumN_const] at a
  have b : 2 ^ (s 1 1).toNat ≤ 2 ^ 20 := Nat.pow_le_pow_right (by decide) (by omega)
  have c : (2 : Nat) ^ 20 = 1048576 := by decide
  unfold trs
  omega
theorem tau_bd {s : Sto} (h : WG s) (w B : Nat) : 0 ≤ tau s w B ∧ tau s w B ≤ 1048576 := by
  have a := trs_bd h
  refine ⟨sumN_nn (fun _ _ => (ind_bd _).1), Int.le_trans (sumN_le (fun T _ => ?_)) a.2⟩
  by_cases c : tre s w B T
  · rw [ind_t c, ind_t c.1]; exact Int.le_refl 1
  · rw [ind_f c]; exact (ind_bd _).1
theorem SpT.of {s q : Sto} (h : ∀ k i, 1 ≤ k → k ≤ 3 → q k i = s k i) {T : Nat} : SpT q T ↔ SpT s T := by
  have e2 : q 2 = s 2 := funext fun i => h 2 i (by decide) (by decide)
  have e3 : q 3 = s 3 := funext fun i => h 3 i (by decide) (by decide)
  unfold SpT
  rw [h 1 0 (by decide) (by decide), h 1 1 (by decide) (by decide), h 1 2 (by decide) (by decide), e2, e3]
theorem k_Tr_treeNumbered {k : Nat} {s : Sto} (h : WG s) (hk : (k : Int) < trs s) : K_Tr_treeNumbered k s (fun r s' => FrM s s' ∧ ∃ T, r = (T : Nat) ∧ SpT s T ∧ rank s T = k) := by
  have hn := h.1
  have hm := h.2.1
  have hb := trs_bd h
  refine e_Tr_treeNumbered ⟨by omega, ?_⟩
  have main : ∀ d, d ≤ (s 1 1).toNat → ∀ (rest : Int) (w B : Nat) (q : Sto), FrM s q → Dec s d w B → 0 ≤ rest → rest < pfx s d (w / 2 ^ d) → (k : Int) = rest + lss s d (w / 2 ^ d) → H_Tr_treeNumbered_20 (fun r s' => FrM s s' ∧ ∃ T, r = (T : Nat) ∧ SpT s T ∧ rank s T = k) rest w B ((d : Int) - 1) q := by
    intro d
    induction d with
    | zero =>
      intro _ rest w B q hq hD h0 h1 h2
      rw [Nat.pow_zero, Nat.div_one] at h1 h2
      refine b_Tr_treeNumbered_20 ⟨by omega, fun _ => ⟨hq, w, rfl, ?_, ?_⟩, fun z => absurd z (by omega)⟩
      · rw [tau_one] at h1
        exact ind_pos (by omega)
      · rw [tau_one] at h1
        have := (ind_bd (SpT s w)).2
        rw [rank_lss] at h2
        omega
    | succ d ih =>
      intro hd rest w B q hq hD h0 h1 h2
      obtain ⟨T, hT, hT2⟩ := pfx_ex (by omega : 0 < pfx s (d + 1) (w / 2 ^ (d + 1)))
      have hbits := div_bits.mp hT2
      have hwT : ∀ e, w.testBit e = true → T.testBit e = true := fun e he => by rw [hbits e (hD.1 e he).1]; exact he
      have hDn := hD.no (by omega)
      have hDy := hD.yes (by omega)
      obtain ⟨lo1, lo2⟩ := hD.low
      have l20 : 2 ^ (s 1 1).toNat ≤ 2 ^ 20 := Nat.pow_le_pow_right (by decide) (by omega)
      have c20 : (2 : Nat) ^ 20 = 1048576 := by decide
      have lt1 := hD.lt
      have lt2 := hDn.lt
      have lt3 := hDy.lt
      have gq : WG q := h.of hq.g
      have e11 : q 1 1 = s 1 1 := hq.g 1 1 (by decide) (by decide)
      have ed : (((d + 1 : Nat) : Int) - 1) = ((d : Nat) : Int) := by omega
      rw [ed]
      refine b_Tr_treeNumbered_20 ⟨by omega, fun z => absurd z (by omega), fun _ => ?_⟩
      rw [ior_bit (a := B) (e := d) (by omega) (by omega)]
      refine ⟨_, k_Tr_count (T := T) gq (by omega) (Or.inl ((SpT.of (fun k i h1 h2 => hq.g k i h1 (by omega))).mpr hT)) hwT (fun e he => by rw [e11]; exact (hD.1 e he).2) (fun e he => ?_), ?_⟩
      · cases c : (B ||| 2 ^ d).testBit e
        · rfl
        · have := (hDn.2 e).mp c
          rw [he] at this
          cases this.2.2
      · rintro r q' ⟨f1, f2⟩
        have hq' := hq.trans f1
        rw [tau_of (fun k i h1 h2 => hq.g k i h1 (by omega)) w, tau_pfx hDn, lo1] at f2
        have bd := tau_bd h w (B ||| 2 ^ d)
        rw [tau_pfx hDn, lo1, ← f2] at bd
        have two := pfx_two s d (w / 2 ^ (d + 1))
        have b2 := tau_bd h w B
        rw [tau_pfx hD] at b2
        refine ⟨by omega, fun c => ?_, fun c => ?_⟩
        · rw [ior_bit (a := w) (e := d) (by omega) (by omega)]
          refine ih (by omega) (rest - r) (w ||| 2 ^ d) B q' hq' hDy (by omega) (by rw [lo2]; omega) ?_
          rw [lo2, lss_odd]
          omega
        · refine ih (by omega) rest w (B ||| 2 ^ d) q' hq' hDn h0 (by rw [lo1]; omega) ?_
          rw [lo1, lss_even]
          omega
  have e : (s 1 1 - 1 : Int) = (((s 1 1).toNat : Nat) : Int) - 1 := by omega
  rw [e]
  have D0 : Dec s (s 1 1).toNat 0 0 := ⟨fun i hi => no_bit0 hi, fun i => ⟨fun z => no_bit0 z, fun z => by omega⟩⟩
  refine main (s 1 1).toNat (Nat.le_refl _) (k : Int) 0 0 s (FrM.refl s) D0 (by omega) ?_ ?_
  · rw [← tau_pfx D0, trs_tau]
    exact hk
  · have : lss s (s 1 1).toNat (0 / 2 ^ (s 1 1).toNat) = 0 := sumN_z (fun T _ => ind_f (fun z => by have z2 := z.2; rw [Nat.zero_div] at z2; exact Nat.not_lt_zero _ z2))
    omega
