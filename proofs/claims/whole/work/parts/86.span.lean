/-! spanning trees told by the machine; counting bits -/
theorem iushr_n {a k : Nat} (ha : a < 2147483648) (hk : k < 32) : iushr a k = ((a >>> k : Nat) : Int) := by
  unfold iushr
  rw [ofInt_nI, ofInt_nI]
  have e : ∀ k, k < 32 → ((nI k).toUInt32 &&& Int32.toUInt32 31) = UInt32.ofNat k := by decide +kernel
  rw [e k hk]
  have h1 : ((nI a).toUInt32 >>> UInt32.ofNat k).toNat = a >>> k := by
    rw [UInt32.toNat_shiftRight]
    have e1 : (UInt32.ofNat k).toNat % 32 = k := by
      show (BitVec.ofNat 32 k).toNat % 32 = k
      rw [BitVec.toNat_ofNat]
      omega
    have e2 : (nI a).toUInt32.toNat = a := by
      show (BitVec.ofNat 32 a).toNat = a
      rw [BitVec.toNat_ofNat]
      omega
    rw [e1, e2]
  have h2 : a >>> k < 2147483648 := Nat.lt_of_le_of_lt (Nat.shiftRight_le a k) ha
  generalize (nI a).toUInt32 >>> UInt32.ofNat k = u at *
  show u.toBitVec.toInt = _
  rw [BitVec.toInt_eq_toNat_of_lt (by show 2 * u.toNat < 2 ^ 32; omega)]
  show ((u.toNat : Nat) : Int) = _
  rw [h1]
def popN (x : Nat) : Nat :=
  let u := x - ((x >>> 1) &&& 1431655765)
  let v := (u &&& 858993459) + ((u >>> 2) &&& 858993459)
  let w := (v + (v >>> 4)) &&& 252645135
  let y := w + (w >>> 8)
  (y + (y >>> 16)) &&& 63
theorem popN_all : ∀ a, a < 128 → ∀ b, b < 128 → popN (128 * a + b) = cntD (fun e => (128 * a + b).testBit e) 14 := by decide +kernel
theorem popN_ok (x : Nat) (hx : x < 16384) : popN x = cntD (fun e => x.testBit e) 14 := by
  have := popN_all (x / 128) (by omega) (x % 128) (by omega)
  rw [show 128 * (x / 128) + x % 128 = x by omega] at this
  exact this
theorem k_JI_bitCount {x : Nat} {s : Sto} (hx : x < 16384) : K_JI_bitCount x s (fun r s' => s' = s ∧ r = bc x 14) := by
  refine e_JI_bitCount ⟨rfl, ?_⟩
  rw [← cntD_bc, ← popN_ok x hx]
  have c1 : (1 : Int) = ((1 : Nat) : Int) := rfl
  have c2 : (2 : Int) = ((2 : Nat) : Int) := rfl
  have c4 : (4 : Int) = ((4 : Nat) : Int) := rfl
  have c8 : (8 : Int) = ((8 : Nat) : Int) := rfl
  have c16 : (16 : Int) = ((16 : Nat) : Int) := rfl
  have c63 : (63 : Int) = ((63 : Nat) : Int) := rfl
  have m1 : (1431655765 : Int) = ((1431655765 : Nat) : Int) := rfl
  have m2 : (858993459 : Int) = ((858993459 : Nat) : Int) := rfl
  have m3 : (252645135 : Int) = ((252645135 : Nat) : Int) := rfl
  rw [c1, c2, c4, c8, c16, c63, m1, m2, m3, iushr_n (a := x) (by omega) (by omega)]
  have l0 := Nat.shiftRight_le x 1
  have l1 : (x >>> 1) &&& 1431655765 ≤ x >>> 1 := Nat.and_le_left
  rw [iand_n (a := x >>> 1) (by omega)]
  rw [show (x : Int) - (((x >>> 1) &&& 1431655765 : Nat) : Int) = ((x - ((x >>> 1) &&& 1431655765) : Nat) : Int) by omega]
  unfold popN
  dsimp only
  generalize hu : x - ((x >>> 1) &&& 1431655765) = u
  have hu2 : u < 16384 := by omega
  rw [iand_n (a := u) (by omega), iushr_n (a := u) (k := 2) (by omega) (by omega)]
  have l2 := Nat.shiftRight_le u 2
  rw [iand_n (a := u >>> 2) (by omega)]
  have l3 : u &&& 858993459 ≤ u := Nat.and_le_left
  have l4 : (u >>> 2) &&& 858993459 ≤ u >>> 2 := Nat.and_le_left
  rw [← Int.natCast_add]
  generalize hv : (u &&& 858993459) + ((u >>> 2) &&& 858993459) = v
  have hv2 : v < 32768 := by omega
  rw [iushr_n (a := v) (k := 4) (by omega) (by omega), ← Int.natCast_add]
  have l5 := Nat.shiftRight_le v 4
  rw [iand_n (a := v + v >>> 4) (by omega)]
  have l6 : (v + v >>> 4) &&& 252645135 ≤ v + v >>> 4 := Nat.and_le_left
  generalize hw : (v + v >>> 4) &&& 252645135 = w
  have hw2 : w < 65536 := by omega
  rw [iushr_n (a := w) (k := 8) (by omega) (by omega), ← Int.natCast_add]
  have l7 := Nat.shiftRight_le w 8
  generalize hy : w + w >>> 8 = y
  rw [iushr_n (a := y) (k := 16) (by omega) (by omega), ← Int.natCast_add]
  have l8 := Nat.shiftRight_le y 16
  rw [iand_n (a := y + y >>> 16) (by omega)]
theorem ofI_neg : ∀ m, m < 21 → Int32.ofInt (-(2 ^ m : Nat)) = nI (2 ^ 32 - 2 ^ m) := by decide +kernel
theorem tb_high {m i : Nat} (hm : m ≤ 20) : (2 ^ 32 - 2 ^ m).testBit i = (decide (m ≤ i) && decide (i < 32)) := by
  have e : 2 ^ 32 - 2 ^ m = 2 ^ m * (2 ^ (32 - m) - 1) := by
    rw [Nat.mul_sub, ← Nat.pow_add, show m + (32 - m) = 32 by omega, Nat.mul_one]
  rw [e, Nat.testBit_two_pow_mul, Nat.testBit_two_pow_sub_one]
  by_cases c : m ≤ i
  · rw [decide_eq_true (p := i ≥ m) c, Bool.true_and, Bool.true_and]
    exact decide_eq_decide.mpr (by omega)
  · rw [decide_eq_false (p := i ≥ m) c, Bool.false_and, Bool.false_and]
theorem iand_high {m x : Nat} (hm : m ≤ 20) (hx : x < 2147483648) : iand x (-((2 ^ m : Nat) : Int)) = 0 ↔ x < 2 ^ m := by
  have e : iand x (-((2 ^ m : Nat) : Int)) = ((x &&& (2 ^ 32 - 2 ^ m) : Nat) : Int) := by
    unfold iand
    rw [ofInt_nI, ofI_neg m (by omega), nx_and, nIT (Nat.lt_of_le_of_lt Nat.and_le_left hx)]
  rw [e]
  constructor
  · intro h
    have h0 : x &&& (2 ^ 32 - 2 ^ m) = 0 := by omega
    refine Nat.lt_pow_two_of_testBit x (fun i hi => ?_)
    have a := congrArg (fun z => Nat.testBit z i) h0
    have b : (x &&& (2 ^ 32 - 2 ^ m)).testBit i = false := by rw [h0, Nat.zero_testBit]
    rw [Nat.testBit_and, tb_high hm, decide_eq_true hi, Bool.true_and] at b
    by_cases c : i < 32
    · rw [decide_eq_true c, Bool.and_true] at b
      exact b
    · exact Nat.testBit_lt_two_pow (Nat.lt_of_lt_of_le (show x < 2 ^ 31 from hx) (Nat.pow_le_pow_right (by decide) (by omega)))
  · intro h
    have h0 : x &&& (2 ^ 32 - 2 ^ m) = 0 := by
      apply Nat.eq_of_testBit_eq
      intro i
      rw [Nat.zero_testBit, Nat.testBit_and, tb_high hm]
      by_cases c : m ≤ i
      · rw [Nat.testBit_lt_two_pow (Nat.lt_of_lt_of_le h (Nat.pow_le_pow_right (by decide) c)), Bool.false_and]
      · rw [decide_eq_false c, Bool.false_and, Bool.and_false]
    rw [h0]
    rfl
theorem bc_more {x m d : Nat} (h : x < 2 ^ m) : bc x (m + d) = bc x m := by
  unfold bc
  rw [sumN_split, sumN_z (n := d) (fun i _ => by
    rw [Nat.testBit_lt_two_pow (Nat.lt_of_lt_of_le h (Nat.pow_le_pow_right (by decide) (by omega)))]
    rfl), Int.add_zero]
theorem k_Gr_isSpanningTree {x : Int} {s : Sto} (h : WG s) (hm14 : s 1 1 ≤ 14) (hx : R32 x) : K_Gr_isSpanningTree x s (fun r s' => (∀ k i, k ≠ 14 → s' k i = s k i) ∧ (r = 1 ∧ (0 ≤ x ∧ SpT s x.toNat) ∨ r = 0 ∧ ¬ (0 ≤ x ∧ SpT s x.toNat))) := by
  have hn := h.1
  have hm := h.2.1
  have hx2 := hx
  unfold R32 at hx2
  refine e_Gr_isSpanningTree ⟨by omega, fun c => ⟨fun _ _ _ => rfl, Or.inr ⟨rfl, fun z => by omega⟩⟩, fun c => ⟨_, k_Gr_allEdges h, ?_⟩⟩
  rintro r s5 ⟨rfl, hr⟩
  obtain ⟨a, rfl⟩ : ∃ a : Nat, x = a := ⟨x.toNat, by omega⟩
  rw [toNat_n]
  have l14 : 2 ^ (s5 1 1).toNat ≤ 2 ^ 14 := Nat.pow_le_pow_right (by decide) (by omega)
  have c14 : (2 : Nat) ^ 14 = 16384 := by decide
  have p1 := Nat.one_le_two_pow (n := (s5 1 1).toNat)
  have ex : ixor r (-1) = -((2 ^ (s5 1 1).toNat : Nat) : Int) := by
    rw [ixor_m1 r (by unfold R32; omega), hr]
    omega
  rw [ex]
  have ih := iand_high (m := (s5 1 1).toNat) (x := a) (by omega) (by omega)
  have ib : R32 (iand (a : Int) (-((2 ^ (s5 1 1).toNat : Nat) : Int))) := by
    unfold R32 iand
    have h1 := Int32.le_toInt (Int32.ofInt (a : Int) &&& Int32.ofInt (-((2 ^ (s5 1 1).toNat : Nat) : Int)))
    have h2 := Int32.toInt_lt (Int32.ofInt (a : Int) &&& Int32.ofInt (-((2 ^ (s5 1 1).toNat : Nat) : Int)))
    omega
  refine ⟨ib, fun z => ⟨fun _ _ _ => rfl, Or.inr ⟨rfl, fun q => z (ih.mpr q.2.lt)⟩⟩, fun z => ?_⟩
  have lt := ih.mp z
  refine ⟨_, k_JI_bitCount (x := a) (by omega), ?_⟩
  rintro r13 s12 ⟨rfl, rfl⟩
  have eb : bc a 14 = bc a (s12 1 1).toNat := by
    have := bc_more (d := 14 - (s12 1 1).toNat) lt
    rw [show (s12 1 1).toNat + (14 - (s12 1 1).toNat) = 14 by omega] at this
    exact this
  rw [eb]
  have b1 := bc_nn a (s12 1 1).toNat
  have b2 := bc_le a (s12 1 1).toNat
  refine ⟨⟨by omega, by omega⟩, fun z => ⟨fun _ _ _ => rfl, Or.inr ⟨rfl, fun q => z (by have := q.2.2.1; omega)⟩⟩, fun zb => ⟨_, k_Gr_findParts h, ?_⟩⟩
  rintro r20 s19 ⟨f1, f2, f3⟩
  have f2' : LabP (s12 2) (s12 3) (s12 1 0).toNat (s12 1 1).toNat (fun e => a.testBit e = true) (s19 14) := f2.T (fun i hi => bitI_n (by omega) (by omega))
  have q1 := cntL_nn (s19 14) (s12 1 0).toNat
  have q2 : cntL (s19 14) (s12 1 0).toNat ≤ 8 := by
    have := sumN_le (n := (s12 1 0).toNat) (f := fun v => if s19 14 v = (v : Int) then 1 else 0) (g := fun _ => 1) (fun i _ => by split <;> decide)
    rw [sumN_const] at this
    unfold cntL
    omega
  refine ⟨by omega, fun z => ⟨f1, Or.inr ⟨rfl, fun q => z ?_⟩⟩, fun z => ⟨f1, Or.inl ⟨rfl, by omega, fun e he => ?_, by omega, fun X hX hcl v hv => ?_⟩⟩⟩
  · have all := q.2.2.2 (fun v => s19 14 v = s19 14 (s12 1 2).toNat) rfl (fun e he t => by rw [f2'.2.1 e he t])
    have hK := f2'.1 _ h.K
    rw [f3]
    unfold cntL
    rw [sumN_congr (g := fun u => if u = (s19 14 (s12 1 2).toNat).toNat then 1 else 0) (fun u hu => ite_congr (propext (by
      have h1 := all u hu
      have h2 := f2'.1 u hu
      constructor <;> intro q <;> omega)) (fun _ => rfl) (fun _ => rfl)), sumN_one 1 (by omega)]
  · apply Classical.byContradiction
    intro c2
    rw [Nat.testBit_lt_two_pow (Nat.lt_of_lt_of_le lt (Nat.pow_le_pow_right (by decide) (by omega)))] at he
    cases he
  · exact (f2'.2.2 X hcl _ v h.K hv (cntL_one f2' (by omega) h.K hv)).mp hX
