/-! bits of numbers that are not negative -/
theorem ofInt_nI (a : Nat) : Int32.ofInt (a : Int) = nI a := by rw [Int32.ofInt_eq_ofNat]; rfl
theorem nIT {a : Nat} (h : a < 2147483648) : (nI a).toInt = a := by
  rw [← ofInt_nI]
  exact ofInt_toInt32 (by omega)
theorem nx_and (a b : Nat) : nI a &&& nI b = nI (a &&& b) := by
  apply Int32.toBitVec_inj.mp
  rw [Int32.toBitVec_and]
  show BitVec.ofNat 32 a &&& BitVec.ofNat 32 b = BitVec.ofNat 32 (a &&& b)
  rw [BitVec.ofNat_and]
theorem nx_or (a b : Nat) : nI a ||| nI b = nI (a ||| b) := by
  apply Int32.toBitVec_inj.mp
  rw [Int32.toBitVec_or]
  show BitVec.ofNat 32 a ||| BitVec.ofNat 32 b = BitVec.ofNat 32 (a ||| b)
  rw [BitVec.ofNat_or]
theorem iand_n {a b : Nat} (ha : a < 2147483648) : iand a b = ((a &&& b : Nat) : Int) := by
  unfold iand
  rw [ofInt_nI, ofInt_nI, nx_and, nIT (Nat.lt_of_le_of_lt Nat.and_le_left ha)]
theorem iand_nr {a b : Nat} (hb : b < 2147483648) : iand a b = ((a &&& b : Nat) : Int) := by
  unfold iand
  rw [ofInt_nI, ofInt_nI, nx_and, nIT (Nat.lt_of_le_of_lt Nat.and_le_right hb)]
theorem ior_n {a b : Nat} (ha : a < 2147483648) (hb : b < 2147483648) : ior a b = ((a ||| b : Nat) : Int) := by
  unfold ior
  rw [ofInt_nI, ofInt_nI, nx_or, nIT (Nat.or_lt_two_pow (n := 31) ha hb)]
theorem s_l : ∀ n, n < 32 → ((nI n &&& 31).toBitVec.smod 32).toNat = n := by decide +kernel
theorem ishr_n {a k : Nat} (ha : a < 2147483648) (hk : k < 32) : ishr a k = ((a >>> k : Nat) : Int) := by
  unfold ishr
  rw [ofInt_nI, ofInt_nI]
  show (nI a >>> (nI k &&& 31)).toBitVec.toInt = _
  rw [Int32.toBitVec_shiftRight]
  show ((nI a).toBitVec.sshiftRight ((nI k &&& 31).toBitVec.smod 32).toNat).toInt = _
  rw [s_l k hk, BitVec.toInt_sshiftRight]
  show (nI a).toInt >>> k = _
  rw [nIT ha]
  rfl
theorem ishl_one : ∀ k, k < 31 → ishl 1 (k : Nat) = ((2 ^ k : Nat) : Int) := by decide +kernel
theorem bit_n {a e : Nat} (ha : a < 2147483648) (he : e < 32) : iand (ishr a e) 1 = if a.testBit e then 1 else 0 := by
  rw [ishr_n ha he]
  have h := iand_nr (a := a >>> e) (b := 1) (by decide)
  have h1 : iand ((a >>> e : Nat) : Int) 1 = iand ((a >>> e : Nat) : Int) ((1 : Nat) : Int) := rfl
  rw [h1, h, Nat.and_one_is_mod]
  have h2 : a.testBit e = decide ((a >>> e) % 2 = 1) := by
    rw [Nat.testBit_eq_decide_div_mod_eq, Nat.shiftRight_eq_div_pow]
  rw [h2]
  by_cases c : (a >>> e) % 2 = 1
  · rw [c]; rfl
  · rw [show (a >>> e) % 2 = 0 by omega]; rfl
theorem bitI_n {a e : Nat} (ha : a < 2147483648) (he : e < 32) : bitI a e ↔ a.testBit e = true := by
  unfold bitI
  rw [bit_n ha he]
  cases a.testBit e <;> simp
theorem bit_all {M e : Nat} (h : e < M) : (2 ^ M - 1).testBit e = true := by
  rw [Nat.testBit_two_pow_sub_one]
  simpa using h
theorem ixor_m1 (x : Int) (h : R32 x) : ixor x (-1) = -1 - x := by
  unfold ixor
  have e : Int32.ofInt (-1) = -1 := rfl
  rw [e]
  have h2 : Int32.ofInt x ^^^ -1 = ~~~ (Int32.ofInt x) := by
    apply Int32.toBitVec_inj.mp
    rw [Int32.toBitVec_xor, Int32.toBitVec_not]
    show (Int32.ofInt x).toBitVec ^^^ BitVec.allOnes 32 = _
    rw [BitVec.xor_allOnes]
  rw [h2, Int32.toInt_not, ofInt_toInt32 h]
  unfold R32 at h
  rw [Int.bmod_eq_of_le] <;> omega
theorem k_Gr_allEdges {s : Sto} (h : WG s) : K_Gr_allEdges s (fun r s' => s' = s ∧ r = ((2 ^ (s 1 1).toNat - 1 : Nat) : Int)) := by
  refine e_Gr_allEdges ⟨rfl, ?_⟩
  have hm := h.2.1
  have e : s 1 1 = (((s 1 1).toNat : Nat) : Int) := by omega
  have h1 := ishl_one (s 1 1).toNat (by omega)
  rw [← e] at h1
  rw [h1]
  have := Nat.one_le_two_pow (n := (s 1 1).toNat)
  omega
theorem pow_lt31 {m : Nat} (h : m ≤ 20) : 2 ^ m - 1 < 2147483648 := by
  have : 2 ^ m ≤ 2 ^ 20 := Nat.pow_le_pow_right (by decide) h
  have : (2 : Nat) ^ 20 = 1048576 := by decide
  omega
/-- the graph is in one part -/
def Conn (s : Sto) : Prop := ∃ L : Nat → Int, LabP (s 2) (s 3) (s 1 0).toNat (s 1 1).toNat (fun _ => True) L ∧ cntL L (s 1 0).toNat = 1
theorem LabP.T {F S : Nat → Int} {N m : Nat} {T T' : Nat → Prop} {L : Nat → Int} (h : LabP F S N m T L) (e : ∀ i, i < m → (T i ↔ T' i)) : LabP F S N m T' L :=
  ⟨h.1, fun i hi t => h.2.1 i hi ((e i hi).mpr t), fun X hX => h.2.2 X (fun i hi t => hX i hi ((e i hi).mp t))⟩
theorem cntL_nn (L : Nat → Int) (N : Nat) : 0 ≤ cntL L N := sumN_nn (fun i _ => by split <;> decide)
theorem cntL_pos {F S : Nat → Int} {N m : Nat} {T : Nat → Prop} {L : Nat → Int} (hN : 0 < N) (h : LabP F S N m T L) : 1 ≤ cntL L N := by
  have h0 := h.1 0 hN
  have h1 := sumN_ge (n := N) (f := fun v => if L v = (v : Int) then 1 else 0) (fun i _ => by split <;> decide) (k := (L 0).toNat) (by omega)
  rw [if_pos (by rw [h0.2]; omega)] at h1
  exact h1
/-- one part: all labels are the same -/
theorem cntL_one {F S : Nat → Int} {N m : Nat} {T : Nat → Prop} {L : Nat → Int} (h : LabP F S N m T L) (h1 : cntL L N = 1) {v w : Nat} (hv : v < N) (hw : w < N) : L v = L w := by
  have a := h.1 v hv
  have b := h.1 w hw
  by_cases c : L v = L w
  · exact c
  · exfalso
    have hne : (L v).toNat ≠ (L w).toNat := by omega
    have e := sumN_up (n := N) (f := fun u => if u = (L w).toNat then (1 : Int) else 0) (g := fun u => (if u = (L w).toNat then (1 : Int) else 0) + if u = (L v).toNat then 1 else 0) (k := (L v).toNat) (by omega) (fun i _ hi => by simp [hi])
    rw [sumN_one 1 (by omega)] at e
    have h2 := sumN_le (n := N) (f := fun u => (if u = (L w).toNat then (1 : Int) else 0) + if u = (L v).toNat then 1 else 0) (g := fun u => if L u = (u : Int) then 1 else 0) (fun u hu => by
      by_cases c1 : u = (L w).toNat
      · rw [if_pos c1, if_neg (by omega), if_pos (by rw [c1, b.2]; omega)]; decide
      · by_cases c2 : u = (L v).toNat
        · rw [if_neg c1, if_pos c2, if_pos (by rw [c2, a.2]; omega)]; decide
        · rw [if_neg c1, if_neg c2]; split <;> decide)
    have h3 : sumN N (fun u => if L u = (u : Int) then 1 else 0) = 1 := h1
    rw [h3, e, if_pos rfl, if_neg hne] at h2
    omega
/-- two labellings by the same edges have as many parts -/
theorem LabP.same {F S : Nat → Int} {N m : Nat} {T : Nat → Prop} {L L' : Nat → Int} (h : LabP F S N m T L) (h' : LabP F S N m T L') {v w : Nat} (hv : v < N) (hw : w < N) (e : L v = L w) : L' v = L' w :=
  ((h.2.2 (fun u => L' u = L' w) (fun i hi t => by rw [h'.2.1 i hi t]) v w hv hw e).mpr rfl)
theorem cntL_one_same {F S : Nat → Int} {N m : Nat} {T : Nat → Prop} {L L' : Nat → Int} (hN : 0 < N) (h : LabP F S N m T L) (h' : LabP F S N m T L') (h1 : cntL L N = 1) : cntL L' N = 1 := by
  have key : ∀ v w, v < N → w < N → L' v = L' w := fun v w hv hw => h.same h' hv hw (cntL_one h h1 hv hw)
  have h0 := h'.1 0 hN
  have e : cntL L' N = sumN N (fun u => if u = (L' 0).toNat then 1 else 0) := sumN_congr (fun u hu => ite_congr (propext (by
    have := h'.1 u hu
    have := key u 0 hu hN
    constructor <;> intro q <;> omega)) (fun _ => rfl) (fun _ => rfl))
  rw [e, sumN_one 1 (by omega)]
theorem k_Gr_isConnected {s : Sto} (h : WG s) : K_Gr_isConnected s (fun r s' => (∀ k i, k ≠ 14 → s' k i = s k i) ∧ (r = 1 ∧ Conn s ∨ r = 0 ∧ ¬ Conn s)) := by
  have hm := h.2.1
  have hn := h.1
  refine e_Gr_isConnected ⟨_, k_Gr_allEdges h, ?_⟩
  rintro r s' ⟨rfl, hr⟩
  refine ⟨_, k_Gr_findParts h, ?_⟩
  rintro r' s1 ⟨a, b, c⟩
  have b' : LabP (s' 2) (s' 3) (s' 1 0).toNat (s' 1 1).toNat (fun _ => True) (s1 14) := b.T (fun i hi => by
    rw [hr]
    exact ⟨fun _ => trivial, fun _ => (bitI_n (pow_lt31 (by omega)) (by omega)).mpr (bit_all hi)⟩)
  have hc1 := cntL_pos (by omega) b'
  have hc2 : cntL (s1 14) (s' 1 0).toNat ≤ 8 := by
    have := sumN_le (n := (s' 1 0).toNat) (f := fun v => if s1 14 v = (v : Int) then 1 else 0) (g := fun _ => 1) (fun i _ => by split <;> decide)
    rw [sumN_const] at this
    unfold cntL
    omega
  refine ⟨by omega, fun q => ⟨a, Or.inr ⟨rfl, fun ⟨L, l1, l2⟩ => q ?_⟩⟩, fun q => ⟨a, Or.inl ⟨rfl, s1 14, b', by rw [← c]; exact q⟩⟩⟩
  rw [c]
  exact cntL_one_same (by omega) l1 b' l2
