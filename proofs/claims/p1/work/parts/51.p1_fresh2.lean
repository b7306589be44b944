/-! the fresh objects, run: what is left -/
def tb (c : Option (Int × Tb)) : Tb := match c with
  | some p => p.2
  | none => []
theorem upB_eq {β : Type} {t : Tb} {k i : Nat} {x : Int} {f : Tb → Option β} (hk : k < t.length) (hi : i < (t.getD k []).length) : upB t k i x f = f (t.set k ((t.getD k []).set i x)) := if_pos ⟨hk, hi⟩
theorem both_lit {v w : Int} {t t' : Tb} (h : v = w) : both (some (v, t)) (some (w, t')) = true := decide_eq_true h
def ans (c : Option (Int × Tb)) : Option Int := match c with
  | none => none
  | some p => some p.1
theorem both_ans {c : Option (Int × Tb)} {v : Int} {t : Tb} (h : ans c = some v) : both c (some (v, t)) = true := by
  cases c with
  | none => cases h
  | some p => exact decide_eq_true (Option.some.inj h)
theorem nn0 : ¬ ¬ (0 : Int) = 0 := fun q => q rfl
theorem cCon : x_Gr_isConnected 200 tC = some (1, tb (x_Gr_isConnected 200 tC)) := by decide +kernel
theorem mCon : x_Mo_isConnected 200 tM = some (1, tb (x_Mo_isConnected 200 tM)) := by decide +kernel
def tMl : Tb := tb (x_Mo_countLevels 200 (tb (x_Mo_isConnected 200 tM)))
theorem mLev : x_Mo_countLevels 200 (tb (x_Mo_isConnected 200 tM)) = some (0, tMl) := by decide +kernel
theorem mLev17 : tMl.getD 17 [] = 1 :: List.replicate 63 0 := by decide +kernel
theorem mL (a : Int) (h : R3 a) (h0 : 0 ≤ a) : x_Mo_levelCount 200 a tM = some (if a = 0 then 1 else 0, tMl) := by
  have e2 : tof (tb (x_Mo_isConnected 200 tM)) 0 21 = 0 := by decide +kernel
  unfold x_Mo_levelCount xb_Mo_levelCount_e
  rw [if_pos h, if_pos h0, mCon, bnd_some, if_pos r3_1, if_pos n10, e2, if_pos r3_0, if_neg nn0, mLev, bnd_some]
  unfold xj_Mo_levelCount_e_J12
  rw [if_pos h]
  by_cases c : 64 ≤ a
  · rw [if_pos c, if_neg (by omega)]
  · rw [if_neg c, if_pos (by omega)]
    have e : tof tMl 17 a.toNat = if a = 0 then 1 else 0 := by
      unfold tof
      rw [mLev17]
      by_cases c0 : a = 0
      · subst c0; rfl
      · rw [if_neg c0]
        obtain ⟨n, hn⟩ : ∃ n, a.toNat = n + 1 := ⟨a.toNat - 1, by omega⟩
        rw [hn, List.getD_cons_succ, List.getD_eq_getElem?_getD, List.getElem?_replicate]
        split <;> rfl
    rw [e]
theorem cL0 : ans (x_Cg_levelCount 200 0 tC) = some 1 := by decide +kernel
theorem cL1 : ans (x_Cg_levelCount 200 1 tC) = some 0 := by decide +kernel
theorem cL2 : ans (x_Cg_levelCount 200 2 tC) = some 0 := by decide +kernel
theorem cL3 : ans (x_Cg_levelCount 200 3 tC) = some 0 := by decide +kernel
theorem cL4 : ans (x_Cg_levelCount 200 4 tC) = some 0 := by decide +kernel
theorem cL5 : ans (x_Cg_levelCount 200 5 tC) = some 0 := by decide +kernel
theorem cL6 : ans (x_Cg_levelCount 200 6 tC) = some 0 := by decide +kernel
theorem cL7 : ans (x_Cg_levelCount 200 7 tC) = some 0 := by decide +kernel
theorem cL8 : ans (x_Cg_levelCount 200 8 tC) = some 0 := by decide +kernel
theorem cL9 : ans (x_Cg_levelCount 200 9 tC) = some 0 := by decide +kernel
theorem cL10 : ans (x_Cg_levelCount 200 10 tC) = some 0 := by decide +kernel
theorem cL11 : ans (x_Cg_levelCount 200 11 tC) = some 0 := by decide +kernel
theorem cL12 : ans (x_Cg_levelCount 200 12 tC) = some 0 := by decide +kernel
theorem cL13 : ans (x_Cg_levelCount 200 13 tC) = some 0 := by decide +kernel
theorem cL14 : ans (x_Cg_levelCount 200 14 tC) = some 0 := by decide +kernel
theorem cL15 : ans (x_Cg_levelCount 200 15 tC) = some 0 := by decide +kernel
theorem cL16 : ans (x_Cg_levelCount 200 16 tC) = some 0 := by decide +kernel
theorem cL17 : ans (x_Cg_levelCount 200 17 tC) = some 0 := by decide +kernel
theorem cL18 : ans (x_Cg_levelCount 200 18 tC) = some 0 := by decide +kernel
theorem cL19 : ans (x_Cg_levelCount 200 19 tC) = some 0 := by decide +kernel
theorem cL20 : ans (x_Cg_levelCount 200 20 tC) = some 0 := by decide +kernel
theorem t_levelCount (a : Int) (h : R3 a) : both (x_Cg_levelCount 200 a tC) (x_Mo_levelCount 200 a tM) = true := by
  by_cases c0 : a < 0
  · unfold x_Cg_levelCount xb_Cg_levelCount_e x_Mo_levelCount xb_Mo_levelCount_e
    rw [if_pos h, if_neg (by omega), if_pos h, if_neg (by omega)]
    exact both_eq
  · rw [mL a h (by omega)]
    by_cases c1 : a < 21
    · rcases (show a = 0 ∨ a = 1 ∨ a = 2 ∨ a = 3 ∨ a = 4 ∨ a = 5 ∨ a = 6 ∨ a = 7 ∨ a = 8 ∨ a = 9 ∨ a = 10 ∨ a = 11 ∨ a = 12 ∨ a = 13 ∨ a = 14 ∨ a = 15 ∨ a = 16 ∨ a = 17 ∨ a = 18 ∨ a = 19 ∨ a = 20 by omega) with rfl | rfl | rfl | rfl | rfl | rfl | rfl | rfl | rfl | rfl | rfl | rfl | rfl | rfl | rfl | rfl | rfl | rfl | rfl | rfl | rfl
      · exact both_ans cL0
      · exact both_ans cL1
      · exact both_ans cL2
      · exact both_ans cL3
      · exact both_ans cL4
      · exact both_ans cL5
      · exact both_ans cL6
      · exact both_ans cL7
      · exact both_ans cL8
      · exact both_ans cL9
      · exact both_ans cL10
      · exact both_ans cL11
      · exact both_ans cL12
      · exact both_ans cL13
      · exact both_ans cL14
      · exact both_ans cL15
      · exact both_ans cL16
      · exact both_ans cL17
      · exact both_ans cL18
      · exact both_ans cL19
      · exact both_ans cL20
    · have e1 : ∀ t, x_Le_countAt 200 a t = some (0, t) := fun t => by
        unfold x_Le_countAt xb_Le_countAt_e
        rw [if_pos h, if_neg (by omega), if_pos h, if_neg (by omega)]
      unfold x_Cg_levelCount xb_Cg_levelCount_e
      rw [if_pos h, if_pos (by omega), cCon, bnd_some, if_pos r3_1, if_pos n10, e1, bnd_some, if_neg (show ¬ a = 0 by omega)]
      exact both_eq
theorem xm_treeAt_21 (n : Nat) (a b c : Int) (t : Tb) : xm_Mo_treeAt 100 (n + 1) 21 [a, b, c] [] t = xb_Mo_treeAt_21 100 (xm_Mo_treeAt 100 n) a b c t := if_pos rfl
theorem xm_factor_24 (n : Nat) (a b c : Int) (t : Tb) : xm_Mo_factor 100 (n + 1) 24 [a, b, c] [] t = xb_Mo_factor_24 100 (xm_Mo_factor 100 n) a b c t := if_pos rfl
theorem t_treeAt (a : Int) (h : R3 a) : both (x_Cg_treeAt 100 a tC) (x_Mo_treeAt 100 a tM) = true := by
  by_cases c0 : a < 0
  · unfold x_Cg_treeAt xb_Cg_treeAt_e x_Mo_treeAt xb_Mo_treeAt_e
    rw [if_pos h, if_neg (by omega), if_pos h, if_neg (by omega)]
    exact both_eq
  · by_cases c1 : a = 0
    · subst c1; decide +kernel
    · have e1 : x_Tr_count 100 0 0 tC = some (1, tb (x_Tr_count 100 0 0 tC)) := by decide +kernel
      have e2 : x_Mo_isTree 100 1 tM = some (1, tM) := by decide +kernel
      unfold x_Cg_treeAt xb_Cg_treeAt_e x_Mo_treeAt xb_Mo_treeAt_e
      rw [if_pos h, if_pos (by omega), if_pos h, e1, bnd_some, if_pos ⟨⟨by omega, by omega⟩, by decide, by decide⟩, if_neg (by omega), if_pos h, if_pos (by omega), m00]
      rw [show (ishl 1 (2 - 1)) - 1 = 1 by decide +kernel]
      rw [(xm_treeAt_21 99 a 1 0 tM : xm_Mo_treeAt 100 100 21 [a, 1, 0] [] tM = _)]
      unfold xb_Mo_treeAt_21
      rw [m01, show ishl 1 1 = 2 by decide +kernel, if_pos ⟨r3_1, by decide, by decide⟩, if_neg (by decide), e2, bnd_some, if_pos r3_1, if_neg n10, if_pos ⟨r3_0, h⟩, if_pos (by omega)]
      unfold xj_Mo_treeAt_21_J12
      rw [show iand 1 (-1) = 1 by decide +kernel, show (1 : Int) + 1 = 2 from rfl, show ixor 1 2 = 3 by decide +kernel, if_pos (by decide), show ior 2 (ishr (Int.tdiv 3 1) 2) = 2 by decide +kernel]
      rw [(xm_treeAt_21 98 a 2 (0 + 1) tM : xm_Mo_treeAt 100 99 21 [a, 2, 0 + 1] [] tM = _)]
      unfold xb_Mo_treeAt_21
      rw [m01, show ishl 1 1 = 2 by decide +kernel, if_pos (by decide), if_pos (by decide)]
      exact both_eq
theorem t_factor (a : Int) (h : R3 a) : both (x_Cg_factor 100 a tC) (x_Mo_factor 100 a tM) = true := by
  by_cases c0 : a < -1
  · unfold x_Cg_factor xb_Cg_factor_e x_Mo_factor xb_Mo_factor_e
    rw [if_pos h, if_pos c0, if_pos h, if_pos c0]
    exact both_eq
  · by_cases c1 : a = -1
    · subst c1; decide +kernel
    · have d1 : x_Gr_isConnected 100 tC = some (1, tb (x_Gr_isConnected 100 tC)) := by decide +kernel
      have d2 : x_Mo_isConnected 100 tM = some (1, tb (x_Mo_isConnected 100 tM)) := by decide +kernel
      have e1 : x_Ma_findFactors 100 (tb (x_Gr_isConnected 100 tC)) = some (0, tb (x_Ma_findFactors 100 (tb (x_Gr_isConnected 100 tC)))) := by decide +kernel
      have e2 : tof (tb (x_Ma_findFactors 100 (tb (x_Gr_isConnected 100 tC)))) 42 1 = 0 := by decide +kernel
      have e3 : x_Mo_smith 100 (tb (x_Mo_isConnected 100 tM)) = some (0, tb (x_Mo_smith 100 (tb (x_Mo_isConnected 100 tM)))) := by decide +kernel
      have e4 : tof (tb (x_Mo_smith 100 (tb (x_Mo_isConnected 100 tM)))) 0 0 = 2 := by decide +kernel
      have e5 : x_Mo_size 100 (tof (tb (x_Mo_smith 100 (tb (x_Mo_isConnected 100 tM)))) 16 (Int.toNat (8 * 0))) (tb (x_Mo_smith 100 (tb (x_Mo_isConnected 100 tM)))) = some (1, tb (x_Mo_smith 100 (tb (x_Mo_isConnected 100 tM)))) := by decide +kernel
      unfold x_Cg_factor xb_Cg_factor_e x_Mo_factor xb_Mo_factor_e
      rw [if_pos h, if_neg c0, d1, bnd_some, if_pos r3_1, if_pos n10, e1, bnd_some, if_pos h, if_pos c1, e2, if_pos ⟨h, r3_0⟩, if_pos (by omega)]
      rw [if_pos h, if_neg c0, d2, bnd_some, if_pos r3_1, if_pos n10, e3, bnd_some]
      generalize tb (x_Mo_smith 100 (tb (x_Mo_isConnected 100 tM))) = u at e4 e5 ⊢
      rw [(xm_factor_24 99 a 0 0 u : xm_Mo_factor 100 100 24 [a, 0, 0] [] u = _)]
      unfold xb_Mo_factor_24
      rw [e4, if_pos ⟨r3_0, by decide, by decide⟩, if_neg (by decide), if_pos (by decide), e5, bnd_some, if_pos (by decide), if_pos (by decide)]
      rw [(xm_factor_24 98 a 0 (0 + 1) u : xm_Mo_factor 100 99 24 [a, 0, 0 + 1] [] u = _)]
      unfold xb_Mo_factor_24
      rw [e4, if_pos (by decide), if_pos (by decide), if_pos h, if_pos (by omega)]
      exact both_eq
theorem t_setChips (a b : Int) (h : R3 a) (hb : R3 b) : both (x_Cg_setChips 100 a b tC) (x_Mo_setChips 100 a b tM) = true := by
  by_cases c : a = 1
  · subst c
    have e1 : x_Gr_hasChipsAt 100 1 tC = some (1, tC) := by decide +kernel
    have e2 : x_Mo_hasChips 100 1 tM = some (1, tM) := by decide +kernel
    unfold x_Cg_setChips xb_Cg_setChips_e x_Mo_setChips xb_Mo_setChips_e
    rw [e1, bnd_some, if_pos r3_1, if_pos n10, if_pos hb, e2, bnd_some, if_pos r3_1, if_pos n10]
    by_cases c2 : b < 0 ∨ 1000 < b
    · rw [gM_in hb (by decide) (by decide) c2, bnd_some, if_pos r3_0, if_neg nn0]
      by_cases c3 : b < 0
      · rw [if_pos c3]; exact both_eq
      · rw [if_neg c3, if_pos hb, if_neg (by omega)]; exact both_eq
    · have e3 : x_Hi_record 100 187 tC = some (0, tb (x_Hi_record 100 187 tC)) := by decide +kernel
      have e4 : x_Mo_keepState 100 tM = some (0, tb (x_Mo_keepState 100 tM)) := by decide +kernel
      rw [gM_in1 hb (by decide) (by decide) (by omega), bnd_some, if_pos r3_1, if_pos n10, e4, bnd_some]
      rw [if_neg (by omega), if_pos hb, if_pos (by omega), e3, bnd_some]
      rw [if_pos (by decide), if_pos (by decide), upB_eq (by decide +kernel) (by decide +kernel), if_pos (by decide), if_pos (by decide), upB_eq (by decide +kernel) (by decide +kernel)]
      exact both_lit (by decide +kernel)
  · unfold x_Cg_setChips xb_Cg_setChips_e x_Mo_setChips xb_Mo_setChips_e
    rw [gC_chips h (by omega), gM_chips h (by omega)]
    exact both_eq
theorem and_not1 (x : Nat) (hx : x < 4294967296) (h : x &&& 4294967294 = 0) : x < 2 := by
  have h1 : (x &&& 4294967294) / 2 = x / 2 &&& 4294967294 / 2 := Nat.and_div_two
  rw [h, show 4294967294 / 2 = 2 ^ 31 - 1 from rfl, Nat.and_two_pow_sub_one_eq_mod] at h1
  omega
theorem iand_ev (a : Int) (h : 2 ≤ a ∧ a < 2147483648) : ¬ iand a (-2) = 0 := by
  intro e
  unfold iand at e
  have e1 : (Int32.ofInt a &&& Int32.ofInt (-2)) = 0 := Int32.toInt.inj e
  have e2 : (Int32.ofInt a).toBitVec &&& (Int32.ofInt (-2)).toBitVec = 0#32 := by
    rw [← Int32.toBitVec_and, e1]; rfl
  have e3 := congrArg BitVec.toNat e2
  rw [BitVec.toNat_and] at e3
  have e4 : (Int32.ofInt a).toBitVec.toNat = a.toNat := by
    rw [Int32.toBitVec_ofInt, BitVec.toNat_ofInt]
    omega
  rw [e4] at e3
  have := and_not1 a.toNat (by omega) e3
  omega
theorem iand_rg (a b : Int) : -2147483648 ≤ iand a b ∧ iand a b < 2147483648 := by
  unfold iand
  exact ⟨Int32.le_toInt _, Int32.toInt_lt _⟩
theorem t_takeTree (a : Int) (h : R3 a) : both (x_Cg_takeTree 100 a tC) (x_Mo_takeTree 100 a tM) = true := by
  by_cases c0 : a < 0
  · have e1 : x_Gr_isSpanningTree 100 a tC = some (0, tC) := by
      unfold x_Gr_isSpanningTree xb_Gr_isSpanningTree_e
      rw [if_pos h, if_pos c0]
    have e2 : x_Mo_isTree 100 a tM = some (0, tM) := by
      unfold x_Mo_isTree xb_Mo_isTree_e
      rw [if_pos h, if_pos c0]
    unfold x_Cg_takeTree xb_Cg_takeTree_e x_Mo_takeTree xb_Mo_takeTree_e
    rw [e1, e2]
    exact both_eq
  · by_cases c1 : a < 2
    · rcases (show a = 0 ∨ a = 1 by omega) with rfl | rfl <;> decide +kernel
    · have e0 : x_Gr_allEdges 100 tC = some (1, tC) := by decide +kernel
      have e1 : x_Gr_isSpanningTree 100 a tC = some (0, tC) := by
        unfold x_Gr_isSpanningTree xb_Gr_isSpanningTree_e
        rw [if_pos h, if_neg c0, e0, bnd_some, if_pos (iand_rg _ _), show ixor 1 (-1) = -2 by decide +kernel, if_pos (iand_ev a (by omega))]
      have e2 : x_Mo_isTree 100 a tM = some (0, tM) := by
        unfold x_Mo_isTree xb_Mo_isTree_e
        rw [if_pos h, if_neg c0, m01, show ishl 1 1 = 2 by decide +kernel, if_pos ⟨h, by decide, by decide⟩, if_pos (by omega)]
      unfold x_Cg_takeTree xb_Cg_takeTree_e x_Mo_takeTree xb_Mo_takeTree_e
      rw [e1, e2]
      exact both_eq
theorem set_ne_getD {t : Tb} {k j : Nat} {x : List Int} (h : k ≠ j) : (t.set k x).getD j [] = t.getD j [] := by
  simp only [List.getD_eq_getElem?_getD]
  rw [List.getElem?_set_ne h]
theorem t_type (a : Int) (h : 0 ≤ a ∧ a < 65536) : both (x_Cg_type 100 a tC) (x_Mo_type 100 a tM) = true := by
  have c1 : tof tC 15 0 = 0 := by decide +kernel
  have c2 : tof tM 0 8 = 0 := by decide +kernel
  have k1 : 16 < tC.length ∧ Int.toNat 0 < (tC.getD 16 []).length := by decide +kernel
  have k2 : 6 < tM.length ∧ Int.toNat 0 < (tM.getD 6 []).length := by decide +kernel
  have k3 : 15 < tC.length ∧ 0 < (tC.getD 15 []).length := by decide +kernel
  have k4 : 0 < tM.length ∧ 8 < (tM.getD 0 []).length := by decide +kernel
  have hC : ∃ T, x_Cg_type 100 a tC = some (1, T) := by
    have hA : ∃ T, x_Tx_append 100 a tC = some (0, T) ∧ tof T 15 0 = 1 := by
      unfold x_Tx_append xb_Tx_append_e
      rw [c1, if_pos r3_0, if_neg (show ¬ (0 : Int) < 0 by decide), if_pos r3_0, if_neg (show ¬ (12 : Int) ≤ 0 by decide), if_pos (show (0 : Int) ≤ 0 ∧ (0 : Int) < 12 by decide), if_pos h, upB_eq k1.1 k1.2]
      generalize hu : tC.set 16 ((tC.getD 16 []).set (Int.toNat 0) a) = u
      have g1 : tof u 15 0 = 0 := by rw [← hu, tof_set k1.1 k1.2, up_k (by decide), c1]
      have g2 : 15 < u.length ∧ 0 < (u.getD 15 []).length := by
        rw [← hu]
        exact ⟨by rw [List.length_set]; exact k3.1, by rw [set_ne_getD (by decide)]; exact k3.2⟩
      rw [upB_eq g2.1 g2.2]
      exact ⟨_, rfl, by rw [tof_set g2.1 g2.2, up_eq, g1]; rfl⟩
    obtain ⟨T, hT, hv⟩ := hA
    unfold x_Cg_type xb_Cg_type_e
    rw [c1, if_pos r3_0, if_pos (show (0 : Int) < 12 by decide), hT, bnd_some, hv]
    exact ⟨T, rfl⟩
  have hM : ∃ T, x_Mo_type 100 a tM = some (1, T) := by
    unfold x_Mo_type xb_Mo_type_e
    rw [c2, if_pos r3_0, if_pos (show ¬ (0 : Int) = 12 by decide), if_pos (show (0 : Int) ≤ 0 ∧ (0 : Int) < 12 by decide), if_pos h, upB_eq k2.1 k2.2]
    generalize hu : tM.set 6 ((tM.getD 6 []).set (Int.toNat 0) a) = u
    have g1 : tof u 0 8 = 0 := by rw [← hu, tof_set k2.1 k2.2, up_k (by decide), c2]
    have g2 : 0 < u.length ∧ 8 < (u.getD 0 []).length := by
      rw [← hu]
      exact ⟨by rw [List.length_set]; exact k4.1, by rw [set_ne_getD (by decide)]; exact k4.2⟩
    rw [upB_eq g2.1 g2.2, tof_set g2.1 g2.2, up_eq, g1]
    exact ⟨_, rfl⟩
  obtain ⟨T, hT⟩ := hC
  obtain ⟨U, hU⟩ := hM
  rw [hT, hU]
  exact both_eq
