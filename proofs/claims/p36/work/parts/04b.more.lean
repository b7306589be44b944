/-! CORE 4: ends by type, switches, a few more rows -/
abbrev fI (Q : Int → Sto → Prop) : Option Value → Sto → Prop := fun r s' => ∃ x, r = some (iV x) ∧ Q x s'
abbrev fJ (Q : Int → Sto → Prop) : Option Value → Sto → Prop := fun r s' => ∃ x, r = some (jV x) ∧ Q x s'
abbrev fR (Q : Nat → Sto → Prop) : Option Value → Sto → Prop := fun r s' => ∃ k, r = some (.ref k) ∧ Q k s'
abbrev fV0 (Q : Sto → Prop) : Option Value → Sto → Prop := fun r s' => r = none ∧ Q s'
theorem nar_zv {x : Int} (h : x = 0 ∨ x = 1) : narrow .boolean (iV x) = iV x := by rcases h with rfl | rfl <;> rfl
theorem nar_z {x : Int} (h : x = 0 ∨ x = 1) : vp_nar .boolean (Int32.ofInt x) = Int32.ofInt x := by rcases h with rfl | rfl <;> rfl
theorem nar_c {x : Int} (h : 0 ≤ x ∧ x < 65536) : vp_nar .char (Int32.ofInt x) = Int32.ofInt x := by
  obtain ⟨n, rfl⟩ : ∃ n : Nat, x = n := ⟨x.toNat, by omega⟩
  have e : Int32.ofInt (n : Int) = nI n := by rw [Int32.ofInt_eq_ofNat]; rfl
  rw [e]
  have := (pk_charN (q := n) (by omega)).1
  unfold vp_nar
  rw [this]
def iushr (x y : Int) : Int := ((Int32.ofInt x).toUInt32 >>> ((Int32.ofInt y).toUInt32 &&& Int32.toUInt32 31)).toInt32.toInt
def lxor (x y : Int) : Int := (Int64.ofInt x ^^^ Int64.ofInt y).toInt
section C4
variable {S : Shp} {cs ss : Nat} {M : Mth} {F : Option Value → Sto → Prop} {pc npc : Nat} {l : List (Nat × Value)} {st : List Value} {s : Sto}
theorem g_iushr {x y : Int} (hd : decode M.1 pc = .ok (.iushr, 1)) (hn : pc + 1 = npc) (k : Go S M F cs ss npc l (iV (iushr x y) :: st) s) : Go S M F cs ss pc l (iV y :: iV x :: st) s := by
  subst hn
  intro p lc e u m args below meth c D cA ad H locs ls A Z X hP hS hl
  exact lv_iushr X.1 X.2.1 hd (i32_inv _).symm (k p lc e u m args below meth c D cA ad H locs ls A Z X hP hS hl)
theorem g_lxor {x y : Int} (hd : decode M.1 pc = .ok (.lxor, 1)) (hn : pc + 1 = npc) (k : Go S M F cs ss npc l (jV (lxor x y) :: st) s) : Go S M F cs ss pc l (jV y :: jV x :: st) s := by
  subst hn
  intro p lc e u m args below meth c D cA ad H locs ls A Z X hP hS hl
  refine lv_lxor X.1 X.2.1 hd ?_
  rw [← Int64.ofInt_toInt (Int64.ofInt x ^^^ Int64.ofInt y)]
  exact k p lc e u m args below meth c D cA ad H locs ls A Z X hP hS hl
theorem g_ldcw {index : Nat} {x : Int} (hd : decode M.1 pc = .ok (.ldc_w index, 3)) (hn : pc + 3 = npc) (hc : Cond.constant M.2.1 index (Int32.ofInt x) ∈ TW) (k : Go S M F cs ss npc l (iV x :: st) s) : Go S M F cs ss pc l st s := by
  subst hn
  intro p lc e u m args below meth c D cA ad H locs ls A Z X hP hS hl
  exact lv_ldcw X.1 X.2.1 X.2.2.2.2.1 (X.2.2.2.2.2.1 _ hc) hd (k p lc e u m args below meth c D cA ad H locs ls A Z X hP hS hl)
theorem g_tabIn {x dflt lo hi off : Int} {offs : Array Int} {len j tgt : Nat} (hd : decode M.1 pc = .ok (.tableswitch dflt lo hi offs, len)) (hr : -2147483648 ≤ x ∧ x < 2147483648) (h : x = lo + j) (hle : lo + j ≤ hi) (ho : offs[j]? = some off) (ht : (pc : Int) + off = (tgt : Int)) (k : Go S M F cs ss tgt l st s) : Go S M F cs ss pc l (iV x :: st) s := by
  intro p lc e u m args below meth c D cA ad H locs ls A Z X hP hS hl
  have ex := ofInt_toInt32 hr
  exact lv_tableIn X.1 X.2.1 hd (by rw [ex]; omega) (by rw [ex]; omega) (by rw [ex, h, show lo + (j : Int) - lo = (j : Int) by omega]; exact ho) ht (k p lc e u m args below meth c D cA ad H locs ls A Z X hP hS hl)
theorem g_tabOut {x dflt lo hi : Int} {offs : Array Int} {len tgt : Nat} (hd : decode M.1 pc = .ok (.tableswitch dflt lo hi offs, len)) (hr : -2147483648 ≤ x ∧ x < 2147483648) (h : x < lo ∨ hi < x) (ht : (pc : Int) + dflt = (tgt : Int)) (k : Go S M F cs ss tgt l st s) : Go S M F cs ss pc l (iV x :: st) s := by
  intro p lc e u m args below meth c D cA ad H locs ls A Z X hP hS hl
  have ex := ofInt_toInt32 hr
  exact lv_tableOut X.1 X.2.1 hd (by rw [ex]; exact h) ht (k p lc e u m args below meth c D cA ad H locs ls A Z X hP hS hl)
end C4
def labs (x : Int) : Int := if 0 < x then x else -x
theorem g_labs {S : Shp} {cs ss : Nat} {M : Mth} {F : Option Value → Sto → Prop} {pc npc idx : Nat} {l : List (Nat × Value)} {st : List Value} {s : Sto} {x : Int} (hd : decode M.1 pc = .ok (.invokestatic idx, 3)) (hn : pc + 3 = npc) (hw : Cond.methodLink M.2.1 idx Lib.MathLoose.abs_long.x ∈ TW ∧ Cond.static Lib.MathLoose.abs_long.x ∈ TW ∧ Cond.initialized "java/lang/Math" ∈ TW ∧ Cond.code Lib.MathLoose.abs_long.x Lib.MathLoose.abs_long.code 2 (some .long) ∈ TW) (hR : 1 ≤ M.2.2.2.2.frames ∧ (st.map fun v => v.category).sum + 13 ≤ M.2.2.2.2.locals) (hC : cs ≤ M.2.2.2.2.cells ∧ ss ≤ M.2.2.2.2.slots) (hr : -9223372036854775808 ≤ x ∧ x < 9223372036854775808)
    (k : Go S M F cs ss npc l (jV (labs x) :: st) s) : Go S M F cs ss pc l (jV x :: st) s := by
  subst hn
  intro p lc e u m args below meth c D cA ad H locs ls A Z X hP hS hl
  obtain ⟨w1, w2, w3, w4⟩ := hw
  refine va_mabs_long X.1 X.2.1 (X.2.2.2.1.trans hl.1.symm) X.2.2.2.2.1 (X.2.2.2.2.2.1 _ w1) (X.2.2.2.2.2.1 _ w2) (X.2.2.2.2.2.1 _ w3) (X.2.2.2.2.2.1 _ w4) hR.1 (by show ((ts ad st).map fun v => v.category).sum + 13 ≤ _; rw [ts_cat]; exact hR.2) hC.1 hC.2 hd ?_
  have e0 : (0 < Int64.ofInt x) ↔ 0 < x := i64_lt (x := 0) ⟨⟨by decide, by decide⟩, hr⟩
  have e1 : (if 0 < Int64.ofInt x then Int64.ofInt x else -Int64.ofInt x) = Int64.ofInt (labs x) := by
    unfold labs
    by_cases h : 0 < x
    · rw [if_pos (e0.mpr h), if_pos h]
    · rw [if_neg (fun q => h (e0.mp q)), if_neg h, i64_neg]
  rw [e1]
  exact k p lc e u m args below meth c D cA ad H locs ls A Z X hP hS hl
