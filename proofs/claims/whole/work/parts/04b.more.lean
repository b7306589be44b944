/-! CORE 4: ends by type, switches, a few more rows -/
abbrev fI (Q : Int → Sto → Prop) : Option Value → Sto → Prop := fun r s' => ∃ x, r = some (iV x) ∧ Q x s'
abbrev fJ (Q : Int → Sto → Prop) : Option Value → Sto → Prop := fun r s' => ∃ x, r = some (jV x) ∧ Q x s'
abbrev fR (Q : Nat → Sto → Prop) : Option Value → Sto → Prop := fun r s' => ∃ k, r = some (.ref k) ∧ Q k s'
abbrev fV0 (Q : Sto → Prop) : Option Value → Sto → Prop := fun r s' => r = none ∧ Q s'
theorem nar_zv {x : Int} (h : x = 0 ∨ x = 1) : narrow .boolean (iV x) = iV x := by rcases h with rfl | rfl <;> rfl
theorem nar_z {x : Int} (h : x = 0 ∨ x = 1) : vp_nar .boolean (Int32.ofInt x) = Int32.ofInt x := by rcases h with rfl | rfl <;> rfl
theorem nar_c {x : Int} (h : 0 ≤ x ∧ x < 65536) : vp_nar .char (Int32.ofInt x) = Int32.ofInt x := by
  obtain ⟨n, rfl⟩ : ∃ n : Nat, x = n := ⟨x.toNat, by omega⟩
  have e : Int32.ofInt (n : Int) = nI n := by rw [Int32.ofInt_eq_ofNat]; rfl
  rw [e]
  have := (pk_charN (q := n) (by omega)).1
  unfold vp_nar
  rw [this]
def iushr (x y : Int) : Int := ((Int32.ofInt x).toUInt32 >>> ((Int32.ofInt y).toUInt32 &&& Int32.toUInt32 31)).toInt32.toInt
def lxor (x y : Int) : Int := (Int64.ofInt x ^^^ Int64.ofInt y).toInt
section C4
variable {S : Shp} {M : Mth} {F : Option Value → Sto → Prop} {pc npc : Nat} {l : List (Nat × Value)} {st : List Value} {s : Sto}
theorem g_iushr {x y : Int} (hd : decode M.1 pc = .ok (.iushr, 1)) (hn : pc + 1 = npc) (k : Go S M F npc l (iV (iushr x y) :: st) s) : Go S M F pc l (iV y :: iV x :: st) s := by
  subst hn
  intro p lc e u m args below meth c D cA ad H locs ls X hP hS hl
  exact lv_iushr X.1 X.2.1 hd (i32_inv _).symm (k p lc e u m args below meth c D cA ad H locs ls X hP hS hl)
theorem g_lxor {x y : Int} (hd : decode M.1 pc = .ok (.lxor, 1)) (hn : pc + 1 = npc) (k : Go S M F npc l (jV (lxor x y) :: st) s) : Go S M F pc l (jV y :: jV x :: st) s := by
  subst hn
  intro p lc e u m args below meth c D cA ad H locs ls X hP hS hl
  refine lv_lxor X.1 X.2.1 hd ?_
  rw [← Int64.ofInt_toInt (Int64.ofInt x ^^^ Int64.ofInt y)]
  exact k p lc e u m args below meth c D cA ad H locs ls X hP hS hl
theorem g_ldcw {index : Nat} {x : Int} (hd : decode M.1 pc = .ok (.ldc_w index, 3)) (hn : pc + 3 = npc) (hc : Cond.constant M.2.1 index (Int32.ofInt x) ∈ TW) (k : Go S M F npc l (iV x :: st) s) : Go S M F pc l st s := by
  subst hn
  intro p lc e u m args below meth c D cA ad H locs ls X hP hS hl
  exact lv_ldcw X.1 X.2.1 X.2.2.2.2.1 (X.2.2.2.2.2.1 _ hc) hd (k p lc e u m args below meth c D cA ad H locs ls X hP hS hl)
theorem g_tabIn {x dflt lo hi off : Int} {offs : Array Int} {len j tgt : Nat} (hd : decode M.1 pc = .ok (.tableswitch dflt lo hi offs, len)) (hr : -2147483648 ≤ x ∧ x < 2147483648) (h : x = lo + j) (hle : lo + j ≤ hi) (ho : offs[j]? = some off) (ht : (pc : Int) + off = (tgt : Int)) (k : Go S M F tgt l st s) : Go S M F pc l (iV x :: st) s := by
  intro p lc e u m args below meth c D cA ad H locs ls X hP hS hl
  have ex := ofInt_toInt32 hr
  exact lv_tableIn X.1 X.2.1 hd (by rw [ex]; omega) (by rw [ex]; omega) (by rw [ex, h, show lo + (j : Int) - lo = (j : Int) by omega]; exact ho) ht (k p lc e u m args below meth c D cA ad H locs ls X hP hS hl)
theorem g_tabOut {x dflt lo hi : Int} {offs : Array Int} {len tgt : Nat} (hd : decode M.1 pc = .ok (.tableswitch dflt lo hi offs, len)) (hr : -2147483648 ≤ x ∧ x < 2147483648) (h : x < lo ∨ hi < x) (ht : (pc : Int) + dflt = (tgt : Int)) (k : Go S M F tgt l st s) : Go S M F pc l (iV x :: st) s := by
  intro p lc e u m args below meth c D cA ad H locs ls X hP hS hl
  have ex := ofInt_toInt32 hr
  exact lv_tableOut X.1 X.2.1 hd (by rw [ex]; exact h) ht (k p lc e u m args below meth c D cA ad H locs ls X hP hS hl)
end C4
