/-! CORE 1: stores of whole numbers, values, the world of cells that a store stands for -/
abbrev Sto : Type := Nat → Nat → Int
def up (s : Sto) (k i : Nat) (x : Int) : Sto := fun k' i' => if k' = k ∧ i' = i then x else s k' i'
theorem up_eq (s : Sto) (k i : Nat) (x : Int) : up s k i x k i = x := by simp [up]
theorem up_ne {s : Sto} {k i : Nat} {x : Int} {k' i' : Nat} (h : ¬ (k' = k ∧ i' = i)) : up s k i x k' i' = s k' i' := if_neg h
theorem up_k {s : Sto} {k i : Nat} {x : Int} {k' i' : Nat} (h : k' ≠ k) : up s k i x k' i' = s k' i' := up_ne (fun q => h q.1)
theorem up_i {s : Sto} {k i : Nat} {x : Int} {k' i' : Nat} (h : i' ≠ i) : up s k i x k' i' = s k' i' := up_ne (fun q => h q.2)
def iV (x : Int) : Value := .int (Int32.ofInt x)
def jV (x : Int) : Value := .long (Int64.ofInt x)
def tv (ad : Nat → Nat) (v : Value) : Value := match v with
  | .ref k => .ref (ad k)
  | v => v
theorem tv_cat (ad : Nat → Nat) (v : Value) : (tv ad v).category = v.category := by cases v <;> rfl
def tl (ad : Nat → Nat) (l : List (Nat × Value)) : List (Nat × Value) := l.map (fun q => (q.1, tv ad q.2))
def ts (ad : Nat → Nat) (st : List Value) : List Value := st.map (tv ad)
theorem ts_cat (ad : Nat → Nat) (st : List Value) : (ts ad st).map (fun v => v.category) = st.map (fun v => v.category) := by
  induction st with
  | nil => rfl
  | cons a r ih => simp [ts, tv_cat] at ih ⊢
theorem ts_rev (ad : Nat → Nat) (as : List Value) : ts ad as.reverse = (ts ad as).reverse := by simp [ts]
theorem tl_args (ad : Nat → Nat) (as : List Value) : ∀ i, lv_args i (ts ad as) = tl ad (lv_args i as) := by
  induction as with
  | nil => intro i; rfl
  | cons a r ih =>
    intro i
    show (i, tv ad a) :: lv_args (if (tv ad a).category = 2 then i + 2 else i + 1) (ts ad r) = _
    rw [tv_cat, ih]
    rfl
theorem lg_ts (ad : Nat → Nat) (as : List Value) : (lg_sl (ts ad as)).length = (lg_sl as).length := by
  induction as with
  | nil => rfl
  | cons a r ih =>
    have e : ∀ (v : Value) (w : List Value), lg_sl (v :: w) = (if v.category = 2 then [Slot.val v, .second] else [.val v]) ++ lg_sl w := fun v w => by simp [lg_sl]
    show (lg_sl (tv ad a :: ts ad r)).length = _
    rw [e, e, List.length_append, List.length_append, ih, tv_cat]
    congr 1
    by_cases h : a.category = 2 <;> simp [h]
/-- how many cells; each cell's kind (0 object, 1 int, 2 long, 3 char, 4 boolean, 5 rows of ints, 6 rows of longs), length, class; its references -/
abbrev Shp : Type := Nat × (Nat → Nat × Nat × Nat) × (Nat → Nat → Option Nat)
def nc (S : Shp) : Nat := S.1
def kd (S : Shp) (k : Nat) : Nat := (S.2.1 k).1
def ln (S : Shp) (k : Nat) : Nat := (S.2.1 k).2.1
def ci (S : Shp) (k : Nat) : Nat := (S.2.1 k).2.2
def fr (S : Shp) (k i : Nat) : Option Nat := S.2.2 k i
def fV (S : Shp) (ad : Nat → Nat) (s : Sto) (k i : Nat) : Value := match fr S k i with
  | some j => .ref (ad j)
  | none => .int (Int32.ofInt (s k i))
def cE (S : Shp) (ad : Nat → Nat) (cA : Nat → ClassId) (s : Sto) (k : Nat) : va_E :=
  if kd S k = 0 then .inr (ci S k, (List.range (ln S k)).map (fV S ad s k))
  else if kd S k = 2 then .inl (cA 2, ln S k, .inr (.inl (fun i => Int64.ofInt (s k i))))
  else if kd S k = 5 then .inl (cA 5, ln S k, .inr (.inr (.inr (.inr (fun i => (fr S k i).map ad)))))
  else if kd S k = 6 then .inl (cA 6, ln S k, .inr (.inr (.inr (.inr (fun i => (fr S k i).map ad)))))
  else .inl (cA (kd S k), ln S k, .inl (fun i => Int32.ofInt (s k i)))
def wd (S : Shp) (ad : Nat → Nat) (cA : Nat → ClassId) (s : Sto) : va_W := (List.range (nc S)).map (fun k => (ad k, cE S ad cA s k))
theorem wd_at {S : Shp} {ad : Nat → Nat} {cA : Nat → ClassId} {s : Sto} {k : Nat} (h : k < nc S) : (wd S ad cA s)[k]? = some (ad k, cE S ad cA s k) := by
  simp [wd, h]
theorem wd_get {S : Shp} {ad : Nat → Nat} {cA : Nat → ClassId} {s : Sto} {k : Nat} {q : Nat × va_E} (h : (wd S ad cA s)[k]? = some q) : k < nc S ∧ q = (ad k, cE S ad cA s k) := by
  by_cases hk : k < nc S
  · rw [wd_at hk] at h
    exact ⟨hk, (Option.some.inj h).symm⟩
  · simp [wd, hk] at h
def AW (S : Shp) (ad : Nat → Nat) : Nat → Prop := fun q => ∃ k, k < nc S ∧ q = ad k
def DJ (S : Shp) (ad : Nat → Nat) : Prop := ∀ i j, i < nc S → j < nc S → ad i = ad j → i = j
theorem wd_D {S : Shp} {ad : Nat → Nat} {cA : Nat → ClassId} {s : Sto} (h : DJ S ad) : va_D (AW S ad) (wd S ad cA s) := by
  refine ⟨fun i j p q hi hj e => ?_, fun k q hk => ?_⟩
  · obtain ⟨h1, rfl⟩ := wd_get hi
    obtain ⟨h2, rfl⟩ := wd_get hj
    exact h i j h1 h2 e
  · obtain ⟨h1, rfl⟩ := wd_get hk
    exact ⟨k, h1, rfl⟩
theorem wd_set {S : Shp} {ad : Nat → Nat} {cA : Nat → ClassId} {s s' : Sto} {k : Nat} {e : va_E} (hk : k < nc S) (he : e = cE S ad cA s' k) (ho : ∀ j, j < nc S → j ≠ k → cE S ad cA s j = cE S ad cA s' j) : (wd S ad cA s).set k (ad k, e) = wd S ad cA s' := by
  subst he
  apply List.ext_getElem?
  intro j
  by_cases hj : j = k
  · subst hj
    rw [List.getElem?_set_self (by simp [wd, hk]), wd_at hk]
  · rw [List.getElem?_set_ne (Ne.symm hj)]
    by_cases hl : j < nc S
    · rw [wd_at hl, wd_at hl, ho j hl hj]
    · simp [wd, hl]
theorem cE_up_ne {S : Shp} {ad : Nat → Nat} {cA : Nat → ClassId} {s : Sto} {k i : Nat} {x : Int} {j : Nat} (h : j ≠ k) : cE S ad cA s j = cE S ad cA (up s k i x) j := by
  have e : ∀ i', up s k i x j i' = s j i' := fun i' => up_k h
  have e2 : fV S ad (up s k i x) j = fV S ad s j := by
    funext i'
    unfold fV
    cases fr S j i' with
    | some _ => rfl
    | none => simp [e]
  unfold cE
  simp only [e, e2]
def tysOf (cA : Nat → ClassId) : List (ClassId × FieldType) := [(cA 1, .int), (cA 2, .long), (cA 3, .char), (cA 4, .boolean), (cA 5, .array .int), (cA 6, .array .long)]
def TW : List Cond := lw_tbl.filter goodWord
theorem tw_in {w : Cond} (h : w ∈ lw_tbl) (g : goodWord w = true) : w ∈ TW := List.mem_filter.mpr ⟨h, g⟩
theorem tw_good {c : Cond} (hc : c ∈ TW) {ws : List Cond} (h : ∀ w ∈ ws, w ∈ TW) : GoodIn (c :: TW) ws := fun w hw => ⟨List.mem_cons_of_mem _ (h w hw), good_of_word (List.mem_filter.mp (h w hw)).2⟩
theorem ofInt_toInt32 {x : Int} (h : -2147483648 ≤ x ∧ x < 2147483648) : (Int32.ofInt x).toInt = x := by
  have e : ((Int32.size : Nat) : Int) = 4294967296 := rfl
  rw [Int32.toInt_ofInt, Int.bmod_eq_of_le] <;> omega
theorem ofInt_toInt64 {x : Int} (h : -9223372036854775808 ≤ x ∧ x < 9223372036854775808) : (Int64.ofInt x).toInt = x := by
  have e : ((Int64.size : Nat) : Int) = 18446744073709551616 := rfl
  rw [Int64.toInt_ofInt, Int.bmod_eq_of_le] <;> omega
theorem i32_lt {x y : Int} (h : (-2147483648 ≤ x ∧ x < 2147483648) ∧ -2147483648 ≤ y ∧ y < 2147483648) : Int32.ofInt x < Int32.ofInt y ↔ x < y := by
  rw [Int32.lt_iff_toInt_lt, ofInt_toInt32 h.1, ofInt_toInt32 h.2]
theorem i32_le {x y : Int} (h : (-2147483648 ≤ x ∧ x < 2147483648) ∧ -2147483648 ≤ y ∧ y < 2147483648) : Int32.ofInt x ≤ Int32.ofInt y ↔ x ≤ y := by
  rw [Int32.le_iff_toInt_le, ofInt_toInt32 h.1, ofInt_toInt32 h.2]
theorem i32_eq {x y : Int} (h : (-2147483648 ≤ x ∧ x < 2147483648) ∧ -2147483648 ≤ y ∧ y < 2147483648) : Int32.ofInt x = Int32.ofInt y ↔ x = y := by
  rw [← Int32.toInt_inj, ofInt_toInt32 h.1, ofInt_toInt32 h.2]
theorem i64_lt {x y : Int} (h : (-9223372036854775808 ≤ x ∧ x < 9223372036854775808) ∧ -9223372036854775808 ≤ y ∧ y < 9223372036854775808) : Int64.ofInt x < Int64.ofInt y ↔ x < y := by
  rw [Int64.lt_iff_toInt_lt, ofInt_toInt64 h.1, ofInt_toInt64 h.2]
theorem i64_eq {x y : Int} (h : (-9223372036854775808 ≤ x ∧ x < 9223372036854775808) ∧ -9223372036854775808 ≤ y ∧ y < 9223372036854775808) : Int64.ofInt x = Int64.ofInt y ↔ x = y := by
  rw [← Int64.toInt_inj, ofInt_toInt64 h.1, ofInt_toInt64 h.2]
theorem i32_add (x y : Int) : Int32.ofInt x + Int32.ofInt y = Int32.ofInt (x + y) := (Int32.ofInt_add x y).symm
theorem i32_sub (x y : Int) : Int32.ofInt x - Int32.ofInt y = Int32.ofInt (x - y) := (Int32.ofInt_sub x y).symm
theorem i32_mul (x y : Int) : Int32.ofInt x * Int32.ofInt y = Int32.ofInt (x * y) := (Int32.ofInt_mul x y).symm
theorem i32_neg (x : Int) : -Int32.ofInt x = Int32.ofInt (-x) := (Int32.ofInt_neg x).symm
theorem i64_add (x y : Int) : Int64.ofInt x + Int64.ofInt y = Int64.ofInt (x + y) := (Int64.ofInt_add x y).symm
theorem i64_sub (x y : Int) : Int64.ofInt x - Int64.ofInt y = Int64.ofInt (x - y) := (Int64.ofInt_sub x y).symm
theorem i64_mul (x y : Int) : Int64.ofInt x * Int64.ofInt y = Int64.ofInt (x * y) := (Int64.ofInt_mul x y).symm
theorem i64_neg (x : Int) : -Int64.ofInt x = Int64.ofInt (-x) := (Int64.ofInt_neg x).symm
theorem i32_div {x y : Int} (h : (-2147483648 ≤ x ∧ x < 2147483648) ∧ -2147483648 ≤ y ∧ y < 2147483648) : Int32.ofInt x / Int32.ofInt y = Int32.ofInt (x.tdiv y) := by
  apply Int32.toInt_inj.mp
  rw [Int32.toInt_div, ofInt_toInt32 h.1, ofInt_toInt32 h.2, Int32.toInt_ofInt]
theorem i64_div {x y : Int} (h : (-9223372036854775808 ≤ x ∧ x < 9223372036854775808) ∧ -9223372036854775808 ≤ y ∧ y < 9223372036854775808) : Int64.ofInt x / Int64.ofInt y = Int64.ofInt (x.tdiv y) := by
  apply Int64.toInt_inj.mp
  rw [Int64.toInt_div, ofInt_toInt64 h.1, ofInt_toInt64 h.2, Int64.toInt_ofInt]
theorem i32_rem {x y : Int} (h : (-2147483648 ≤ x ∧ x < 2147483648) ∧ -2147483648 ≤ y ∧ y < 2147483648) : Int32.ofInt x - Int32.ofInt x / Int32.ofInt y * Int32.ofInt y = Int32.ofInt (x.tmod y) := by
  rw [i32_div h, i32_mul, i32_sub]
  congr 1
  have := Int.mul_tdiv_add_tmod x y
  rw [Int.mul_comm] at this
  omega
theorem i64_rem {x y : Int} (h : (-9223372036854775808 ≤ x ∧ x < 9223372036854775808) ∧ -9223372036854775808 ≤ y ∧ y < 9223372036854775808) : Int64.ofInt x - Int64.ofInt x / Int64.ofInt y * Int64.ofInt y = Int64.ofInt (x.tmod y) := by
  rw [i64_div h, i64_mul, i64_sub]
  congr 1
  have := Int.mul_tdiv_add_tmod x y
  rw [Int.mul_comm] at this
  omega
theorem i32_ix {i : Int} {n : Nat} (h : 0 ≤ i ∧ i < n) (hn : n < 2147483648) : vp_in (Int32.ofInt i) n ∧ (Int32.ofInt i).toNatClampNeg = i.toNat := by
  have e := ofInt_toInt32 (x := i) (by omega)
  refine ⟨vp_in_iff.mpr (by rw [e]; omega), ?_⟩
  show (Int32.ofInt i).toInt.toNat = i.toNat
  rw [e]
def iand (x y : Int) : Int := (Int32.ofInt x &&& Int32.ofInt y).toInt
def ior (x y : Int) : Int := (Int32.ofInt x ||| Int32.ofInt y).toInt
def ixor (x y : Int) : Int := (Int32.ofInt x ^^^ Int32.ofInt y).toInt
def ishl (x y : Int) : Int := (Int32.ofInt x <<< (Int32.ofInt y &&& 31)).toInt
def ishr (x y : Int) : Int := (Int32.ofInt x >>> (Int32.ofInt y &&& 31)).toInt
theorem i32_inv (a : Int32) : Int32.ofInt a.toInt = a := Int32.ofInt_toInt a
theorem i32_i2l {x : Int} (h : -2147483648 ≤ x ∧ x < 2147483648) : (Int32.ofInt x).toInt64 = Int64.ofInt x := by
  apply Int64.toInt_inj.mp
  rw [Int32.toInt_toInt64, ofInt_toInt32 h, ofInt_toInt64 (by omega)]
theorem i64_l2i (x : Int) : (Int64.ofInt x).toInt32 = Int32.ofInt x := Int64.toInt32_ofInt
