/-! running a method: tables instead of stores -/
abbrev Tb : Type := List (List Int)
def tof (t : Tb) : Sto := fun k i => (t.getD k []).getD i 0
def upB {β : Type} (t : Tb) (k i : Nat) (x : Int) (f : Tb → Option β) : Option β := if k < t.length ∧ i < (t.getD k []).length then f (t.set k ((t.getD k []).set i x)) else none
def bnd {β : Type} (c : Option (Int × Tb)) (f : Int → Tb → Option β) : Option β := match c with
  | none => none
  | some p => f p.1 p.2
theorem tof_set {t : Tb} {k i : Nat} {x : Int} (hk : k < t.length) (hi : i < (t.getD k []).length) : tof (t.set k ((t.getD k []).set i x)) = up (tof t) k i x := by
  funext k' i'
  unfold tof up
  by_cases c : k' = k
  · subst c
    rw [show (t.set k' ((t.getD k' []).set i x)).getD k' [] = (t.getD k' []).set i x by simp [List.getD_eq_getElem?_getD, hk]]
    by_cases c2 : i' = i
    · subst c2
      rw [if_pos ⟨rfl, rfl⟩]
      simp only [List.getD_eq_getElem?_getD] at hi ⊢
      simp [hi]
    · rw [if_neg (fun q => c2 q.2)]
      simp only [List.getD_eq_getElem?_getD]
      rw [List.getElem?_set_ne (by omega)]
  · rw [if_neg (fun q => c q.1)]
    have : (t.set k ((t.getD k []).set i x)).getD k' [] = t.getD k' [] := by
      simp only [List.getD_eq_getElem?_getD]
      rw [List.getElem?_set_ne (by omega)]
    rw [this]
theorem xr_and {β : Type} {c R : Prop} [Decidable c] {A : Option β} {o : β} (h : (if c then A else none) = some o) (k : c → A = some o → R) : c ∧ R := by
  by_cases hc : c
  · rw [if_pos hc] at h; exact ⟨hc, k hc h⟩
  · rw [if_neg hc] at h; cases h
theorem xr_ite {β : Type} {c nc T1 T2 : Prop} [Decidable c] {A B : Option β} {o : β} (h : (if c then A else B) = some o) (hn : nc → ¬ c) (k1 : A = some o → T1) (k2 : B = some o → T2) : (c → T1) ∧ (nc → T2) := by
  by_cases hc : c
  · rw [if_pos hc] at h; exact ⟨fun _ => k1 h, fun q => absurd hc (hn q)⟩
  · rw [if_neg hc] at h; exact ⟨fun q => absurd q hc, fun _ => k2 h⟩
theorem xr_sw {β : Type} {c T1 R : Prop} [Decidable c] {A B : Option β} {o : β} (h : (if c then A else B) = some o) (k0 : c → R) (k1 : A = some o → T1) (k2 : ¬ c → B = some o → R) : (c → T1) ∧ R := by
  by_cases hc : c
  · rw [if_pos hc] at h; exact ⟨fun _ => k1 h, k0 hc⟩
  · rw [if_neg hc] at h; exact ⟨fun q => absurd q hc, k2 hc h⟩
theorem xr_up {β : Type} {t : Tb} {k i : Nat} {x : Int} {f : Tb → Option β} {o : β} {T : Sto → Prop} (h : upB t k i x f = some o) (k' : ∀ t2, f t2 = some o → T (tof t2)) : ∀ s2, s2 = up (tof t) k i x → T s2 := by
  unfold upB at h
  by_cases hc : k < t.length ∧ i < (t.getD k []).length
  · rw [if_pos hc] at h
    intro s2 e
    rw [e, ← tof_set hc.1 hc.2]
    exact k' _ h
  · rw [if_neg hc] at h; cases h
theorem xr_call {β : Type} {c : Option (Int × Tb)} {f : Int → Tb → Option β} {o : β} {K : (Int → Sto → Prop) → Prop} {T : Int → Sto → Prop} (h : bnd c f = some o) (hK : ∀ r t, c = some (r, t) → K (fun r' s' => r' = r ∧ s' = tof t)) (k : ∀ r t, f r t = some o → T r (tof t)) : ∃ Q, K Q ∧ ∀ r s2, Q r s2 → T r s2 := by
  cases c with
  | none => cases h
  | some p => exact ⟨_, hK p.1 p.2 rfl, fun r s2 q => by obtain ⟨rfl, rfl⟩ := q; exact k _ _ h⟩
theorem xr_callV {β : Type} {c : Option (Int × Tb)} {f : Int → Tb → Option β} {o : β} {K : (Sto → Prop) → Prop} {T : Sto → Prop} (h : bnd c f = some o) (hK : ∀ r t, c = some (r, t) → K (fun s' => s' = tof t)) (k : ∀ r t, f r t = some o → T (tof t)) : ∃ Q, K Q ∧ ∀ s2, Q s2 → T s2 := by
  cases c with
  | none => cases h
  | some p => exact ⟨_, hK p.1 p.2 rfl, fun s2 q => by subst q; exact k _ _ h⟩
theorem xr_leaf {Q : Int → Sto → Prop} {o : Int × Tb} {x : Int} {t : Tb} (h : some (x, t) = some o) (hQ : Q o.1 (tof o.2)) : Q x (tof t) := by cases h; exact hQ
theorem xr_leafV {Q : Sto → Prop} {o : Int × Tb} {x : Int} {t : Tb} (h : some (x, t) = some o) (hQ : Q (tof o.2)) : Q (tof t) := by cases h; exact hQ
def arb (S : Shp) (k t n : Nat) : Bool := decide (k < nc S ∧ kd S k = t ∧ ln S k = n ∧ n < 2147483648)
theorem arb_ar {S : Shp} {k t n : Nat} (h : arb S k t n = true) : ar S k t n := by unfold ar; exact of_decide_eq_true h

def xb_Bu_edgesToBurnt_5 (fu : Nat) (rec : Nat → List Int → List Nat → Tb → Option (Int × Tb)) (x1 : Int) (x2 : Int) (x3 : Int) (x4 : Int) (t : Tb) : Option (Int × Tb) := if (-2147483648 ≤ x4 ∧ x4 < 2147483648) ∧ -2147483648 ≤ ((tof t) 1 0) ∧ ((tof t) 1 0) < 2147483648 then if ((tof t) 1 0) ≤ x4 then some (x3, t) else if 0 ≤ x4 ∧ x4 < 8 then if -2147483648 ≤ ((tof t) 38 (Int.toNat x4)) ∧ ((tof t) 38 (Int.toNat x4)) < 2147483648 then if ((tof t) 38 (Int.toNat x4)) = (-1) then rec 5 [x1, x2, x3, (x4 + 1)] [] t else if 0 ≤ x4 ∧ x4 < 8 then if (-2147483648 ≤ ((tof t) 38 (Int.toNat x4)) ∧ ((tof t) 38 (Int.toNat x4)) < 2147483648) ∧ -2147483648 ≤ x2 ∧ x2 < 2147483648 then if x2 ≤ ((tof t) 38 (Int.toNat x4)) then rec 5 [x1, x2, x3, (x4 + 1)] [] t else if 0 ≤ x1 ∧ x1 < 8 then if 0 ≤ x4 ∧ x4 < 8 then rec 5 [x1, x2, (x3 + ((tof t) (5 + Int.toNat x1) (Int.toNat x4))), (x4 + 1)] [] t else none else none else none else none else none else none else none
def xb_Bu_edgesToBurnt_e (fu : Nat) (rec : Nat → List Int → List Nat → Tb → Option (Int × Tb)) (x1 : Int) (x2 : Int) (t : Tb) : Option (Int × Tb) := rec 5 [x1, x2, 0, 0] [] t
def xm_Bu_edgesToBurnt (fu : Nat) : Nat → Nat → List Int → List Nat → Tb → Option (Int × Tb)
  | 0, _, _, _, _ => none
  | n + 1, pc, a, ks, t => if pc = 5 then xb_Bu_edgesToBurnt_5 fu (xm_Bu_edgesToBurnt fu n) (a.getD 0 0) (a.getD 1 0) (a.getD 2 0) (a.getD 3 0) t else none
def x_Bu_edgesToBurnt (fu : Nat) (x1 : Int) (x2 : Int) (t : Tb) : Option (Int × Tb) := xb_Bu_edgesToBurnt_e fu (xm_Bu_edgesToBurnt fu fu) x1 x2 t
set_option maxRecDepth 20000 in
theorem xt_Bu_edgesToBurnt_5 {fu : Nat} {rec : Nat → List Int → List Nat → Tb → Option (Int × Tb)} {o : Int × Tb} {Q : Int → Sto → Prop} (hQ : Q o.1 (tof o.2)) (hr_5 : ∀ (x1 : Int) (x2 : Int) (x3 : Int) (x4 : Int) (t : Tb), rec 5 [x1, x2, x3, x4] [] t = some o → H_Bu_edgesToBurnt_5 Q x1 x2 x3 x4 (tof t)) {x1 : Int} {x2 : Int} {x3 : Int} {x4 : Int} {t : Tb} (h0 : xb_Bu_edgesToBurnt_5 fu rec x1 x2 x3 x4 t = some o) : H_Bu_edgesToBurnt_5 Q x1 x2 x3 x4 (tof t) :=
  b_Bu_edgesToBurnt_5 (xr_and h0 fun _ h1 => xr_ite h1 (fun z y => by omega) (fun h2 => xr_leaf h2 hQ) (fun h3 => xr_and h3 fun _ h4 => xr_and h4 fun _ h5 => xr_ite h5 (fun z => z) (fun h6 => hr_5 _ _ _ _ _ h6) (fun h7 => xr_and h7 fun _ h8 => xr_and h8 fun _ h9 => xr_ite h9 (fun z y => by omega) (fun h10 => hr_5 _ _ _ _ _ h10) (fun h11 => xr_and h11 fun _ h12 => xr_and h12 fun _ h13 => hr_5 _ _ _ _ _ h13))))
set_option maxRecDepth 20000 in
theorem xt_Bu_edgesToBurnt_e {fu : Nat} {rec : Nat → List Int → List Nat → Tb → Option (Int × Tb)} {o : Int × Tb} {Q : Int → Sto → Prop} (hQ : Q o.1 (tof o.2)) (hr_5 : ∀ (x1 : Int) (x2 : Int) (x3 : Int) (x4 : Int) (t : Tb), rec 5 [x1, x2, x3, x4] [] t = some o → H_Bu_edgesToBurnt_5 Q x1 x2 x3 x4 (tof t)) {x1 : Int} {x2 : Int} {t : Tb} (h0 : xb_Bu_edgesToBurnt_e fu rec x1 x2 t = some o) : K_Bu_edgesToBurnt x1 x2 (tof t) Q :=
  e_Bu_edgesToBurnt (hr_5 _ _ _ _ _ h0)
theorem xl_Bu_edgesToBurnt {fu : Nat} {o : Int × Tb} {Q : Int → Sto → Prop} (hQ : Q o.1 (tof o.2)) : ∀ n : Nat, (∀ (x1 : Int) (x2 : Int) (x3 : Int) (x4 : Int) (t : Tb), xm_Bu_edgesToBurnt fu n 5 [x1, x2, x3, x4] [] t = some o → H_Bu_edgesToBurnt_5 Q x1 x2 x3 x4 (tof t)) := by
  intro n
  induction n with
  | zero => exact fun _ _ _ _ _ h => (nomatch h)
  | succ n ih =>
    have i5 := ih
    exact fun _ _ _ _ _ h => xt_Bu_edgesToBurnt_5 (fu := fu) hQ i5 h
theorem xs_Bu_edgesToBurnt {fu : Nat} {x1 : Int} {x2 : Int} {t : Tb} {r : Int} {t' : Tb} {Q : Int → Sto → Prop} (h : x_Bu_edgesToBurnt fu x1 x2 t = some (r, t')) (hQ : Q r (tof t')) : K_Bu_edgesToBurnt x1 x2 (tof t) Q := xt_Bu_edgesToBurnt_e (o := (r, t')) hQ (xl_Bu_edgesToBurnt hQ fu) h
def xb_Bu_burnRound_4 (fu : Nat) (rec : Nat → List Int → List Nat → Tb → Option (Int × Tb)) (x1 : Int) (x2 : Int) (x3 : Int) (t : Tb) : Option (Int × Tb) := if (-2147483648 ≤ x3 ∧ x3 < 2147483648) ∧ -2147483648 ≤ ((tof t) 1 0) ∧ ((tof t) 1 0) < 2147483648 then if ((tof t) 1 0) ≤ x3 then some (x2, t) else if 0 ≤ x3 ∧ x3 < 8 then if -2147483648 ≤ ((tof t) 38 (Int.toNat x3)) ∧ ((tof t) 38 (Int.toNat x3)) < 2147483648 then if ¬ ((tof t) 38 (Int.toNat x3)) = (-1) then rec 4 [x1, x2, (x3 + 1)] [] t else bnd (x_Bu_edgesToBurnt fu x3 x1 t) fun r9 t8 => if 0 ≤ x3 ∧ x3 < 8 then if (-2147483648 ≤ r9 ∧ r9 < 2147483648) ∧ -2147483648 ≤ ((tof t8) 39 (Int.toNat x3)) ∧ ((tof t8) 39 (Int.toNat x3)) < 2147483648 then if r9 < ((tof t8) 39 (Int.toNat x3)) then rec 4 [x1, x2, (x3 + 1)] [] t8 else if 0 ≤ x3 ∧ x3 < 8 then upB t8 38 (Int.toNat x3) x1 fun t15 => rec 4 [x1, (x2 + 1), (x3 + 1)] [] t15 else none else none else none else none else none else none
def xb_Bu_burnRound_e (fu : Nat) (rec : Nat → List Int → List Nat → Tb → Option (Int × Tb)) (x1 : Int) (t : Tb) : Option (Int × Tb) := rec 4 [x1, 0, 0] [] t
def xm_Bu_burnRound (fu : Nat) : Nat → Nat → List Int → List Nat → Tb → Option (Int × Tb)
  | 0, _, _, _, _ => none
  | n + 1, pc, a, ks, t => if pc = 4 then xb_Bu_burnRound_4 fu (xm_Bu_burnRound fu n) (a.getD 0 0) (a.getD 1 0) (a.getD 2 0) t else none
def x_Bu_burnRound (fu : Nat) (x1 : Int) (t : Tb) : Option (Int × Tb) := xb_Bu_burnRound_e fu (xm_Bu_burnRound fu fu) x1 t
set_option maxRecDepth 20000 in
theorem xt_Bu_burnRound_4 {fu : Nat} {rec : Nat → List Int → List Nat → Tb → Option (Int × Tb)} {o : Int × Tb} {Q : Int → Sto → Prop} (hQ : Q o.1 (tof o.2)) (hr_4 : ∀ (x1 : Int) (x2 : Int) (x3 : Int) (t : Tb), rec 4 [x1, x2, x3] [] t = some o → H_Bu_burnRound_4 Q x1 x2 x3 (tof t)) {x1 : Int} {x2 : Int} {x3 : Int} {t : Tb} (h0 : xb_Bu_burnRound_4 fu rec x1 x2 x3 t = some o) : H_Bu_burnRound_4 Q x1 x2 x3 (tof t) :=
  b_Bu_burnRound_4 (xr_and h0 fun _ h1 => xr_ite h1 (fun z y => by omega) (fun h2 => xr_leaf h2 hQ) (fun h3 => xr_and h3 fun _ h4 => xr_and h4 fun _ h5 => xr_ite h5 (fun z y => y z) (fun h6 => hr_4 _ _ _ _ h6) (fun h7 => xr_call h7 (fun _ _ hc => xs_Bu_edgesToBurnt hc ⟨rfl, rfl⟩) fun r9 t8 h8 => xr_and h8 fun _ h9 => xr_and h9 fun _ h10 => xr_ite h10 (fun z y => by omega) (fun h11 => hr_4 _ _ _ _ h11) (fun h12 => xr_and h12 fun _ h13 => xr_up h13 fun t15 h14 => hr_4 _ _ _ _ h14))))
set_option maxRecDepth 20000 in
theorem xt_Bu_burnRound_e {fu : Nat} {rec : Nat → List Int → List Nat → Tb → Option (Int × Tb)} {o : Int × Tb} {Q : Int → Sto → Prop} (hQ : Q o.1 (tof o.2)) (hr_4 : ∀ (x1 : Int) (x2 : Int) (x3 : Int) (t : Tb), rec 4 [x1, x2, x3] [] t = some o → H_Bu_burnRound_4 Q x1 x2 x3 (tof t)) {x1 : Int} {t : Tb} (h0 : xb_Bu_burnRound_e fu rec x1 t = some o) : K_Bu_burnRound x1 (tof t) Q :=
  e_Bu_burnRound (hr_4 _ _ _ _ h0)
theorem xl_Bu_burnRound {fu : Nat} {o : Int × Tb} {Q : Int → Sto → Prop} (hQ : Q o.1 (tof o.2)) : ∀ n : Nat, (∀ (x1 : Int) (x2 : Int) (x3 : Int) (t : Tb), xm_Bu_burnRound fu n 4 [x1, x2, x3] [] t = some o → H_Bu_burnRound_4 Q x1 x2 x3 (tof t)) := by
  intro n
  induction n with
  | zero => exact fun _ _ _ _ h => (nomatch h)
  | succ n ih =>
    have i4 := ih
    exact fun _ _ _ _ h => xt_Bu_burnRound_4 (fu := fu) hQ i4 h
theorem xs_Bu_burnRound {fu : Nat} {x1 : Int} {t : Tb} {r : Int} {t' : Tb} {Q : Int → Sto → Prop} (h : x_Bu_burnRound fu x1 t = some (r, t')) (hQ : Q r (tof t')) : K_Bu_burnRound x1 (tof t) Q := xt_Bu_burnRound_e (o := (r, t')) hQ (xl_Bu_burnRound hQ fu) h
def xb_Bu_spreadFire_2 (fu : Nat) (rec : Nat → List Int → List Nat → Tb → Option (Int × Tb)) (x1 : Int) (t : Tb) : Option (Int × Tb) := if (-2147483648 ≤ x1 ∧ x1 < 2147483648) ∧ -2147483648 ≤ ((tof t) 1 0) ∧ ((tof t) 1 0) < 2147483648 then if ((tof t) 1 0) ≤ x1 then rec 45 [1, 1] [] t else if (-2147483648 ≤ x1 ∧ x1 < 2147483648) ∧ -2147483648 ≤ ((tof t) 1 2) ∧ ((tof t) 1 2) < 2147483648 then if ¬ x1 = ((tof t) 1 2) then if 0 ≤ x1 ∧ x1 < 8 then upB t 38 (Int.toNat x1) (-1) fun t6 => rec 2 [(x1 + 1)] [] t6 else none else if 0 ≤ x1 ∧ x1 < 8 then upB t 38 (Int.toNat x1) 0 fun t8 => rec 2 [(x1 + 1)] [] t8 else none else none else none
def xb_Bu_spreadFire_45 (fu : Nat) (rec : Nat → List Int → List Nat → Tb → Option (Int × Tb)) (x1 : Int) (x2 : Int) (t : Tb) : Option (Int × Tb) := if (-2147483648 ≤ x2 ∧ x2 < 2147483648) ∧ -2147483648 ≤ ((tof t) 1 0) ∧ ((tof t) 1 0) < 2147483648 then if ((tof t) 1 0) < x2 then if (-2147483648 ≤ x1 ∧ x1 < 2147483648) ∧ -2147483648 ≤ ((tof t) 1 0) ∧ ((tof t) 1 0) < 2147483648 then if ¬ x1 = ((tof t) 1 0) then some (0, t) else some (1, t) else none else bnd (x_Bu_burnRound fu x2 t) fun r16 t15 => rec 45 [(x1 + r16), (x2 + 1)] [] t15 else none
def xb_Bu_spreadFire_e (fu : Nat) (rec : Nat → List Int → List Nat → Tb → Option (Int × Tb)) (t : Tb) : Option (Int × Tb) := rec 2 [0] [] t
def xm_Bu_spreadFire (fu : Nat) : Nat → Nat → List Int → List Nat → Tb → Option (Int × Tb)
  | 0, _, _, _, _ => none
  | n + 1, pc, a, ks, t => if pc = 2 then xb_Bu_spreadFire_2 fu (xm_Bu_spreadFire fu n) (a.getD 0 0) t else if pc = 45 then xb_Bu_spreadFire_45 fu (xm_Bu_spreadFire fu n) (a.getD 0 0) (a.getD 1 0) t else none
def x_Bu_spreadFire (fu : Nat) (t : Tb) : Option (Int × Tb) := xb_Bu_spreadFire_e fu (xm_Bu_spreadFire fu fu) t
set_option maxRecDepth 20000 in
theorem xt_Bu_spreadFire_2 {fu : Nat} {rec : Nat → List Int → List Nat → Tb → Option (Int × Tb)} {o : Int × Tb} {Q : Int → Sto → Prop} (hQ : Q o.1 (tof o.2)) (hr_2 : ∀ (x1 : Int) (t : Tb), rec 2 [x1] [] t = some o → H_Bu_spreadFire_2 Q x1 (tof t)) (hr_45 : ∀ (x1 : Int) (x2 : Int) (t : Tb), rec 45 [x1, x2] [] t = some o → H_Bu_spreadFire_45 Q x1 x2 (tof t)) {x1 : Int} {t : Tb} (h0 : xb_Bu_spreadFire_2 fu rec x1 t = some o) : H_Bu_spreadFire_2 Q x1 (tof t) :=
  b_Bu_spreadFire_2 (xr_and h0 fun _ h1 => xr_ite h1 (fun z y => by omega) (fun h2 => hr_45 _ _ _ h2) (fun h3 => xr_and h3 fun _ h4 => xr_ite h4 (fun z y => y z) (fun h5 => xr_and h5 fun _ h7 => xr_up h7 fun t6 h8 => hr_2 _ _ h8) (fun h6 => xr_and h6 fun _ h9 => xr_up h9 fun t8 h10 => hr_2 _ _ h10)))
set_option maxRecDepth 20000 in
theorem xt_Bu_spreadFire_45 {fu : Nat} {rec : Nat → List Int → List Nat → Tb → Option (Int × Tb)} {o : Int × Tb} {Q : Int → Sto → Prop} (hQ : Q o.1 (tof o.2)) (hr_2 : ∀ (x1 : Int) (t : Tb), rec 2 [x1] [] t = some o → H_Bu_spreadFire_2 Q x1 (tof t)) (hr_45 : ∀ (x1 : Int) (x2 : Int) (t : Tb), rec 45 [x1, x2] [] t = some o → H_Bu_spreadFire_45 Q x1 x2 (tof t)) {x1 : Int} {x2 : Int} {t : Tb} (h0 : xb_Bu_spreadFire_45 fu rec x1 x2 t = some o) : H_Bu_spreadFire_45 Q x1 x2 (tof t) :=
  b_Bu_spreadFire_45 (xr_and h0 fun _ h11 => xr_ite h11 (fun z y => by omega) (fun h12 => xr_and h12 fun _ h14 => xr_ite h14 (fun z y => y z) (fun h15 => xr_leaf h15 hQ) (fun h16 => xr_leaf h16 hQ)) (fun h13 => xr_call h13 (fun _ _ hc => xs_Bu_burnRound hc ⟨rfl, rfl⟩) fun r16 t15 h17 => hr_45 _ _ _ h17))
set_option maxRecDepth 20000 in
theorem xt_Bu_spreadFire_e {fu : Nat} {rec : Nat → List Int → List Nat → Tb → Option (Int × Tb)} {o : Int × Tb} {Q : Int → Sto → Prop} (hQ : Q o.1 (tof o.2)) (hr_2 : ∀ (x1 : Int) (t : Tb), rec 2 [x1] [] t = some o → H_Bu_spreadFire_2 Q x1 (tof t)) (hr_45 : ∀ (x1 : Int) (x2 : Int) (t : Tb), rec 45 [x1, x2] [] t = some o → H_Bu_spreadFire_45 Q x1 x2 (tof t)) {t : Tb} (h0 : xb_Bu_spreadFire_e fu rec t = some o) : K_Bu_spreadFire (tof t) Q :=
  e_Bu_spreadFire (hr_2 _ _ h0)
theorem xl_Bu_spreadFire {fu : Nat} {o : Int × Tb} {Q : Int → Sto → Prop} (hQ : Q o.1 (tof o.2)) : ∀ n : Nat, (∀ (x1 : Int) (t : Tb), xm_Bu_spreadFire fu n 2 [x1] [] t = some o → H_Bu_spreadFire_2 Q x1 (tof t)) ∧ (∀ (x1 : Int) (x2 : Int) (t : Tb), xm_Bu_spreadFire fu n 45 [x1, x2] [] t = some o → H_Bu_spreadFire_45 Q x1 x2 (tof t)) := by
  intro n
  induction n with
  | zero => exact ⟨fun _ _ h => (nomatch h), fun _ _ _ h => (nomatch h)⟩
  | succ n ih =>
    obtain ⟨i2, i45⟩ := ih
    exact ⟨fun _ _ h => xt_Bu_spreadFire_2 (fu := fu) hQ i2 i45 h, fun _ _ _ h => xt_Bu_spreadFire_45 (fu := fu) hQ i2 i45 h⟩
theorem xs_Bu_spreadFire {fu : Nat} {t : Tb} {r : Int} {t' : Tb} {Q : Int → Sto → Prop} (h : x_Bu_spreadFire fu t = some (r, t')) (hQ : Q r (tof t')) : K_Bu_spreadFire (tof t) Q := xt_Bu_spreadFire_e (o := (r, t')) hQ (xl_Bu_spreadFire hQ fu).1 (xl_Bu_spreadFire hQ fu).2 h
def xb_Gr_hasNode_e (fu : Nat) (rec : Nat → List Int → List Nat → Tb → Option (Int × Tb)) (x1 : Int) (t : Tb) : Option (Int × Tb) := if -2147483648 ≤ x1 ∧ x1 < 2147483648 then if x1 < 0 then some (0, t) else if (-2147483648 ≤ x1 ∧ x1 < 2147483648) ∧ -2147483648 ≤ ((tof t) 1 0) ∧ ((tof t) 1 0) < 2147483648 then if ((tof t) 1 0) ≤ x1 then some (0, t) else if -2147483648 ≤ x1 ∧ x1 < 2147483648 then if 8 ≤ x1 then some (0, t) else some (1, t) else none else none else none
def x_Gr_hasNode (fu : Nat) (x1 : Int) (t : Tb) : Option (Int × Tb) := xb_Gr_hasNode_e fu (fun _ _ _ _ => none) x1 t
set_option maxRecDepth 20000 in
theorem xt_Gr_hasNode_e {fu : Nat} {rec : Nat → List Int → List Nat → Tb → Option (Int × Tb)} {o : Int × Tb} {Q : Int → Sto → Prop} (hQ : Q o.1 (tof o.2)) {x1 : Int} {t : Tb} (h0 : xb_Gr_hasNode_e fu rec x1 t = some o) : K_Gr_hasNode x1 (tof t) Q :=
  e_Gr_hasNode (xr_and h0 fun _ h1 => xr_ite h1 (fun z y => by omega) (fun h2 => xr_leaf h2 hQ) (fun h3 => xr_and h3 fun _ h4 => xr_ite h4 (fun z y => by omega) (fun h5 => xr_leaf h5 hQ) (fun h6 => xr_and h6 fun _ h7 => xr_ite h7 (fun z y => by omega) (fun h8 => xr_leaf h8 hQ) (fun h9 => xr_leaf h9 hQ))))
theorem xs_Gr_hasNode {fu : Nat} {x1 : Int} {t : Tb} {r : Int} {t' : Tb} {Q : Int → Sto → Prop} (h : x_Gr_hasNode fu x1 t = some (r, t')) (hQ : Q r (tof t')) : K_Gr_hasNode x1 (tof t) Q := xt_Gr_hasNode_e (o := (r, t')) hQ h
def xb_Gr_degreeOf_e (fu : Nat) (rec : Nat → List Int → List Nat → Tb → Option (Int × Tb)) (x1 : Int) (t : Tb) : Option (Int × Tb) := bnd (x_Gr_hasNode fu x1 t) fun r4 t3 => if -2147483648 ≤ r4 ∧ r4 < 2147483648 then if r4 = 0 then some (0, t3) else if 0 ≤ x1 ∧ x1 < 8 then some (((tof t3) 13 (Int.toNat x1)), t3) else none else none
def x_Gr_degreeOf (fu : Nat) (x1 : Int) (t : Tb) : Option (Int × Tb) := xb_Gr_degreeOf_e fu (fun _ _ _ _ => none) x1 t
set_option maxRecDepth 20000 in
theorem xt_Gr_degreeOf_e {fu : Nat} {rec : Nat → List Int → List Nat → Tb → Option (Int × Tb)} {o : Int × Tb} {Q : Int → Sto → Prop} (hQ : Q o.1 (tof o.2)) {x1 : Int} {t : Tb} (h0 : xb_Gr_degreeOf_e fu rec x1 t = some o) : K_Gr_degreeOf x1 (tof t) Q :=
  e_Gr_degreeOf (xr_call h0 (fun _ _ hc => xs_Gr_hasNode hc ⟨rfl, rfl⟩) fun r4 t3 h1 => xr_and h1 fun _ h2 => xr_ite h2 (fun z => z) (fun h3 => xr_leaf h3 hQ) (fun h4 => xr_and h4 fun _ h5 => xr_leaf h5 hQ))
theorem xs_Gr_degreeOf {fu : Nat} {x1 : Int} {t : Tb} {r : Int} {t' : Tb} {Q : Int → Sto → Prop} (h : x_Gr_degreeOf fu x1 t = some (r, t')) (hQ : Q r (tof t')) : K_Gr_degreeOf x1 (tof t) Q := xt_Gr_degreeOf_e (o := (r, t')) hQ h
def xb_Bu_allBurn_2 (fu : Nat) (rec : Nat → List Int → List Nat → Tb → Option (Int × Tb)) (k1 : Nat) (x2 : Int) (t : Tb) : Option (Int × Tb) := if arb SC k1 1 8 = true then if (-2147483648 ≤ x2 ∧ x2 < 2147483648) ∧ -2147483648 ≤ ((tof t) 1 0) ∧ ((tof t) 1 0) < 2147483648 then if ((tof t) 1 0) ≤ x2 then bnd (x_Bu_spreadFire fu t) fun r6 t5 => if r6 = 0 ∨ r6 = 1 then some (r6, t5) else none else bnd (x_Gr_degreeOf fu x2 t) fun r12 t11 => if 0 ≤ x2 ∧ x2 < 8 then if 0 ≤ x2 ∧ x2 < 8 then upB t11 39 (Int.toNat x2) (r12 - ((tof t11) k1 (Int.toNat x2))) fun t16 => rec 2 [(x2 + 1)] [k1] t16 else none else none else none else none
def xb_Bu_allBurn_e (fu : Nat) (rec : Nat → List Int → List Nat → Tb → Option (Int × Tb)) (k1 : Nat) (t : Tb) : Option (Int × Tb) := if arb SC k1 1 8 = true then rec 2 [0] [k1] t else none
def xm_Bu_allBurn (fu : Nat) : Nat → Nat → List Int → List Nat → Tb → Option (Int × Tb)
  | 0, _, _, _, _ => none
  | n + 1, pc, a, ks, t => if pc = 2 then xb_Bu_allBurn_2 fu (xm_Bu_allBurn fu n) (ks.getD 0 0) (a.getD 0 0) t else none
def x_Bu_allBurn (fu : Nat) (k1 : Nat) (t : Tb) : Option (Int × Tb) := xb_Bu_allBurn_e fu (xm_Bu_allBurn fu fu) k1 t
set_option maxRecDepth 20000 in
theorem xt_Bu_allBurn_2 {fu : Nat} {rec : Nat → List Int → List Nat → Tb → Option (Int × Tb)} {o : Int × Tb} {Q : Int → Sto → Prop} (hQ : Q o.1 (tof o.2)) (hr_2 : ∀ (k1 : Nat) (x2 : Int) (t : Tb), rec 2 [x2] [k1] t = some o → H_Bu_allBurn_2 Q k1 x2 (tof t)) {k1 : Nat} {x2 : Int} {t : Tb} (h0 : xb_Bu_allBurn_2 fu rec k1 x2 t = some o) : H_Bu_allBurn_2 Q k1 x2 (tof t) := by
  unfold xb_Bu_allBurn_2 at h0
  obtain ⟨a0, h0⟩ := xr_and h0 (R := _ = some o) (fun _ z => z)
  exact b_Bu_allBurn_2 (arb_ar a0) (xr_and h0 fun _ h1 => xr_ite h1 (fun z y => by omega) (fun h2 => xr_call h2 (fun _ _ hc => xs_Bu_spreadFire hc ⟨rfl, rfl⟩) fun r6 t5 h4 => xr_and h4 fun _ h5 => xr_leaf h5 hQ) (fun h3 => xr_call h3 (fun _ _ hc => xs_Gr_degreeOf hc ⟨rfl, rfl⟩) fun r12 t11 h6 => xr_and h6 fun _ h7 => xr_and h7 fun _ h8 => xr_up h8 fun t16 h9 => hr_2 _ _ _ h9))
set_option maxRecDepth 20000 in
theorem xt_Bu_allBurn_e {fu : Nat} {rec : Nat → List Int → List Nat → Tb → Option (Int × Tb)} {o : Int × Tb} {Q : Int → Sto → Prop} (hQ : Q o.1 (tof o.2)) (hr_2 : ∀ (k1 : Nat) (x2 : Int) (t : Tb), rec 2 [x2] [k1] t = some o → H_Bu_allBurn_2 Q k1 x2 (tof t)) {k1 : Nat} {t : Tb} (h0 : xb_Bu_allBurn_e fu rec k1 t = some o) : K_Bu_allBurn k1 (tof t) Q := by
  unfold xb_Bu_allBurn_e at h0
  obtain ⟨a0, h0⟩ := xr_and h0 (R := _ = some o) (fun _ z => z)
  exact e_Bu_allBurn (arb_ar a0) (hr_2 _ _ _ h0)
theorem xl_Bu_allBurn {fu : Nat} {o : Int × Tb} {Q : Int → Sto → Prop} (hQ : Q o.1 (tof o.2)) : ∀ n : Nat, (∀ (k1 : Nat) (x2 : Int) (t : Tb), xm_Bu_allBurn fu n 2 [x2] [k1] t = some o → H_Bu_allBurn_2 Q k1 x2 (tof t)) := by
  intro n
  induction n with
  | zero => exact fun _ _ _ h => (nomatch h)
  | succ n ih =>
    have i2 := ih
    exact fun _ _ _ h => xt_Bu_allBurn_2 (fu := fu) hQ i2 h
theorem xs_Bu_allBurn {fu : Nat} {k1 : Nat} {t : Tb} {r : Int} {t' : Tb} {Q : Int → Sto → Prop} (h : x_Bu_allBurn fu k1 t = some (r, t')) (hQ : Q r (tof t')) : K_Bu_allBurn k1 (tof t) Q := xt_Bu_allBurn_e (o := (r, t')) hQ (xl_Bu_allBurn hQ fu) h
def xb_Bu_allBurnBySecondRule_2 (fu : Nat) (rec : Nat → List Int → List Nat → Tb → Option (Int × Tb)) (k1 : Nat) (x2 : Int) (t : Tb) : Option (Int × Tb) := if arb SC k1 1 8 = true then if (-2147483648 ≤ x2 ∧ x2 < 2147483648) ∧ -2147483648 ≤ ((tof t) 1 0) ∧ ((tof t) 1 0) < 2147483648 then if ((tof t) 1 0) ≤ x2 then bnd (x_Bu_spreadFire fu t) fun r6 t5 => if r6 = 0 ∨ r6 = 1 then some (r6, t5) else none else if 0 ≤ x2 ∧ x2 < 8 then if 0 ≤ x2 ∧ x2 < 8 then upB t 39 (Int.toNat x2) (((tof t) k1 (Int.toNat x2)) + 1) fun t11 => rec 2 [(x2 + 1)] [k1] t11 else none else none else none else none
def xb_Bu_allBurnBySecondRule_e (fu : Nat) (rec : Nat → List Int → List Nat → Tb → Option (Int × Tb)) (k1 : Nat) (t : Tb) : Option (Int × Tb) := if arb SC k1 1 8 = true then rec 2 [0] [k1] t else none
def xm_Bu_allBurnBySecondRule (fu : Nat) : Nat → Nat → List Int → List Nat → Tb → Option (Int × Tb)
  | 0, _, _, _, _ => none
  | n + 1, pc, a, ks, t => if pc = 2 then xb_Bu_allBurnBySecondRule_2 fu (xm_Bu_allBurnBySecondRule fu n) (ks.getD 0 0) (a.getD 0 0) t else none
def x_Bu_allBurnBySecondRule (fu : Nat) (k1 : Nat) (t : Tb) : Option (Int × Tb) := xb_Bu_allBurnBySecondRule_e fu (xm_Bu_allBurnBySecondRule fu fu) k1 t
set_option maxRecDepth 20000 in
theorem xt_Bu_allBurnBySecondRule_2 {fu : Nat} {rec : Nat → List Int → List Nat → Tb → Option (Int × Tb)} {o : Int × Tb} {Q : Int → Sto → Prop} (hQ : Q o.1 (tof o.2)) (hr_2 : ∀ (k1 : Nat) (x2 : Int) (t : Tb), rec 2 [x2] [k1] t = some o → H_Bu_allBurnBySecondRule_2 Q k1 x2 (tof t)) {k1 : Nat} {x2 : Int} {t : Tb} (h0 : xb_Bu_allBurnBySecondRule_2 fu rec k1 x2 t = some o) : H_Bu_allBurnBySecondRule_2 Q k1 x2 (tof t) := by
  unfold xb_Bu_allBurnBySecondRule_2 at h0
  obtain ⟨a0, h0⟩ := xr_and h0 (R := _ = some o) (fun _ z => z)
  exact b_Bu_allBurnBySecondRule_2 (arb_ar a0) (xr_and h0 fun _ h1 => xr_ite h1 (fun z y => by omega) (fun h2 => xr_call h2 (fun _ _ hc => xs_Bu_spreadFire hc ⟨rfl, rfl⟩) fun r6 t5 h4 => xr_and h4 fun _ h5 => xr_leaf h5 hQ) (fun h3 => xr_and h3 fun _ h6 => xr_and h6 fun _ h7 => xr_up h7 fun t11 h8 => hr_2 _ _ _ h8))
set_option maxRecDepth 20000 in
theorem xt_Bu_allBurnBySecondRule_e {fu : Nat} {rec : Nat → List Int → List Nat → Tb → Option (Int × Tb)} {o : Int × Tb} {Q : Int → Sto → Prop} (hQ : Q o.1 (tof o.2)) (hr_2 : ∀ (k1 : Nat) (x2 : Int) (t : Tb), rec 2 [x2] [k1] t = some o → H_Bu_allBurnBySecondRule_2 Q k1 x2 (tof t)) {k1 : Nat} {t : Tb} (h0 : xb_Bu_allBurnBySecondRule_e fu rec k1 t = some o) : K_Bu_allBurnBySecondRule k1 (tof t) Q := by
  unfold xb_Bu_allBurnBySecondRule_e at h0
  obtain ⟨a0, h0⟩ := xr_and h0 (R := _ = some o) (fun _ z => z)
  exact e_Bu_allBurnBySecondRule (arb_ar a0) (hr_2 _ _ _ h0)
theorem xl_Bu_allBurnBySecondRule {fu : Nat} {o : Int × Tb} {Q : Int → Sto → Prop} (hQ : Q o.1 (tof o.2)) : ∀ n : Nat, (∀ (k1 : Nat) (x2 : Int) (t : Tb), xm_Bu_allBurnBySecondRule fu n 2 [x2] [k1] t = some o → H_Bu_allBurnBySecondRule_2 Q k1 x2 (tof t)) := by
  intro n
  induction n with
  | zero => exact fun _ _ _ h => (nomatch h)
  | succ n ih =>
    have i2 := ih
    exact fun _ _ _ h => xt_Bu_allBurnBySecondRule_2 (fu := fu) hQ i2 h
theorem xs_Bu_allBurnBySecondRule {fu : Nat} {k1 : Nat} {t : Tb} {r : Int} {t' : Tb} {Q : Int → Sto → Prop} (h : x_Bu_allBurnBySecondRule fu k1 t = some (r, t')) (hQ : Q r (tof t')) : K_Bu_allBurnBySecondRule k1 (tof t) Q := xt_Bu_allBurnBySecondRule_e (o := (r, t')) hQ (xl_Bu_allBurnBySecondRule hQ fu) h
def xb_Bu_hasBurnt_e (fu : Nat) (rec : Nat → List Int → List Nat → Tb → Option (Int × Tb)) (x1 : Int) (t : Tb) : Option (Int × Tb) := bnd (x_Gr_hasNode fu x1 t) fun r4 t3 => if -2147483648 ≤ r4 ∧ r4 < 2147483648 then if r4 = 0 then some (0, t3) else if 0 ≤ x1 ∧ x1 < 8 then if -2147483648 ≤ ((tof t3) 38 (Int.toNat x1)) ∧ ((tof t3) 38 (Int.toNat x1)) < 2147483648 then if ((tof t3) 38 (Int.toNat x1)) = (-1) then some (0, t3) else some (1, t3) else none else none else none
def x_Bu_hasBurnt (fu : Nat) (x1 : Int) (t : Tb) : Option (Int × Tb) := xb_Bu_hasBurnt_e fu (fun _ _ _ _ => none) x1 t
set_option maxRecDepth 20000 in
theorem xt_Bu_hasBurnt_e {fu : Nat} {rec : Nat → List Int → List Nat → Tb → Option (Int × Tb)} {o : Int × Tb} {Q : Int → Sto → Prop} (hQ : Q o.1 (tof o.2)) {x1 : Int} {t : Tb} (h0 : xb_Bu_hasBurnt_e fu rec x1 t = some o) : K_Bu_hasBurnt x1 (tof t) Q :=
  e_Bu_hasBurnt (xr_call h0 (fun _ _ hc => xs_Gr_hasNode hc ⟨rfl, rfl⟩) fun r4 t3 h1 => xr_and h1 fun _ h2 => xr_ite h2 (fun z => z) (fun h3 => xr_leaf h3 hQ) (fun h4 => xr_and h4 fun _ h5 => xr_and h5 fun _ h6 => xr_ite h6 (fun z => z) (fun h7 => xr_leaf h7 hQ) (fun h8 => xr_leaf h8 hQ)))
theorem xs_Bu_hasBurnt {fu : Nat} {x1 : Int} {t : Tb} {r : Int} {t' : Tb} {Q : Int → Sto → Prop} (h : x_Bu_hasBurnt fu x1 t = some (r, t')) (hQ : Q r (tof t')) : K_Bu_hasBurnt x1 (tof t) Q := xt_Bu_hasBurnt_e (o := (r, t')) hQ h
def xb_Cg_copyChips_2 (fu : Nat) (rec : Nat → List Int → List Nat → Tb → Option (Int × Tb)) (k0 : Nat) (k1 : Nat) (x2 : Int) (t : Tb) : Option (Int × Tb) := if arb SC k0 1 8 = true then if arb SC k1 1 8 = true then if -2147483648 ≤ x2 ∧ x2 < 2147483648 then if 8 ≤ x2 then some (0, t) else if -2147483648 ≤ x2 ∧ x2 < 2147483648 then if 8 ≤ x2 then some (0, t) else if 0 ≤ x2 ∧ x2 < 8 then if 0 ≤ x2 ∧ x2 < 8 then upB t k1 (Int.toNat x2) ((tof t) k0 (Int.toNat x2)) fun t7 => rec 2 [(x2 + 1)] [k0, k1] t7 else none else none else none else none else none else none
def xb_Cg_copyChips_e (fu : Nat) (rec : Nat → List Int → List Nat → Tb → Option (Int × Tb)) (k0 : Nat) (k1 : Nat) (t : Tb) : Option (Int × Tb) := if arb SC k0 1 8 = true then if arb SC k1 1 8 = true then rec 2 [0] [k0, k1] t else none else none
def xm_Cg_copyChips (fu : Nat) : Nat → Nat → List Int → List Nat → Tb → Option (Int × Tb)
  | 0, _, _, _, _ => none
  | n + 1, pc, a, ks, t => if pc = 2 then xb_Cg_copyChips_2 fu (xm_Cg_copyChips fu n) (ks.getD 0 0) (ks.getD 1 0) (a.getD 0 0) t else none
def x_Cg_copyChips (fu : Nat) (k0 : Nat) (k1 : Nat) (t : Tb) : Option (Int × Tb) := xb_Cg_copyChips_e fu (xm_Cg_copyChips fu fu) k0 k1 t
set_option maxRecDepth 20000 in
theorem xt_Cg_copyChips_2 {fu : Nat} {rec : Nat → List Int → List Nat → Tb → Option (Int × Tb)} {o : Int × Tb} {Q : Sto → Prop} (hQ : Q (tof o.2)) (hr_2 : ∀ (k0 : Nat) (k1 : Nat) (x2 : Int) (t : Tb), rec 2 [x2] [k0, k1] t = some o → H_Cg_copyChips_2 Q k0 k1 x2 (tof t)) {k0 : Nat} {k1 : Nat} {x2 : Int} {t : Tb} (h0 : xb_Cg_copyChips_2 fu rec k0 k1 x2 t = some o) : H_Cg_copyChips_2 Q k0 k1 x2 (tof t) := by
  unfold xb_Cg_copyChips_2 at h0
  obtain ⟨a0, h0⟩ := xr_and h0 (R := _ = some o) (fun _ z => z)
  obtain ⟨a1, h0⟩ := xr_and h0 (R := _ = some o) (fun _ z => z)
  exact b_Cg_copyChips_2 (arb_ar a0) (arb_ar a1) (xr_and h0 fun _ h1 => xr_ite h1 (fun z y => by omega) (fun h2 => xr_leafV h2 hQ) (fun h3 => xr_and h3 fun _ h4 => xr_ite h4 (fun z y => by omega) (fun h5 => xr_leafV h5 hQ) (fun h6 => xr_and h6 fun _ h7 => xr_and h7 fun _ h8 => xr_up h8 fun t7 h9 => hr_2 _ _ _ _ h9)))
set_option maxRecDepth 20000 in
theorem xt_Cg_copyChips_e {fu : Nat} {rec : Nat → List Int → List Nat → Tb → Option (Int × Tb)} {o : Int × Tb} {Q : Sto → Prop} (hQ : Q (tof o.2)) (hr_2 : ∀ (k0 : Nat) (k1 : Nat) (x2 : Int) (t : Tb), rec 2 [x2] [k0, k1] t = some o → H_Cg_copyChips_2 Q k0 k1 x2 (tof t)) {k0 : Nat} {k1 : Nat} {t : Tb} (h0 : xb_Cg_copyChips_e fu rec k0 k1 t = some o) : K_Cg_copyChips k0 k1 (tof t) Q := by
  unfold xb_Cg_copyChips_e at h0
  obtain ⟨a0, h0⟩ := xr_and h0 (R := _ = some o) (fun _ z => z)
  obtain ⟨a1, h0⟩ := xr_and h0 (R := _ = some o) (fun _ z => z)
  exact e_Cg_copyChips (arb_ar a0) (arb_ar a1) (hr_2 _ _ _ _ h0)
theorem xl_Cg_copyChips {fu : Nat} {o : Int × Tb} {Q : Sto → Prop} (hQ : Q (tof o.2)) : ∀ n : Nat, (∀ (k0 : Nat) (k1 : Nat) (x2 : Int) (t : Tb), xm_Cg_copyChips fu n 2 [x2] [k0, k1] t = some o → H_Cg_copyChips_2 Q k0 k1 x2 (tof t)) := by
  intro n
  induction n with
  | zero => exact fun _ _ _ _ h => (nomatch h)
  | succ n ih =>
    have i2 := ih
    exact fun _ _ _ _ h => xt_Cg_copyChips_2 (fu := fu) hQ i2 h
theorem xs_Cg_copyChips {fu : Nat} {k0 : Nat} {k1 : Nat} {t : Tb} {r : Int} {t' : Tb} {Q : Sto → Prop} (h : x_Cg_copyChips fu k0 k1 t = some (r, t')) (hQ : Q (tof t')) : K_Cg_copyChips k0 k1 (tof t) Q := xt_Cg_copyChips_e (o := (r, t')) hQ (xl_Cg_copyChips hQ fu) h
def xb_Cg_sumOf_4 (fu : Nat) (rec : Nat → List Int → List Nat → Tb → Option (Int × Tb)) (k0 : Nat) (x1 : Int) (x2 : Int) (t : Tb) : Option (Int × Tb) := if arb SC k0 1 8 = true then if -2147483648 ≤ x2 ∧ x2 < 2147483648 then if 8 ≤ x2 then some (x1, t) else if 0 ≤ x2 ∧ x2 < 8 then rec 4 [(x1 + ((tof t) k0 (Int.toNat x2))), (x2 + 1)] [k0] t else none else none else none
def xb_Cg_sumOf_e (fu : Nat) (rec : Nat → List Int → List Nat → Tb → Option (Int × Tb)) (k0 : Nat) (t : Tb) : Option (Int × Tb) := if arb SC k0 1 8 = true then rec 4 [0, 0] [k0] t else none
def xm_Cg_sumOf (fu : Nat) : Nat → Nat → List Int → List Nat → Tb → Option (Int × Tb)
  | 0, _, _, _, _ => none
  | n + 1, pc, a, ks, t => if pc = 4 then xb_Cg_sumOf_4 fu (xm_Cg_sumOf fu n) (ks.getD 0 0) (a.getD 0 0) (a.getD 1 0) t else none
def x_Cg_sumOf (fu : Nat) (k0 : Nat) (t : Tb) : Option (Int × Tb) := xb_Cg_sumOf_e fu (xm_Cg_sumOf fu fu) k0 t
set_option maxRecDepth 20000 in
theorem xt_Cg_sumOf_4 {fu : Nat} {rec : Nat → List Int → List Nat → Tb → Option (Int × Tb)} {o : Int × Tb} {Q : Int → Sto → Prop} (hQ : Q o.1 (tof o.2)) (hr_4 : ∀ (k0 : Nat) (x1 : Int) (x2 : Int) (t : Tb), rec 4 [x1, x2] [k0] t = some o → H_Cg_sumOf_4 Q k0 x1 x2 (tof t)) {k0 : Nat} {x1 : Int} {x2 : Int} {t : Tb} (h0 : xb_Cg_sumOf_4 fu rec k0 x1 x2 t = some o) : H_Cg_sumOf_4 Q k0 x1 x2 (tof t) := by
  unfold xb_Cg_sumOf_4 at h0
  obtain ⟨a0, h0⟩ := xr_and h0 (R := _ = some o) (fun _ z => z)
  exact b_Cg_sumOf_4 (arb_ar a0) (xr_and h0 fun _ h1 => xr_ite h1 (fun z y => by omega) (fun h2 => xr_leaf h2 hQ) (fun h3 => xr_and h3 fun _ h4 => hr_4 _ _ _ _ h4))
set_option maxRecDepth 20000 in
theorem xt_Cg_sumOf_e {fu : Nat} {rec : Nat → List Int → List Nat → Tb → Option (Int × Tb)} {o : Int × Tb} {Q : Int → Sto → Prop} (hQ : Q o.1 (tof o.2)) (hr_4 : ∀ (k0 : Nat) (x1 : Int) (x2 : Int) (t : Tb), rec 4 [x1, x2] [k0] t = some o → H_Cg_sumOf_4 Q k0 x1 x2 (tof t)) {k0 : Nat} {t : Tb} (h0 : xb_Cg_sumOf_e fu rec k0 t = some o) : K_Cg_sumOf k0 (tof t) Q := by
  unfold xb_Cg_sumOf_e at h0
  obtain ⟨a0, h0⟩ := xr_and h0 (R := _ = some o) (fun _ z => z)
  exact e_Cg_sumOf (arb_ar a0) (hr_4 _ _ _ _ h0)
theorem xl_Cg_sumOf {fu : Nat} {o : Int × Tb} {Q : Int → Sto → Prop} (hQ : Q o.1 (tof o.2)) : ∀ n : Nat, (∀ (k0 : Nat) (x1 : Int) (x2 : Int) (t : Tb), xm_Cg_sumOf fu n 4 [x1, x2] [k0] t = some o → H_Cg_sumOf_4 Q k0 x1 x2 (tof t)) := by
  intro n
  induction n with
  | zero => exact fun _ _ _ _ h => (nomatch h)
  | succ n ih =>
    have i4 := ih
    exact fun _ _ _ _ h => xt_Cg_sumOf_4 (fu := fu) hQ i4 h
theorem xs_Cg_sumOf {fu : Nat} {k0 : Nat} {t : Tb} {r : Int} {t' : Tb} {Q : Int → Sto → Prop} (h : x_Cg_sumOf fu k0 t = some (r, t')) (hQ : Q r (tof t')) : K_Cg_sumOf k0 (tof t) Q := xt_Cg_sumOf_e (o := (r, t')) hQ (xl_Cg_sumOf hQ fu) h
def xj_Hi_record_e_J7 (fu : Nat) (rec : Nat → List Int → List Nat → Tb → Option (Int × Tb)) (k1 : Nat) (t6 : Tb) : Option (Int × Tb) := if -2147483648 ≤ (((tof t6) 17 1) + ((tof t6) 17 0)) ∧ (((tof t6) 17 1) + ((tof t6) 17 0)) < 2147483648 then if 0 ≤ (Int.tmod (((tof t6) 17 1) + ((tof t6) 17 0)) 12) ∧ (Int.tmod (((tof t6) 17 1) + ((tof t6) 17 0)) 12) < 12 then bnd (x_Cg_copyChips fu k1 (19 + Int.toNat (Int.tmod (((tof t6) 17 1) + ((tof t6) 17 0)) 12)) t6) fun _ t14 => upB t14 17 0 (((tof t14) 17 0) + 1) fun t17 => some (0, t17) else none else none
def xb_Hi_record_e (fu : Nat) (rec : Nat → List Int → List Nat → Tb → Option (Int × Tb)) (k1 : Nat) (t : Tb) : Option (Int × Tb) := if arb SC k1 1 8 = true then if -2147483648 ≤ ((tof t) 17 0) ∧ ((tof t) 17 0) < 2147483648 then if ¬ ((tof t) 17 0) = 12 then xj_Hi_record_e_J7 fu rec k1 t else if -2147483648 ≤ (((tof t) 17 1) + 1) ∧ (((tof t) 17 1) + 1) < 2147483648 then upB t 17 1 (Int.tmod (((tof t) 17 1) + 1) 12) fun t21 => upB t21 17 0 (((tof t21) 17 0) - 1) fun t22 => xj_Hi_record_e_J7 fu rec k1 t22 else none else none else none
def x_Hi_record (fu : Nat) (k1 : Nat) (t : Tb) : Option (Int × Tb) := xb_Hi_record_e fu (fun _ _ _ _ => none) k1 t
set_option maxRecDepth 20000 in
theorem xt_Hi_record_e {fu : Nat} {rec : Nat → List Int → List Nat → Tb → Option (Int × Tb)} {o : Int × Tb} {Q : Sto → Prop} (hQ : Q (tof o.2)) {k1 : Nat} {t : Tb} (h0 : xb_Hi_record_e fu rec k1 t = some o) : K_Hi_record k1 (tof t) Q := by
  unfold xb_Hi_record_e at h0
  obtain ⟨a0, h0⟩ := xr_and h0 (R := _ = some o) (fun _ z => z)
  exact e_Hi_record (arb_ar a0) (⟨fun s6 => ∃ t6, s6 = tof t6 ∧ xj_Hi_record_e_J7 fu rec k1 t6 = some o, fun s6 h1 => (by obtain ⟨t6, rfl, h2⟩ := h1; exact xr_and h2 fun _ h3 => xr_and h3 fun _ h4 => xr_callV h4 (fun _ _ hc => xs_Cg_copyChips hc rfl) fun _ t14 h5 => xr_up h5 fun t17 h6 => xr_leafV h6 hQ), xr_and h0 fun _ h7 => xr_ite h7 (fun z y => y z) (fun h8 => ⟨_, rfl, h8⟩) (fun h9 => xr_and h9 fun _ h10 => xr_up h10 fun t21 h11 => xr_up h11 fun t22 h12 => ⟨_, rfl, h12⟩)⟩)
theorem xs_Hi_record {fu : Nat} {k1 : Nat} {t : Tb} {r : Int} {t' : Tb} {Q : Sto → Prop} (h : x_Hi_record fu k1 t = some (r, t')) (hQ : Q (tof t')) : K_Hi_record k1 (tof t) Q := xt_Hi_record_e (o := (r, t')) hQ h
def xb_Sl_has_e (fu : Nat) (rec : Nat → List Int → List Nat → Tb → Option (Int × Tb)) (x1 : Int) (t : Tb) : Option (Int × Tb) := if -2147483648 ≤ x1 ∧ x1 < 2147483648 then if x1 < 0 then some (0, t) else if -2147483648 ≤ x1 ∧ x1 < 2147483648 then if 3 ≤ x1 then some (0, t) else some (1, t) else none else none
def x_Sl_has (fu : Nat) (x1 : Int) (t : Tb) : Option (Int × Tb) := xb_Sl_has_e fu (fun _ _ _ _ => none) x1 t
set_option maxRecDepth 20000 in
theorem xt_Sl_has_e {fu : Nat} {rec : Nat → List Int → List Nat → Tb → Option (Int × Tb)} {o : Int × Tb} {Q : Int → Sto → Prop} (hQ : Q o.1 (tof o.2)) {x1 : Int} {t : Tb} (h0 : xb_Sl_has_e fu rec x1 t = some o) : K_Sl_has x1 (tof t) Q :=
  e_Sl_has (xr_and h0 fun _ h1 => xr_ite h1 (fun z y => by omega) (fun h2 => xr_leaf h2 hQ) (fun h3 => xr_and h3 fun _ h4 => xr_ite h4 (fun z y => by omega) (fun h5 => xr_leaf h5 hQ) (fun h6 => xr_leaf h6 hQ)))
theorem xs_Sl_has {fu : Nat} {x1 : Int} {t : Tb} {r : Int} {t' : Tb} {Q : Int → Sto → Prop} (h : x_Sl_has fu x1 t = some (r, t')) (hQ : Q r (tof t')) : K_Sl_has x1 (tof t) Q := xt_Sl_has_e (o := (r, t')) hQ h
def xb_Sl_copyTo_e (fu : Nat) (rec : Nat → List Int → List Nat → Tb → Option (Int × Tb)) (x1 : Int) (k2 : Nat) (t : Tb) : Option (Int × Tb) := if arb SC k2 1 8 = true then bnd (x_Sl_has fu x1 t) fun r4 t3 => if -2147483648 ≤ r4 ∧ r4 < 2147483648 then if r4 = 0 then some (0, t3) else if 0 ≤ x1 ∧ x1 < 3 then bnd (x_Cg_copyChips fu (34 + Int.toNat x1) k2 t3) fun _ t11 => some (0, t11) else none else none else none
def x_Sl_copyTo (fu : Nat) (x1 : Int) (k2 : Nat) (t : Tb) : Option (Int × Tb) := xb_Sl_copyTo_e fu (fun _ _ _ _ => none) x1 k2 t
set_option maxRecDepth 20000 in
theorem xt_Sl_copyTo_e {fu : Nat} {rec : Nat → List Int → List Nat → Tb → Option (Int × Tb)} {o : Int × Tb} {Q : Sto → Prop} (hQ : Q (tof o.2)) {x1 : Int} {k2 : Nat} {t : Tb} (h0 : xb_Sl_copyTo_e fu rec x1 k2 t = some o) : K_Sl_copyTo x1 k2 (tof t) Q := by
  unfold xb_Sl_copyTo_e at h0
  obtain ⟨a0, h0⟩ := xr_and h0 (R := _ = some o) (fun _ z => z)
  exact e_Sl_copyTo (arb_ar a0) (xr_call h0 (fun _ _ hc => xs_Sl_has hc ⟨rfl, rfl⟩) fun r4 t3 h1 => xr_and h1 fun _ h2 => xr_ite h2 (fun z => z) (fun h3 => xr_leafV h3 hQ) (fun h4 => xr_and h4 fun _ h5 => xr_callV h5 (fun _ _ hc => xs_Cg_copyChips hc rfl) fun _ t11 h6 => xr_leafV h6 hQ))
theorem xs_Sl_copyTo {fu : Nat} {x1 : Int} {k2 : Nat} {t : Tb} {r : Int} {t' : Tb} {Q : Sto → Prop} (h : x_Sl_copyTo fu x1 k2 t = some (r, t')) (hQ : Q (tof t')) : K_Sl_copyTo x1 k2 (tof t) Q := xt_Sl_copyTo_e (o := (r, t')) hQ h
def xb_Sl_isEmpty_e (fu : Nat) (rec : Nat → List Int → List Nat → Tb → Option (Int × Tb)) (x1 : Int) (t : Tb) : Option (Int × Tb) := bnd (x_Sl_has fu x1 t) fun r4 t3 => if -2147483648 ≤ r4 ∧ r4 < 2147483648 then if r4 = 0 then some (1, t3) else if 0 ≤ x1 ∧ x1 < 3 then if -2147483648 ≤ ((tof t3) 32 (Int.toNat x1)) ∧ ((tof t3) 32 (Int.toNat x1)) < 2147483648 then if ¬ ((tof t3) 32 (Int.toNat x1)) = 0 then some (0, t3) else some (1, t3) else none else none else none
def x_Sl_isEmpty (fu : Nat) (x1 : Int) (t : Tb) : Option (Int × Tb) := xb_Sl_isEmpty_e fu (fun _ _ _ _ => none) x1 t
set_option maxRecDepth 20000 in
theorem xt_Sl_isEmpty_e {fu : Nat} {rec : Nat → List Int → List Nat → Tb → Option (Int × Tb)} {o : Int × Tb} {Q : Int → Sto → Prop} (hQ : Q o.1 (tof o.2)) {x1 : Int} {t : Tb} (h0 : xb_Sl_isEmpty_e fu rec x1 t = some o) : K_Sl_isEmpty x1 (tof t) Q :=
  e_Sl_isEmpty (xr_call h0 (fun _ _ hc => xs_Sl_has hc ⟨rfl, rfl⟩) fun r4 t3 h1 => xr_and h1 fun _ h2 => xr_ite h2 (fun z => z) (fun h3 => xr_leaf h3 hQ) (fun h4 => xr_and h4 fun _ h5 => xr_and h5 fun _ h6 => xr_ite h6 (fun z y => y z) (fun h7 => xr_leaf h7 hQ) (fun h8 => xr_leaf h8 hQ)))
theorem xs_Sl_isEmpty {fu : Nat} {x1 : Int} {t : Tb} {r : Int} {t' : Tb} {Q : Int → Sto → Prop} (h : x_Sl_isEmpty fu x1 t = some (r, t')) (hQ : Q r (tof t')) : K_Sl_isEmpty x1 (tof t) Q := xt_Sl_isEmpty_e (o := (r, t')) hQ h
def xb_Cg_add_44 (fu : Nat) (rec : Nat → List Int → List Nat → Tb → Option (Int × Tb)) (x2 : Int) (t : Tb) : Option (Int × Tb) := if -2147483648 ≤ x2 ∧ x2 < 2147483648 then if 8 ≤ x2 then bnd (x_Hi_record fu 187 t) fun _ t24 => bnd (x_Cg_copyChips fu 188 187 t24) fun _ t29 => bnd (x_Cg_sumOf fu 187 t29) fun r35 t34 => some (r35, t34) else if 0 ≤ x2 ∧ x2 < 8 then if 0 ≤ x2 ∧ x2 < 8 then if 0 ≤ x2 ∧ x2 < 8 then upB t 188 (Int.toNat x2) (((tof t) 188 (Int.toNat x2)) + ((tof t) 187 (Int.toNat x2))) fun t40 => if 0 ≤ x2 ∧ x2 < 8 then if -2147483648 ≤ ((tof t40) 188 (Int.toNat x2)) ∧ ((tof t40) 188 (Int.toNat x2)) < 2147483648 then if ((tof t40) 188 (Int.toNat x2)) ≤ 2000 then rec 44 [(x2 + 1)] [] t40 else some ((-10005), t40) else none else none else none else none else none else none
def xb_Cg_add_e (fu : Nat) (rec : Nat → List Int → List Nat → Tb → Option (Int × Tb)) (x1 : Int) (t : Tb) : Option (Int × Tb) := bnd (x_Sl_has fu x1 t) fun r4 t3 => if -2147483648 ≤ r4 ∧ r4 < 2147483648 then if ¬ r4 = 0 then bnd (x_Sl_isEmpty fu x1 t3) fun r11 t10 => if -2147483648 ≤ r11 ∧ r11 < 2147483648 then if r11 = 0 then bnd (x_Sl_copyTo fu x1 188 t10) fun _ t17 => rec 44 [0] [] t17 else some ((-10004), t10) else none else some ((-10001), t3) else none
def xm_Cg_add (fu : Nat) : Nat → Nat → List Int → List Nat → Tb → Option (Int × Tb)
  | 0, _, _, _, _ => none
  | n + 1, pc, a, ks, t => if pc = 44 then xb_Cg_add_44 fu (xm_Cg_add fu n) (a.getD 0 0) t else none
def x_Cg_add (fu : Nat) (x1 : Int) (t : Tb) : Option (Int × Tb) := xb_Cg_add_e fu (xm_Cg_add fu fu) x1 t
set_option maxRecDepth 20000 in
theorem xt_Cg_add_44 {fu : Nat} {rec : Nat → List Int → List Nat → Tb → Option (Int × Tb)} {o : Int × Tb} {Q : Int → Sto → Prop} (hQ : Q o.1 (tof o.2)) (hr_44 : ∀ (x2 : Int) (t : Tb), rec 44 [x2] [] t = some o → H_Cg_add_44 Q x2 (tof t)) {x2 : Int} {t : Tb} (h0 : xb_Cg_add_44 fu rec x2 t = some o) : H_Cg_add_44 Q x2 (tof t) :=
  b_Cg_add_44 (xr_and h0 fun _ h1 => xr_ite h1 (fun z y => by omega) (fun h2 => xr_callV h2 (fun _ _ hc => xs_Hi_record hc rfl) fun _ t24 h4 => xr_callV h4 (fun _ _ hc => xs_Cg_copyChips hc rfl) fun _ t29 h5 => xr_call h5 (fun _ _ hc => xs_Cg_sumOf hc ⟨rfl, rfl⟩) fun r35 t34 h6 => xr_leaf h6 hQ) (fun h3 => xr_and h3 fun _ h7 => xr_and h7 fun _ h8 => xr_and h8 fun _ h9 => xr_up h9 fun t40 h10 => xr_and h10 fun _ h11 => xr_and h11 fun _ h12 => xr_ite h12 (fun z y => by omega) (fun h13 => hr_44 _ _ h13) (fun h14 => xr_leaf h14 hQ)))
set_option maxRecDepth 20000 in
theorem xt_Cg_add_e {fu : Nat} {rec : Nat → List Int → List Nat → Tb → Option (Int × Tb)} {o : Int × Tb} {Q : Int → Sto → Prop} (hQ : Q o.1 (tof o.2)) (hr_44 : ∀ (x2 : Int) (t : Tb), rec 44 [x2] [] t = some o → H_Cg_add_44 Q x2 (tof t)) {x1 : Int} {t : Tb} (h0 : xb_Cg_add_e fu rec x1 t = some o) : K_Cg_add x1 (tof t) Q :=
  e_Cg_add (xr_call h0 (fun _ _ hc => xs_Sl_has hc ⟨rfl, rfl⟩) fun r4 t3 h15 => xr_and h15 fun _ h16 => xr_ite h16 (fun z y => y z) (fun h17 => xr_call h17 (fun _ _ hc => xs_Sl_isEmpty hc ⟨rfl, rfl⟩) fun r11 t10 h19 => xr_and h19 fun _ h20 => xr_ite h20 (fun z => z) (fun h21 => xr_callV h21 (fun _ _ hc => xs_Sl_copyTo hc rfl) fun _ t17 h23 => hr_44 _ _ h23) (fun h22 => xr_leaf h22 hQ)) (fun h18 => xr_leaf h18 hQ))
theorem xl_Cg_add {fu : Nat} {o : Int × Tb} {Q : Int → Sto → Prop} (hQ : Q o.1 (tof o.2)) : ∀ n : Nat, (∀ (x2 : Int) (t : Tb), xm_Cg_add fu n 44 [x2] [] t = some o → H_Cg_add_44 Q x2 (tof t)) := by
  intro n
  induction n with
  | zero => exact fun _ _ h => (nomatch h)
  | succ n ih =>
    have i44 := ih
    exact fun _ _ h => xt_Cg_add_44 (fu := fu) hQ i44 h
theorem xs_Cg_add {fu : Nat} {x1 : Int} {t : Tb} {r : Int} {t' : Tb} {Q : Int → Sto → Prop} (h : x_Cg_add fu x1 t = some (r, t')) (hQ : Q r (tof t')) : K_Cg_add x1 (tof t) Q := xt_Cg_add_e (o := (r, t')) hQ (xl_Cg_add hQ fu) h
def xb_Hi_forgetAll_e (fu : Nat) (rec : Nat → List Int → List Nat → Tb → Option (Int × Tb)) (t : Tb) : Option (Int × Tb) := upB t 17 0 0 fun t1 => upB t1 17 1 0 fun t2 => some (0, t2)
def x_Hi_forgetAll (fu : Nat) (t : Tb) : Option (Int × Tb) := xb_Hi_forgetAll_e fu (fun _ _ _ _ => none) t
set_option maxRecDepth 20000 in
theorem xt_Hi_forgetAll_e {fu : Nat} {rec : Nat → List Int → List Nat → Tb → Option (Int × Tb)} {o : Int × Tb} {Q : Sto → Prop} (hQ : Q (tof o.2)) {t : Tb} (h0 : xb_Hi_forgetAll_e fu rec t = some o) : K_Hi_forgetAll (tof t) Q :=
  e_Hi_forgetAll (xr_up h0 fun t1 h1 => xr_up h1 fun t2 h2 => xr_leafV h2 hQ)
theorem xs_Hi_forgetAll {fu : Nat} {t : Tb} {r : Int} {t' : Tb} {Q : Sto → Prop} (h : x_Hi_forgetAll fu t = some (r, t')) (hQ : Q (tof t')) : K_Hi_forgetAll (tof t) Q := xt_Hi_forgetAll_e (o := (r, t')) hQ h
def xb_Sl_forgetAll_2 (fu : Nat) (rec : Nat → List Int → List Nat → Tb → Option (Int × Tb)) (x1 : Int) (t : Tb) : Option (Int × Tb) := if -2147483648 ≤ x1 ∧ x1 < 2147483648 then if 3 ≤ x1 then some (0, t) else if 0 ≤ x1 ∧ x1 < 3 then upB t 32 (Int.toNat x1) 0 fun t4 => rec 2 [(x1 + 1)] [] t4 else none else none
def xb_Sl_forgetAll_e (fu : Nat) (rec : Nat → List Int → List Nat → Tb → Option (Int × Tb)) (t : Tb) : Option (Int × Tb) := rec 2 [0] [] t
def xm_Sl_forgetAll (fu : Nat) : Nat → Nat → List Int → List Nat → Tb → Option (Int × Tb)
  | 0, _, _, _, _ => none
  | n + 1, pc, a, ks, t => if pc = 2 then xb_Sl_forgetAll_2 fu (xm_Sl_forgetAll fu n) (a.getD 0 0) t else none
def x_Sl_forgetAll (fu : Nat) (t : Tb) : Option (Int × Tb) := xb_Sl_forgetAll_e fu (xm_Sl_forgetAll fu fu) t
set_option maxRecDepth 20000 in
theorem xt_Sl_forgetAll_2 {fu : Nat} {rec : Nat → List Int → List Nat → Tb → Option (Int × Tb)} {o : Int × Tb} {Q : Sto → Prop} (hQ : Q (tof o.2)) (hr_2 : ∀ (x1 : Int) (t : Tb), rec 2 [x1] [] t = some o → H_Sl_forgetAll_2 Q x1 (tof t)) {x1 : Int} {t : Tb} (h0 : xb_Sl_forgetAll_2 fu rec x1 t = some o) : H_Sl_forgetAll_2 Q x1 (tof t) :=
  b_Sl_forgetAll_2 (xr_and h0 fun _ h1 => xr_ite h1 (fun z y => by omega) (fun h2 => xr_leafV h2 hQ) (fun h3 => xr_and h3 fun _ h4 => xr_up h4 fun t4 h5 => hr_2 _ _ h5))
set_option maxRecDepth 20000 in
theorem xt_Sl_forgetAll_e {fu : Nat} {rec : Nat → List Int → List Nat → Tb → Option (Int × Tb)} {o : Int × Tb} {Q : Sto → Prop} (hQ : Q (tof o.2)) (hr_2 : ∀ (x1 : Int) (t : Tb), rec 2 [x1] [] t = some o → H_Sl_forgetAll_2 Q x1 (tof t)) {t : Tb} (h0 : xb_Sl_forgetAll_e fu rec t = some o) : K_Sl_forgetAll (tof t) Q :=
  e_Sl_forgetAll (hr_2 _ _ h0)
theorem xl_Sl_forgetAll {fu : Nat} {o : Int × Tb} {Q : Sto → Prop} (hQ : Q (tof o.2)) : ∀ n : Nat, (∀ (x1 : Int) (t : Tb), xm_Sl_forgetAll fu n 2 [x1] [] t = some o → H_Sl_forgetAll_2 Q x1 (tof t)) := by
  intro n
  induction n with
  | zero => exact fun _ _ h => (nomatch h)
  | succ n ih =>
    have i2 := ih
    exact fun _ _ h => xt_Sl_forgetAll_2 (fu := fu) hQ i2 h
theorem xs_Sl_forgetAll {fu : Nat} {t : Tb} {r : Int} {t' : Tb} {Q : Sto → Prop} (h : x_Sl_forgetAll fu t = some (r, t')) (hQ : Q (tof t')) : K_Sl_forgetAll (tof t) Q := xt_Sl_forgetAll_e (o := (r, t')) hQ (xl_Sl_forgetAll hQ fu) h
def xb_Cg_forgetStates_e (fu : Nat) (rec : Nat → List Int → List Nat → Tb → Option (Int × Tb)) (t : Tb) : Option (Int × Tb) := bnd (x_Hi_forgetAll fu t) fun _ t3 => bnd (x_Sl_forgetAll fu t3) fun _ t8 => some (0, t8)
def x_Cg_forgetStates (fu : Nat) (t : Tb) : Option (Int × Tb) := xb_Cg_forgetStates_e fu (fun _ _ _ _ => none) t
set_option maxRecDepth 20000 in
theorem xt_Cg_forgetStates_e {fu : Nat} {rec : Nat → List Int → List Nat → Tb → Option (Int × Tb)} {o : Int × Tb} {Q : Sto → Prop} (hQ : Q (tof o.2)) {t : Tb} (h0 : xb_Cg_forgetStates_e fu rec t = some o) : K_Cg_forgetStates (tof t) Q :=
  e_Cg_forgetStates (xr_callV h0 (fun _ _ hc => xs_Hi_forgetAll hc rfl) fun _ t3 h1 => xr_callV h1 (fun _ _ hc => xs_Sl_forgetAll hc rfl) fun _ t8 h2 => xr_leafV h2 hQ)
theorem xs_Cg_forgetStates {fu : Nat} {t : Tb} {r : Int} {t' : Tb} {Q : Sto → Prop} (h : x_Cg_forgetStates fu t = some (r, t')) (hQ : Q (tof t')) : K_Cg_forgetStates (tof t) Q := xt_Cg_forgetStates_e (o := (r, t')) hQ h
def xb_Gr_countJoining_e (fu : Nat) (rec : Nat → List Int → List Nat → Tb → Option (Int × Tb)) (x1 : Int) (x2 : Int) (x3 : Int) (t : Tb) : Option (Int × Tb) := bnd (x_Gr_hasNode fu x1 t) fun r4 t3 => if -2147483648 ≤ r4 ∧ r4 < 2147483648 then if r4 = 0 then some (0, t3) else bnd (x_Gr_hasNode fu x2 t3) fun r11 t10 => if -2147483648 ≤ r11 ∧ r11 < 2147483648 then if ¬ r11 = 0 then if 0 ≤ x1 ∧ x1 < 8 then if 0 ≤ x2 ∧ x2 < 8 then if 0 ≤ x2 ∧ x2 < 8 then upB t10 (5 + Int.toNat x1) (Int.toNat x2) (((tof t10) (5 + Int.toNat x1) (Int.toNat x2)) + x3) fun t18 => if 0 ≤ x2 ∧ x2 < 8 then if 0 ≤ x1 ∧ x1 < 8 then if 0 ≤ x1 ∧ x1 < 8 then upB t18 (5 + Int.toNat x2) (Int.toNat x1) (((tof t18) (5 + Int.toNat x2) (Int.toNat x1)) + x3) fun t22 => if 0 ≤ x1 ∧ x1 < 8 then if 0 ≤ x1 ∧ x1 < 8 then upB t22 13 (Int.toNat x1) (((tof t22) 13 (Int.toNat x1)) + x3) fun t25 => if 0 ≤ x2 ∧ x2 < 8 then if 0 ≤ x2 ∧ x2 < 8 then upB t25 13 (Int.toNat x2) (((tof t25) 13 (Int.toNat x2)) + x3) fun t28 => some (0, t28) else none else none else none else none else none else none else none else none else none else none else some (0, t10) else none else none
def x_Gr_countJoining (fu : Nat) (x1 : Int) (x2 : Int) (x3 : Int) (t : Tb) : Option (Int × Tb) := xb_Gr_countJoining_e fu (fun _ _ _ _ => none) x1 x2 x3 t
set_option maxRecDepth 20000 in
theorem xt_Gr_countJoining_e {fu : Nat} {rec : Nat → List Int → List Nat → Tb → Option (Int × Tb)} {o : Int × Tb} {Q : Sto → Prop} (hQ : Q (tof o.2)) {x1 : Int} {x2 : Int} {x3 : Int} {t : Tb} (h0 : xb_Gr_countJoining_e fu rec x1 x2 x3 t = some o) : K_Gr_countJoining x1 x2 x3 (tof t) Q :=
  e_Gr_countJoining (xr_call h0 (fun _ _ hc => xs_Gr_hasNode hc ⟨rfl, rfl⟩) fun r4 t3 h1 => xr_and h1 fun _ h2 => xr_ite h2 (fun z => z) (fun h3 => xr_leafV h3 hQ) (fun h4 => xr_call h4 (fun _ _ hc => xs_Gr_hasNode hc ⟨rfl, rfl⟩) fun r11 t10 h5 => xr_and h5 fun _ h6 => xr_ite h6 (fun z y => y z) (fun h7 => xr_and h7 fun _ h9 => xr_and h9 fun _ h10 => xr_and h10 fun _ h11 => xr_up h11 fun t18 h12 => xr_and h12 fun _ h13 => xr_and h13 fun _ h14 => xr_and h14 fun _ h15 => xr_up h15 fun t22 h16 => xr_and h16 fun _ h17 => xr_and h17 fun _ h18 => xr_up h18 fun t25 h19 => xr_and h19 fun _ h20 => xr_and h20 fun _ h21 => xr_up h21 fun t28 h22 => xr_leafV h22 hQ) (fun h8 => xr_leafV h8 hQ)))
theorem xs_Gr_countJoining {fu : Nat} {x1 : Int} {x2 : Int} {x3 : Int} {t : Tb} {r : Int} {t' : Tb} {Q : Sto → Prop} (h : x_Gr_countJoining fu x1 x2 x3 t = some (r, t')) (hQ : Q (tof t')) : K_Gr_countJoining x1 x2 x3 (tof t) Q := xt_Gr_countJoining_e (o := (r, t')) hQ h
def xb_Gr_append_e (fu : Nat) (rec : Nat → List Int → List Nat → Tb → Option (Int × Tb)) (x1 : Int) (x2 : Int) (t : Tb) : Option (Int × Tb) := bnd (x_Gr_hasNode fu x1 t) fun r4 t3 => if -2147483648 ≤ r4 ∧ r4 < 2147483648 then if r4 = 0 then some (0, t3) else bnd (x_Gr_hasNode fu x2 t3) fun r11 t10 => if -2147483648 ≤ r11 ∧ r11 < 2147483648 then if r11 = 0 then some (0, t10) else if -2147483648 ≤ ((tof t10) 1 1) ∧ ((tof t10) 1 1) < 2147483648 then if ((tof t10) 1 1) < 0 then some (0, t10) else if -2147483648 ≤ ((tof t10) 1 1) ∧ ((tof t10) 1 1) < 2147483648 then if ((tof t10) 1 1) < 20 then if 0 ≤ ((tof t10) 1 1) ∧ ((tof t10) 1 1) < 20 then upB t10 2 (Int.toNat ((tof t10) 1 1)) x1 fun t20 => if 0 ≤ ((tof t20) 1 1) ∧ ((tof t20) 1 1) < 20 then upB t20 3 (Int.toNat ((tof t20) 1 1)) x2 fun t22 => upB t22 1 1 (((tof t22) 1 1) + 1) fun t23 => bnd (x_Gr_countJoining fu x1 x2 1 t23) fun _ t26 => some (0, t26) else none else none else some (0, t10) else none else none else none else none
def x_Gr_append (fu : Nat) (x1 : Int) (x2 : Int) (t : Tb) : Option (Int × Tb) := xb_Gr_append_e fu (fun _ _ _ _ => none) x1 x2 t
set_option maxRecDepth 20000 in
theorem xt_Gr_append_e {fu : Nat} {rec : Nat → List Int → List Nat → Tb → Option (Int × Tb)} {o : Int × Tb} {Q : Sto → Prop} (hQ : Q (tof o.2)) {x1 : Int} {x2 : Int} {t : Tb} (h0 : xb_Gr_append_e fu rec x1 x2 t = some o) : K_Gr_append x1 x2 (tof t) Q :=
  e_Gr_append (xr_call h0 (fun _ _ hc => xs_Gr_hasNode hc ⟨rfl, rfl⟩) fun r4 t3 h1 => xr_and h1 fun _ h2 => xr_ite h2 (fun z => z) (fun h3 => xr_leafV h3 hQ) (fun h4 => xr_call h4 (fun _ _ hc => xs_Gr_hasNode hc ⟨rfl, rfl⟩) fun r11 t10 h5 => xr_and h5 fun _ h6 => xr_ite h6 (fun z => z) (fun h7 => xr_leafV h7 hQ) (fun h8 => xr_and h8 fun _ h9 => xr_ite h9 (fun z y => by omega) (fun h10 => xr_leafV h10 hQ) (fun h11 => xr_and h11 fun _ h12 => xr_ite h12 (fun z y => by omega) (fun h13 => xr_and h13 fun _ h15 => xr_up h15 fun t20 h16 => xr_and h16 fun _ h17 => xr_up h17 fun t22 h18 => xr_up h18 fun t23 h19 => xr_callV h19 (fun _ _ hc => xs_Gr_countJoining hc rfl) fun _ t26 h20 => xr_leafV h20 hQ) (fun h14 => xr_leafV h14 hQ)))))
theorem xs_Gr_append {fu : Nat} {x1 : Int} {x2 : Int} {t : Tb} {r : Int} {t' : Tb} {Q : Sto → Prop} (h : x_Gr_append fu x1 x2 t = some (r, t')) (hQ : Q (tof t')) : K_Gr_append x1 x2 (tof t) Q := xt_Gr_append_e (o := (r, t')) hQ h
def xb_Cg_addEdge_e (fu : Nat) (rec : Nat → List Int → List Nat → Tb → Option (Int × Tb)) (x1 : Int) (x2 : Int) (t : Tb) : Option (Int × Tb) := bnd (x_Gr_hasNode fu x1 t) fun r4 t3 => if -2147483648 ≤ r4 ∧ r4 < 2147483648 then if r4 = 0 then some ((-10001), t3) else bnd (x_Gr_hasNode fu x2 t3) fun r11 t10 => if -2147483648 ≤ r11 ∧ r11 < 2147483648 then if ¬ r11 = 0 then if (-2147483648 ≤ x1 ∧ x1 < 2147483648) ∧ -2147483648 ≤ x2 ∧ x2 < 2147483648 then if ¬ x1 = x2 then if -2147483648 ≤ ((tof t10) 1 1) ∧ ((tof t10) 1 1) < 2147483648 then if ((tof t10) 1 1) < 20 then bnd (x_Gr_append fu x1 x2 t10) fun _ t21 => bnd (x_Cg_forgetStates fu t21) fun _ t26 => some ((((tof t26) 1 1) - 1), t26) else some ((-10005), t10) else none else some ((-10002), t10) else none else some ((-10001), t10) else none else none
def x_Cg_addEdge (fu : Nat) (x1 : Int) (x2 : Int) (t : Tb) : Option (Int × Tb) := xb_Cg_addEdge_e fu (fun _ _ _ _ => none) x1 x2 t
set_option maxRecDepth 20000 in
theorem xt_Cg_addEdge_e {fu : Nat} {rec : Nat → List Int → List Nat → Tb → Option (Int × Tb)} {o : Int × Tb} {Q : Int → Sto → Prop} (hQ : Q o.1 (tof o.2)) {x1 : Int} {x2 : Int} {t : Tb} (h0 : xb_Cg_addEdge_e fu rec x1 x2 t = some o) : K_Cg_addEdge x1 x2 (tof t) Q :=
  e_Cg_addEdge (xr_call h0 (fun _ _ hc => xs_Gr_hasNode hc ⟨rfl, rfl⟩) fun r4 t3 h1 => xr_and h1 fun _ h2 => xr_ite h2 (fun z => z) (fun h3 => xr_leaf h3 hQ) (fun h4 => xr_call h4 (fun _ _ hc => xs_Gr_hasNode hc ⟨rfl, rfl⟩) fun r11 t10 h5 => xr_and h5 fun _ h6 => xr_ite h6 (fun z y => y z) (fun h7 => xr_and h7 fun _ h9 => xr_ite h9 (fun z y => y z) (fun h10 => xr_and h10 fun _ h12 => xr_ite h12 (fun z y => by omega) (fun h13 => xr_callV h13 (fun _ _ hc => xs_Gr_append hc rfl) fun _ t21 h15 => xr_callV h15 (fun _ _ hc => xs_Cg_forgetStates hc rfl) fun _ t26 h16 => xr_leaf h16 hQ) (fun h14 => xr_leaf h14 hQ)) (fun h11 => xr_leaf h11 hQ)) (fun h8 => xr_leaf h8 hQ)))
theorem xs_Cg_addEdge {fu : Nat} {x1 : Int} {x2 : Int} {t : Tb} {r : Int} {t' : Tb} {Q : Int → Sto → Prop} (h : x_Cg_addEdge fu x1 x2 t = some (r, t')) (hQ : Q r (tof t')) : K_Cg_addEdge x1 x2 (tof t) Q := xt_Cg_addEdge_e (o := (r, t')) hQ h
def xb_Cg_burnt_e (fu : Nat) (rec : Nat → List Int → List Nat → Tb → Option (Int × Tb)) (x1 : Int) (t : Tb) : Option (Int × Tb) := bnd (x_Gr_hasNode fu x1 t) fun r4 t3 => if -2147483648 ≤ r4 ∧ r4 < 2147483648 then if ¬ r4 = 0 then bnd (x_Bu_allBurn fu 187 t3) fun r11 t10 => bnd (x_Bu_hasBurnt fu x1 t10) fun r16 t15 => if -2147483648 ≤ r16 ∧ r16 < 2147483648 then if r16 = 0 then some ((-10007), t15) else if 0 ≤ x1 ∧ x1 < 8 then some (((tof t15) 38 (Int.toNat x1)), t15) else none else none else some ((-10001), t3) else none
def x_Cg_burnt (fu : Nat) (x1 : Int) (t : Tb) : Option (Int × Tb) := xb_Cg_burnt_e fu (fun _ _ _ _ => none) x1 t
set_option maxRecDepth 20000 in
theorem xt_Cg_burnt_e {fu : Nat} {rec : Nat → List Int → List Nat → Tb → Option (Int × Tb)} {o : Int × Tb} {Q : Int → Sto → Prop} (hQ : Q o.1 (tof o.2)) {x1 : Int} {t : Tb} (h0 : xb_Cg_burnt_e fu rec x1 t = some o) : K_Cg_burnt x1 (tof t) Q :=
  e_Cg_burnt (xr_call h0 (fun _ _ hc => xs_Gr_hasNode hc ⟨rfl, rfl⟩) fun r4 t3 h1 => xr_and h1 fun _ h2 => xr_ite h2 (fun z y => y z) (fun h3 => xr_call h3 (fun _ _ hc => xs_Bu_allBurn hc ⟨rfl, rfl⟩) fun r11 t10 h5 => xr_call h5 (fun _ _ hc => xs_Bu_hasBurnt hc ⟨rfl, rfl⟩) fun r16 t15 h6 => xr_and h6 fun _ h7 => xr_ite h7 (fun z => z) (fun h8 => xr_leaf h8 hQ) (fun h9 => xr_and h9 fun _ h10 => xr_leaf h10 hQ)) (fun h4 => xr_leaf h4 hQ))
theorem xs_Cg_burnt {fu : Nat} {x1 : Int} {t : Tb} {r : Int} {t' : Tb} {Q : Int → Sto → Prop} (h : x_Cg_burnt fu x1 t = some (r, t')) (hQ : Q r (tof t')) : K_Cg_burnt x1 (tof t) Q := xt_Cg_burnt_e (o := (r, t')) hQ h
def xb_Gr_hasChipsAt_e (fu : Nat) (rec : Nat → List Int → List Nat → Tb → Option (Int × Tb)) (x1 : Int) (t : Tb) : Option (Int × Tb) := bnd (x_Gr_hasNode fu x1 t) fun r4 t3 => if -2147483648 ≤ r4 ∧ r4 < 2147483648 then if r4 = 0 then some (0, t3) else if (-2147483648 ≤ x1 ∧ x1 < 2147483648) ∧ -2147483648 ≤ ((tof t3) 1 2) ∧ ((tof t3) 1 2) < 2147483648 then if x1 = ((tof t3) 1 2) then some (0, t3) else some (1, t3) else none else none
def x_Gr_hasChipsAt (fu : Nat) (x1 : Int) (t : Tb) : Option (Int × Tb) := xb_Gr_hasChipsAt_e fu (fun _ _ _ _ => none) x1 t
set_option maxRecDepth 20000 in
theorem xt_Gr_hasChipsAt_e {fu : Nat} {rec : Nat → List Int → List Nat → Tb → Option (Int × Tb)} {o : Int × Tb} {Q : Int → Sto → Prop} (hQ : Q o.1 (tof o.2)) {x1 : Int} {t : Tb} (h0 : xb_Gr_hasChipsAt_e fu rec x1 t = some o) : K_Gr_hasChipsAt x1 (tof t) Q :=
  e_Gr_hasChipsAt (xr_call h0 (fun _ _ hc => xs_Gr_hasNode hc ⟨rfl, rfl⟩) fun r4 t3 h1 => xr_and h1 fun _ h2 => xr_ite h2 (fun z => z) (fun h3 => xr_leaf h3 hQ) (fun h4 => xr_and h4 fun _ h5 => xr_ite h5 (fun z => z) (fun h6 => xr_leaf h6 hQ) (fun h7 => xr_leaf h7 hQ)))
theorem xs_Gr_hasChipsAt {fu : Nat} {x1 : Int} {t : Tb} {r : Int} {t' : Tb} {Q : Int → Sto → Prop} (h : x_Gr_hasChipsAt fu x1 t = some (r, t')) (hQ : Q r (tof t')) : K_Gr_hasChipsAt x1 (tof t) Q := xt_Gr_hasChipsAt_e (o := (r, t')) hQ h
def xb_Cg_chips_e (fu : Nat) (rec : Nat → List Int → List Nat → Tb → Option (Int × Tb)) (x1 : Int) (t : Tb) : Option (Int × Tb) := bnd (x_Gr_hasChipsAt fu x1 t) fun r4 t3 => if -2147483648 ≤ r4 ∧ r4 < 2147483648 then if r4 = 0 then some ((-10001), t3) else if 0 ≤ x1 ∧ x1 < 8 then some (((tof t3) 187 (Int.toNat x1)), t3) else none else none
def x_Cg_chips (fu : Nat) (x1 : Int) (t : Tb) : Option (Int × Tb) := xb_Cg_chips_e fu (fun _ _ _ _ => none) x1 t
set_option maxRecDepth 20000 in
theorem xt_Cg_chips_e {fu : Nat} {rec : Nat → List Int → List Nat → Tb → Option (Int × Tb)} {o : Int × Tb} {Q : Int → Sto → Prop} (hQ : Q o.1 (tof o.2)) {x1 : Int} {t : Tb} (h0 : xb_Cg_chips_e fu rec x1 t = some o) : K_Cg_chips x1 (tof t) Q :=
  e_Cg_chips (xr_call h0 (fun _ _ hc => xs_Gr_hasChipsAt hc ⟨rfl, rfl⟩) fun r4 t3 h1 => xr_and h1 fun _ h2 => xr_ite h2 (fun z => z) (fun h3 => xr_leaf h3 hQ) (fun h4 => xr_and h4 fun _ h5 => xr_leaf h5 hQ))
theorem xs_Cg_chips {fu : Nat} {x1 : Int} {t : Tb} {r : Int} {t' : Tb} {Q : Int → Sto → Prop} (h : x_Cg_chips fu x1 t = some (r, t')) (hQ : Q r (tof t')) : K_Cg_chips x1 (tof t) Q := xt_Cg_chips_e (o := (r, t')) hQ h
def xb_Cg_clearChips_2 (fu : Nat) (rec : Nat → List Int → List Nat → Tb → Option (Int × Tb)) (k0 : Nat) (x1 : Int) (t : Tb) : Option (Int × Tb) := if arb SC k0 1 8 = true then if -2147483648 ≤ x1 ∧ x1 < 2147483648 then if 8 ≤ x1 then some (0, t) else if 0 ≤ x1 ∧ x1 < 8 then upB t k0 (Int.toNat x1) 0 fun t4 => rec 2 [(x1 + 1)] [k0] t4 else none else none else none
def xb_Cg_clearChips_e (fu : Nat) (rec : Nat → List Int → List Nat → Tb → Option (Int × Tb)) (k0 : Nat) (t : Tb) : Option (Int × Tb) := if arb SC k0 1 8 = true then rec 2 [0] [k0] t else none
def xm_Cg_clearChips (fu : Nat) : Nat → Nat → List Int → List Nat → Tb → Option (Int × Tb)
  | 0, _, _, _, _ => none
  | n + 1, pc, a, ks, t => if pc = 2 then xb_Cg_clearChips_2 fu (xm_Cg_clearChips fu n) (ks.getD 0 0) (a.getD 0 0) t else none
def x_Cg_clearChips (fu : Nat) (k0 : Nat) (t : Tb) : Option (Int × Tb) := xb_Cg_clearChips_e fu (xm_Cg_clearChips fu fu) k0 t
set_option maxRecDepth 20000 in
theorem xt_Cg_clearChips_2 {fu : Nat} {rec : Nat → List Int → List Nat → Tb → Option (Int × Tb)} {o : Int × Tb} {Q : Sto → Prop} (hQ : Q (tof o.2)) (hr_2 : ∀ (k0 : Nat) (x1 : Int) (t : Tb), rec 2 [x1] [k0] t = some o → H_Cg_clearChips_2 Q k0 x1 (tof t)) {k0 : Nat} {x1 : Int} {t : Tb} (h0 : xb_Cg_clearChips_2 fu rec k0 x1 t = some o) : H_Cg_clearChips_2 Q k0 x1 (tof t) := by
  unfold xb_Cg_clearChips_2 at h0
  obtain ⟨a0, h0⟩ := xr_and h0 (R := _ = some o) (fun _ z => z)
  exact b_Cg_clearChips_2 (arb_ar a0) (xr_and h0 fun _ h1 => xr_ite h1 (fun z y => by omega) (fun h2 => xr_leafV h2 hQ) (fun h3 => xr_and h3 fun _ h4 => xr_up h4 fun t4 h5 => hr_2 _ _ _ h5))
set_option maxRecDepth 20000 in
theorem xt_Cg_clearChips_e {fu : Nat} {rec : Nat → List Int → List Nat → Tb → Option (Int × Tb)} {o : Int × Tb} {Q : Sto → Prop} (hQ : Q (tof o.2)) (hr_2 : ∀ (k0 : Nat) (x1 : Int) (t : Tb), rec 2 [x1] [k0] t = some o → H_Cg_clearChips_2 Q k0 x1 (tof t)) {k0 : Nat} {t : Tb} (h0 : xb_Cg_clearChips_e fu rec k0 t = some o) : K_Cg_clearChips k0 (tof t) Q := by
  unfold xb_Cg_clearChips_e at h0
  obtain ⟨a0, h0⟩ := xr_and h0 (R := _ = some o) (fun _ z => z)
  exact e_Cg_clearChips (arb_ar a0) (hr_2 _ _ _ h0)
theorem xl_Cg_clearChips {fu : Nat} {o : Int × Tb} {Q : Sto → Prop} (hQ : Q (tof o.2)) : ∀ n : Nat, (∀ (k0 : Nat) (x1 : Int) (t : Tb), xm_Cg_clearChips fu n 2 [x1] [k0] t = some o → H_Cg_clearChips_2 Q k0 x1 (tof t)) := by
  intro n
  induction n with
  | zero => exact fun _ _ _ h => (nomatch h)
  | succ n ih =>
    have i2 := ih
    exact fun _ _ _ h => xt_Cg_clearChips_2 (fu := fu) hQ i2 h
theorem xs_Cg_clearChips {fu : Nat} {k0 : Nat} {t : Tb} {r : Int} {t' : Tb} {Q : Sto → Prop} (h : x_Cg_clearChips fu k0 t = some (r, t')) (hQ : Q (tof t')) : K_Cg_clearChips k0 (tof t) Q := xt_Cg_clearChips_e (o := (r, t')) hQ (xl_Cg_clearChips hQ fu) h
def xb_Cg_clearText_e (fu : Nat) (rec : Nat → List Int → List Nat → Tb → Option (Int × Tb)) (t : Tb) : Option (Int × Tb) := upB t 15 0 0 fun t1 => some (((tof t) 15 0), t1)
def x_Cg_clearText (fu : Nat) (t : Tb) : Option (Int × Tb) := xb_Cg_clearText_e fu (fun _ _ _ _ => none) t
set_option maxRecDepth 20000 in
theorem xt_Cg_clearText_e {fu : Nat} {rec : Nat → List Int → List Nat → Tb → Option (Int × Tb)} {o : Int × Tb} {Q : Int → Sto → Prop} (hQ : Q o.1 (tof o.2)) {t : Tb} (h0 : xb_Cg_clearText_e fu rec t = some o) : K_Cg_clearText (tof t) Q :=
  e_Cg_clearText (xr_up h0 fun t1 h1 => xr_leaf h1 hQ)
theorem xs_Cg_clearText {fu : Nat} {t : Tb} {r : Int} {t' : Tb} {Q : Int → Sto → Prop} (h : x_Cg_clearText fu t = some (r, t')) (hQ : Q r (tof t')) : K_Cg_clearText (tof t) Q := xt_Cg_clearText_e (o := (r, t')) hQ h
def xb_Cg_degree_e (fu : Nat) (rec : Nat → List Int → List Nat → Tb → Option (Int × Tb)) (x1 : Int) (t : Tb) : Option (Int × Tb) := bnd (x_Gr_hasNode fu x1 t) fun r4 t3 => if -2147483648 ≤ r4 ∧ r4 < 2147483648 then if r4 = 0 then some ((-10001), t3) else bnd (x_Gr_degreeOf fu x1 t3) fun r11 t10 => some (r11, t10) else none
def x_Cg_degree (fu : Nat) (x1 : Int) (t : Tb) : Option (Int × Tb) := xb_Cg_degree_e fu (fun _ _ _ _ => none) x1 t
set_option maxRecDepth 20000 in
theorem xt_Cg_degree_e {fu : Nat} {rec : Nat → List Int → List Nat → Tb → Option (Int × Tb)} {o : Int × Tb} {Q : Int → Sto → Prop} (hQ : Q o.1 (tof o.2)) {x1 : Int} {t : Tb} (h0 : xb_Cg_degree_e fu rec x1 t = some o) : K_Cg_degree x1 (tof t) Q :=
  e_Cg_degree (xr_call h0 (fun _ _ hc => xs_Gr_hasNode hc ⟨rfl, rfl⟩) fun r4 t3 h1 => xr_and h1 fun _ h2 => xr_ite h2 (fun z => z) (fun h3 => xr_leaf h3 hQ) (fun h4 => xr_call h4 (fun _ _ hc => xs_Gr_degreeOf hc ⟨rfl, rfl⟩) fun r11 t10 h5 => xr_leaf h5 hQ))
theorem xs_Cg_degree {fu : Nat} {x1 : Int} {t : Tb} {r : Int} {t' : Tb} {Q : Int → Sto → Prop} (h : x_Cg_degree fu x1 t = some (r, t')) (hQ : Q r (tof t')) : K_Cg_degree x1 (tof t) Q := xt_Cg_degree_e (o := (r, t')) hQ h
def xb_Gr_hasEdge_e (fu : Nat) (rec : Nat → List Int → List Nat → Tb → Option (Int × Tb)) (x1 : Int) (t : Tb) : Option (Int × Tb) := if -2147483648 ≤ x1 ∧ x1 < 2147483648 then if x1 < 0 then some (0, t) else if (-2147483648 ≤ x1 ∧ x1 < 2147483648) ∧ -2147483648 ≤ ((tof t) 1 1) ∧ ((tof t) 1 1) < 2147483648 then if ((tof t) 1 1) ≤ x1 then some (0, t) else if -2147483648 ≤ x1 ∧ x1 < 2147483648 then if 20 ≤ x1 then some (0, t) else some (1, t) else none else none else none
def x_Gr_hasEdge (fu : Nat) (x1 : Int) (t : Tb) : Option (Int × Tb) := xb_Gr_hasEdge_e fu (fun _ _ _ _ => none) x1 t
set_option maxRecDepth 20000 in
theorem xt_Gr_hasEdge_e {fu : Nat} {rec : Nat → List Int → List Nat → Tb → Option (Int × Tb)} {o : Int × Tb} {Q : Int → Sto → Prop} (hQ : Q o.1 (tof o.2)) {x1 : Int} {t : Tb} (h0 : xb_Gr_hasEdge_e fu rec x1 t = some o) : K_Gr_hasEdge x1 (tof t) Q :=
  e_Gr_hasEdge (xr_and h0 fun _ h1 => xr_ite h1 (fun z y => by omega) (fun h2 => xr_leaf h2 hQ) (fun h3 => xr_and h3 fun _ h4 => xr_ite h4 (fun z y => by omega) (fun h5 => xr_leaf h5 hQ) (fun h6 => xr_and h6 fun _ h7 => xr_ite h7 (fun z y => by omega) (fun h8 => xr_leaf h8 hQ) (fun h9 => xr_leaf h9 hQ))))
theorem xs_Gr_hasEdge {fu : Nat} {x1 : Int} {t : Tb} {r : Int} {t' : Tb} {Q : Int → Sto → Prop} (h : x_Gr_hasEdge fu x1 t = some (r, t')) (hQ : Q r (tof t')) : K_Gr_hasEdge x1 (tof t) Q := xt_Gr_hasEdge_e (o := (r, t')) hQ h
def xb_Cg_edge_e (fu : Nat) (rec : Nat → List Int → List Nat → Tb → Option (Int × Tb)) (x1 : Int) (x2 : Int) (t : Tb) : Option (Int × Tb) := bnd (x_Gr_hasEdge fu x1 t) fun r4 t3 => if -2147483648 ≤ r4 ∧ r4 < 2147483648 then if ¬ r4 = 0 then if -2147483648 ≤ x2 ∧ x2 < 2147483648 then if x2 = 0 then if 0 ≤ x1 ∧ x1 < 20 then some (((tof t3) 2 (Int.toNat x1)), t3) else none else if 0 ≤ x1 ∧ x1 < 20 then some (((tof t3) 3 (Int.toNat x1)), t3) else none else none else some ((-10001), t3) else none
def x_Cg_edge (fu : Nat) (x1 : Int) (x2 : Int) (t : Tb) : Option (Int × Tb) := xb_Cg_edge_e fu (fun _ _ _ _ => none) x1 x2 t
set_option maxRecDepth 20000 in
theorem xt_Cg_edge_e {fu : Nat} {rec : Nat → List Int → List Nat → Tb → Option (Int × Tb)} {o : Int × Tb} {Q : Int → Sto → Prop} (hQ : Q o.1 (tof o.2)) {x1 : Int} {x2 : Int} {t : Tb} (h0 : xb_Cg_edge_e fu rec x1 x2 t = some o) : K_Cg_edge x1 x2 (tof t) Q :=
  e_Cg_edge (xr_call h0 (fun _ _ hc => xs_Gr_hasEdge hc ⟨rfl, rfl⟩) fun r4 t3 h1 => xr_and h1 fun _ h2 => xr_ite h2 (fun z y => y z) (fun h3 => xr_and h3 fun _ h5 => xr_ite h5 (fun z => z) (fun h6 => xr_and h6 fun _ h8 => xr_leaf h8 hQ) (fun h7 => xr_and h7 fun _ h9 => xr_leaf h9 hQ)) (fun h4 => xr_leaf h4 hQ))
theorem xs_Cg_edge {fu : Nat} {x1 : Int} {x2 : Int} {t : Tb} {r : Int} {t' : Tb} {Q : Int → Sto → Prop} (h : x_Cg_edge fu x1 x2 t = some (r, t')) (hQ : Q r (tof t')) : K_Cg_edge x1 x2 (tof t) Q := xt_Cg_edge_e (o := (r, t')) hQ h
def xb_Gr_allEdges_e (fu : Nat) (rec : Nat → List Int → List Nat → Tb → Option (Int × Tb)) (t : Tb) : Option (Int × Tb) := some (((ishl 1 ((tof t) 1 1)) - 1), t)
def x_Gr_allEdges (fu : Nat) (t : Tb) : Option (Int × Tb) := xb_Gr_allEdges_e fu (fun _ _ _ _ => none) t
set_option maxRecDepth 20000 in
theorem xt_Gr_allEdges_e {fu : Nat} {rec : Nat → List Int → List Nat → Tb → Option (Int × Tb)} {o : Int × Tb} {Q : Int → Sto → Prop} (hQ : Q o.1 (tof o.2)) {t : Tb} (h0 : xb_Gr_allEdges_e fu rec t = some o) : K_Gr_allEdges (tof t) Q :=
  e_Gr_allEdges (xr_leaf h0 hQ)
theorem xs_Gr_allEdges {fu : Nat} {t : Tb} {r : Int} {t' : Tb} {Q : Int → Sto → Prop} (h : x_Gr_allEdges fu t = some (r, t')) (hQ : Q r (tof t')) : K_Gr_allEdges (tof t) Q := xt_Gr_allEdges_e (o := (r, t')) hQ h
def xb_Gr_relabel_2 (fu : Nat) (rec : Nat → List Int → List Nat → Tb → Option (Int × Tb)) (x1 : Int) (x2 : Int) (x3 : Int) (t : Tb) : Option (Int × Tb) := if (-2147483648 ≤ x3 ∧ x3 < 2147483648) ∧ -2147483648 ≤ ((tof t) 1 0) ∧ ((tof t) 1 0) < 2147483648 then if ((tof t) 1 0) ≤ x3 then some (0, t) else if 0 ≤ x3 ∧ x3 < 8 then if (-2147483648 ≤ ((tof t) 14 (Int.toNat x3)) ∧ ((tof t) 14 (Int.toNat x3)) < 2147483648) ∧ -2147483648 ≤ x1 ∧ x1 < 2147483648 then if ¬ ((tof t) 14 (Int.toNat x3)) = x1 then rec 2 [x1, x2, (x3 + 1)] [] t else if 0 ≤ x3 ∧ x3 < 8 then upB t 14 (Int.toNat x3) x2 fun t7 => rec 2 [x1, x2, (x3 + 1)] [] t7 else none else none else none else none
def xb_Gr_relabel_e (fu : Nat) (rec : Nat → List Int → List Nat → Tb → Option (Int × Tb)) (x1 : Int) (x2 : Int) (t : Tb) : Option (Int × Tb) := rec 2 [x1, x2, 0] [] t
def xm_Gr_relabel (fu : Nat) : Nat → Nat → List Int → List Nat → Tb → Option (Int × Tb)
  | 0, _, _, _, _ => none
  | n + 1, pc, a, ks, t => if pc = 2 then xb_Gr_relabel_2 fu (xm_Gr_relabel fu n) (a.getD 0 0) (a.getD 1 0) (a.getD 2 0) t else none
def x_Gr_relabel (fu : Nat) (x1 : Int) (x2 : Int) (t : Tb) : Option (Int × Tb) := xb_Gr_relabel_e fu (xm_Gr_relabel fu fu) x1 x2 t
set_option maxRecDepth 20000 in
theorem xt_Gr_relabel_2 {fu : Nat} {rec : Nat → List Int → List Nat → Tb → Option (Int × Tb)} {o : Int × Tb} {Q : Sto → Prop} (hQ : Q (tof o.2)) (hr_2 : ∀ (x1 : Int) (x2 : Int) (x3 : Int) (t : Tb), rec 2 [x1, x2, x3] [] t = some o → H_Gr_relabel_2 Q x1 x2 x3 (tof t)) {x1 : Int} {x2 : Int} {x3 : Int} {t : Tb} (h0 : xb_Gr_relabel_2 fu rec x1 x2 x3 t = some o) : H_Gr_relabel_2 Q x1 x2 x3 (tof t) :=
  b_Gr_relabel_2 (xr_and h0 fun _ h1 => xr_ite h1 (fun z y => by omega) (fun h2 => xr_leafV h2 hQ) (fun h3 => xr_and h3 fun _ h4 => xr_and h4 fun _ h5 => xr_ite h5 (fun z y => y z) (fun h6 => hr_2 _ _ _ _ h6) (fun h7 => xr_and h7 fun _ h8 => xr_up h8 fun t7 h9 => hr_2 _ _ _ _ h9)))
set_option maxRecDepth 20000 in
theorem xt_Gr_relabel_e {fu : Nat} {rec : Nat → List Int → List Nat → Tb → Option (Int × Tb)} {o : Int × Tb} {Q : Sto → Prop} (hQ : Q (tof o.2)) (hr_2 : ∀ (x1 : Int) (x2 : Int) (x3 : Int) (t : Tb), rec 2 [x1, x2, x3] [] t = some o → H_Gr_relabel_2 Q x1 x2 x3 (tof t)) {x1 : Int} {x2 : Int} {t : Tb} (h0 : xb_Gr_relabel_e fu rec x1 x2 t = some o) : K_Gr_relabel x1 x2 (tof t) Q :=
  e_Gr_relabel (hr_2 _ _ _ _ h0)
theorem xl_Gr_relabel {fu : Nat} {o : Int × Tb} {Q : Sto → Prop} (hQ : Q (tof o.2)) : ∀ n : Nat, (∀ (x1 : Int) (x2 : Int) (x3 : Int) (t : Tb), xm_Gr_relabel fu n 2 [x1, x2, x3] [] t = some o → H_Gr_relabel_2 Q x1 x2 x3 (tof t)) := by
  intro n
  induction n with
  | zero => exact fun _ _ _ _ h => (nomatch h)
  | succ n ih =>
    have i2 := ih
    exact fun _ _ _ _ h => xt_Gr_relabel_2 (fu := fu) hQ i2 h
theorem xs_Gr_relabel {fu : Nat} {x1 : Int} {x2 : Int} {t : Tb} {r : Int} {t' : Tb} {Q : Sto → Prop} (h : x_Gr_relabel fu x1 x2 t = some (r, t')) (hQ : Q (tof t')) : K_Gr_relabel x1 x2 (tof t) Q := xt_Gr_relabel_e (o := (r, t')) hQ (xl_Gr_relabel hQ fu) h
def xb_Gr_findParts_2 (fu : Nat) (rec : Nat → List Int → List Nat → Tb → Option (Int × Tb)) (x1 : Int) (x2 : Int) (t : Tb) : Option (Int × Tb) := if (-2147483648 ≤ x2 ∧ x2 < 2147483648) ∧ -2147483648 ≤ ((tof t) 1 0) ∧ ((tof t) 1 0) < 2147483648 then if ((tof t) 1 0) ≤ x2 then rec 30 [x1, ((tof t) 1 0), 0] [] t else if 0 ≤ x2 ∧ x2 < 8 then upB t 14 (Int.toNat x2) x2 fun t4 => rec 2 [x1, (x2 + 1)] [] t4 else none else none
def xb_Gr_findParts_30 (fu : Nat) (rec : Nat → List Int → List Nat → Tb → Option (Int × Tb)) (x1 : Int) (x2 : Int) (x3 : Int) (t : Tb) : Option (Int × Tb) := if (-2147483648 ≤ x3 ∧ x3 < 2147483648) ∧ -2147483648 ≤ ((tof t) 1 1) ∧ ((tof t) 1 1) < 2147483648 then if ((tof t) 1 1) ≤ x3 then some (x2, t) else if 0 ≤ x3 ∧ x3 < 20 then if 0 ≤ ((tof t) 2 (Int.toNat x3)) ∧ ((tof t) 2 (Int.toNat x3)) < 8 then if 0 ≤ x3 ∧ x3 < 20 then if 0 ≤ ((tof t) 3 (Int.toNat x3)) ∧ ((tof t) 3 (Int.toNat x3)) < 8 then if -2147483648 ≤ (iand (ishr x1 x3) 1) ∧ (iand (ishr x1 x3) 1) < 2147483648 then if (iand (ishr x1 x3) 1) = 0 then rec 30 [x1, x2, (x3 + 1)] [] t else if (-2147483648 ≤ ((tof t) 14 (Int.toNat ((tof t) 2 (Int.toNat x3)))) ∧ ((tof t) 14 (Int.toNat ((tof t) 2 (Int.toNat x3)))) < 2147483648) ∧ -2147483648 ≤ ((tof t) 14 (Int.toNat ((tof t) 3 (Int.toNat x3)))) ∧ ((tof t) 14 (Int.toNat ((tof t) 3 (Int.toNat x3)))) < 2147483648 then if ((tof t) 14 (Int.toNat ((tof t) 2 (Int.toNat x3)))) = ((tof t) 14 (Int.toNat ((tof t) 3 (Int.toNat x3)))) then rec 30 [x1, x2, (x3 + 1)] [] t else bnd (x_Gr_relabel fu ((tof t) 14 (Int.toNat ((tof t) 3 (Int.toNat x3)))) ((tof t) 14 (Int.toNat ((tof t) 2 (Int.toNat x3)))) t) fun _ t17 => rec 30 [x1, (x2 - 1), (x3 + 1)] [] t17 else none else none else none else none else none else none else none
def xb_Gr_findParts_e (fu : Nat) (rec : Nat → List Int → List Nat → Tb → Option (Int × Tb)) (x1 : Int) (t : Tb) : Option (Int × Tb) := rec 2 [x1, 0] [] t
def xm_Gr_findParts (fu : Nat) : Nat → Nat → List Int → List Nat → Tb → Option (Int × Tb)
  | 0, _, _, _, _ => none
  | n + 1, pc, a, ks, t => if pc = 2 then xb_Gr_findParts_2 fu (xm_Gr_findParts fu n) (a.getD 0 0) (a.getD 1 0) t else if pc = 30 then xb_Gr_findParts_30 fu (xm_Gr_findParts fu n) (a.getD 0 0) (a.getD 1 0) (a.getD 2 0) t else none
def x_Gr_findParts (fu : Nat) (x1 : Int) (t : Tb) : Option (Int × Tb) := xb_Gr_findParts_e fu (xm_Gr_findParts fu fu) x1 t
set_option maxRecDepth 20000 in
theorem xt_Gr_findParts_2 {fu : Nat} {rec : Nat → List Int → List Nat → Tb → Option (Int × Tb)} {o : Int × Tb} {Q : Int → Sto → Prop} (hQ : Q o.1 (tof o.2)) (hr_2 : ∀ (x1 : Int) (x2 : Int) (t : Tb), rec 2 [x1, x2] [] t = some o → H_Gr_findParts_2 Q x1 x2 (tof t)) (hr_30 : ∀ (x1 : Int) (x2 : Int) (x3 : Int) (t : Tb), rec 30 [x1, x2, x3] [] t = some o → H_Gr_findParts_30 Q x1 x2 x3 (tof t)) {x1 : Int} {x2 : Int} {t : Tb} (h0 : xb_Gr_findParts_2 fu rec x1 x2 t = some o) : H_Gr_findParts_2 Q x1 x2 (tof t) :=
  b_Gr_findParts_2 (xr_and h0 fun _ h1 => xr_ite h1 (fun z y => by omega) (fun h2 => hr_30 _ _ _ _ h2) (fun h3 => xr_and h3 fun _ h4 => xr_up h4 fun t4 h5 => hr_2 _ _ _ h5))
set_option maxRecDepth 20000 in
theorem xt_Gr_findParts_30 {fu : Nat} {rec : Nat → List Int → List Nat → Tb → Option (Int × Tb)} {o : Int × Tb} {Q : Int → Sto → Prop} (hQ : Q o.1 (tof o.2)) (hr_2 : ∀ (x1 : Int) (x2 : Int) (t : Tb), rec 2 [x1, x2] [] t = some o → H_Gr_findParts_2 Q x1 x2 (tof t)) (hr_30 : ∀ (x1 : Int) (x2 : Int) (x3 : Int) (t : Tb), rec 30 [x1, x2, x3] [] t = some o → H_Gr_findParts_30 Q x1 x2 x3 (tof t)) {x1 : Int} {x2 : Int} {x3 : Int} {t : Tb} (h0 : xb_Gr_findParts_30 fu rec x1 x2 x3 t = some o) : H_Gr_findParts_30 Q x1 x2 x3 (tof t) :=
  b_Gr_findParts_30 (xr_and h0 fun _ h6 => xr_ite h6 (fun z y => by omega) (fun h7 => xr_leaf h7 hQ) (fun h8 => xr_and h8 fun _ h9 => xr_and h9 fun _ h10 => xr_and h10 fun _ h11 => xr_and h11 fun _ h12 => xr_and h12 fun _ h13 => xr_ite h13 (fun z => z) (fun h14 => hr_30 _ _ _ _ h14) (fun h15 => xr_and h15 fun _ h16 => xr_ite h16 (fun z => z) (fun h17 => hr_30 _ _ _ _ h17) (fun h18 => xr_callV h18 (fun _ _ hc => xs_Gr_relabel hc rfl) fun _ t17 h19 => hr_30 _ _ _ _ h19))))
set_option maxRecDepth 20000 in
theorem xt_Gr_findParts_e {fu : Nat} {rec : Nat → List Int → List Nat → Tb → Option (Int × Tb)} {o : Int × Tb} {Q : Int → Sto → Prop} (hQ : Q o.1 (tof o.2)) (hr_2 : ∀ (x1 : Int) (x2 : Int) (t : Tb), rec 2 [x1, x2] [] t = some o → H_Gr_findParts_2 Q x1 x2 (tof t)) (hr_30 : ∀ (x1 : Int) (x2 : Int) (x3 : Int) (t : Tb), rec 30 [x1, x2, x3] [] t = some o → H_Gr_findParts_30 Q x1 x2 x3 (tof t)) {x1 : Int} {t : Tb} (h0 : xb_Gr_findParts_e fu rec x1 t = some o) : K_Gr_findParts x1 (tof t) Q :=
  e_Gr_findParts (hr_2 _ _ _ h0)
theorem xl_Gr_findParts {fu : Nat} {o : Int × Tb} {Q : Int → Sto → Prop} (hQ : Q o.1 (tof o.2)) : ∀ n : Nat, (∀ (x1 : Int) (x2 : Int) (t : Tb), xm_Gr_findParts fu n 2 [x1, x2] [] t = some o → H_Gr_findParts_2 Q x1 x2 (tof t)) ∧ (∀ (x1 : Int) (x2 : Int) (x3 : Int) (t : Tb), xm_Gr_findParts fu n 30 [x1, x2, x3] [] t = some o → H_Gr_findParts_30 Q x1 x2 x3 (tof t)) := by
  intro n
  induction n with
  | zero => exact ⟨fun _ _ _ h => (nomatch h), fun _ _ _ _ h => (nomatch h)⟩
  | succ n ih =>
    obtain ⟨i2, i30⟩ := ih
    exact ⟨fun _ _ _ h => xt_Gr_findParts_2 (fu := fu) hQ i2 i30 h, fun _ _ _ _ h => xt_Gr_findParts_30 (fu := fu) hQ i2 i30 h⟩
theorem xs_Gr_findParts {fu : Nat} {x1 : Int} {t : Tb} {r : Int} {t' : Tb} {Q : Int → Sto → Prop} (h : x_Gr_findParts fu x1 t = some (r, t')) (hQ : Q r (tof t')) : K_Gr_findParts x1 (tof t) Q := xt_Gr_findParts_e (o := (r, t')) hQ (xl_Gr_findParts hQ fu).1 (xl_Gr_findParts hQ fu).2 h
def xb_Gr_isConnected_e (fu : Nat) (rec : Nat → List Int → List Nat → Tb → Option (Int × Tb)) (t : Tb) : Option (Int × Tb) := bnd (x_Gr_allEdges fu t) fun r4 t3 => bnd (x_Gr_findParts fu r4 t3) fun r9 t8 => if -2147483648 ≤ r9 ∧ r9 < 2147483648 then if ¬ r9 = 1 then some (0, t8) else some (1, t8) else none
def x_Gr_isConnected (fu : Nat) (t : Tb) : Option (Int × Tb) := xb_Gr_isConnected_e fu (fun _ _ _ _ => none) t
set_option maxRecDepth 20000 in
theorem xt_Gr_isConnected_e {fu : Nat} {rec : Nat → List Int → List Nat → Tb → Option (Int × Tb)} {o : Int × Tb} {Q : Int → Sto → Prop} (hQ : Q o.1 (tof o.2)) {t : Tb} (h0 : xb_Gr_isConnected_e fu rec t = some o) : K_Gr_isConnected (tof t) Q :=
  e_Gr_isConnected (xr_call h0 (fun _ _ hc => xs_Gr_allEdges hc ⟨rfl, rfl⟩) fun r4 t3 h1 => xr_call h1 (fun _ _ hc => xs_Gr_findParts hc ⟨rfl, rfl⟩) fun r9 t8 h2 => xr_and h2 fun _ h3 => xr_ite h3 (fun z y => y z) (fun h4 => xr_leaf h4 hQ) (fun h5 => xr_leaf h5 hQ))
theorem xs_Gr_isConnected {fu : Nat} {t : Tb} {r : Int} {t' : Tb} {Q : Int → Sto → Prop} (h : x_Gr_isConnected fu t = some (r, t')) (hQ : Q r (tof t')) : K_Gr_isConnected (tof t) Q := xt_Gr_isConnected_e (o := (r, t')) hQ h
def xb_JM_floorMod_e (fu : Nat) (rec : Nat → List Int → List Nat → Tb → Option (Int × Tb)) (x0 : Int) (x2 : Int) (t : Tb) : Option (Int × Tb) := if ((-9223372036854775808 ≤ x0 ∧ x0 < 9223372036854775808) ∧ -9223372036854775808 ≤ x2 ∧ x2 < 9223372036854775808) ∧ ¬ x2 = 0 then if -9223372036854775808 ≤ (lxor x0 x2) ∧ (lxor x0 x2) < 9223372036854775808 then if 0 ≤ (lxor x0 x2) then some ((Int.tmod x0 x2), t) else if -9223372036854775808 ≤ (Int.tmod x0 x2) ∧ (Int.tmod x0 x2) < 9223372036854775808 then if (Int.tmod x0 x2) = 0 then some ((Int.tmod x0 x2), t) else some (((Int.tmod x0 x2) + x2), t) else none else none else none
def x_JM_floorMod (fu : Nat) (x0 : Int) (x2 : Int) (t : Tb) : Option (Int × Tb) := xb_JM_floorMod_e fu (fun _ _ _ _ => none) x0 x2 t
set_option maxRecDepth 20000 in
theorem xt_JM_floorMod_e {fu : Nat} {rec : Nat → List Int → List Nat → Tb → Option (Int × Tb)} {o : Int × Tb} {Q : Int → Sto → Prop} (hQ : Q o.1 (tof o.2)) {x0 : Int} {x2 : Int} {t : Tb} (h0 : xb_JM_floorMod_e fu rec x0 x2 t = some o) : K_JM_floorMod x0 x2 (tof t) Q :=
  e_JM_floorMod (xr_and h0 fun _ h1 => xr_and h1 fun _ h2 => xr_ite h2 (fun z y => by omega) (fun h3 => xr_leaf h3 hQ) (fun h4 => xr_and h4 fun _ h5 => xr_ite h5 (fun z => z) (fun h6 => xr_leaf h6 hQ) (fun h7 => xr_leaf h7 hQ)))
theorem xs_JM_floorMod {fu : Nat} {x0 : Int} {x2 : Int} {t : Tb} {r : Int} {t' : Tb} {Q : Int → Sto → Prop} (h : x_JM_floorMod fu x0 x2 t = some (r, t')) (hQ : Q r (tof t')) : K_JM_floorMod x0 x2 (tof t) Q := xt_JM_floorMod_e (o := (r, t')) hQ h
def xb_Ma_addRow_3 (fu : Nat) (rec : Nat → List Int → List Nat → Tb → Option (Int × Tb)) (x1 : Int) (x2 : Int) (x3 : Int) (x5 : Int) (x7 : Int) (t : Tb) : Option (Int × Tb) := if (-2147483648 ≤ x7 ∧ x7 < 2147483648) ∧ -2147483648 ≤ ((tof t) 42 4) ∧ ((tof t) 42 4) < 2147483648 then if ((tof t) 42 4) ≤ x7 then some (0, t) else if -9223372036854775808 ≤ x5 ∧ x5 < 9223372036854775808 then if x5 = 0 then some (0, t) else if 0 ≤ x2 ∧ x2 < 8 then if 0 ≤ x2 ∧ x2 < 8 then if 0 ≤ x7 ∧ x7 < 9 then if 0 ≤ x1 ∧ x1 < 8 then if 0 ≤ x7 ∧ x7 < 9 then bnd (x_JM_floorMod fu (((tof t) (45 + Int.toNat x2) (Int.toNat x7)) + (x3 * ((tof t) (45 + Int.toNat x1) (Int.toNat x7)))) x5 t) fun r13 t12 => if 0 ≤ x7 ∧ x7 < 9 then upB t12 (45 + Int.toNat x2) (Int.toNat x7) r13 fun t16 => rec 3 [x1, x2, x3, x5, (x7 + 1)] [] t16 else none else none else none else none else none else none else none else none
def xb_Ma_addRow_e (fu : Nat) (rec : Nat → List Int → List Nat → Tb → Option (Int × Tb)) (x1 : Int) (x2 : Int) (x3 : Int) (x5 : Int) (t : Tb) : Option (Int × Tb) := rec 3 [x1, x2, x3, x5, 0] [] t
def xm_Ma_addRow (fu : Nat) : Nat → Nat → List Int → List Nat → Tb → Option (Int × Tb)
  | 0, _, _, _, _ => none
  | n + 1, pc, a, ks, t => if pc = 3 then xb_Ma_addRow_3 fu (xm_Ma_addRow fu n) (a.getD 0 0) (a.getD 1 0) (a.getD 2 0) (a.getD 3 0) (a.getD 4 0) t else none
def x_Ma_addRow (fu : Nat) (x1 : Int) (x2 : Int) (x3 : Int) (x5 : Int) (t : Tb) : Option (Int × Tb) := xb_Ma_addRow_e fu (xm_Ma_addRow fu fu) x1 x2 x3 x5 t
set_option maxRecDepth 20000 in
theorem xt_Ma_addRow_3 {fu : Nat} {rec : Nat → List Int → List Nat → Tb → Option (Int × Tb)} {o : Int × Tb} {Q : Sto → Prop} (hQ : Q (tof o.2)) (hr_3 : ∀ (x1 : Int) (x2 : Int) (x3 : Int) (x5 : Int) (x7 : Int) (t : Tb), rec 3 [x1, x2, x3, x5, x7] [] t = some o → H_Ma_addRow_3 Q x1 x2 x3 x5 x7 (tof t)) {x1 : Int} {x2 : Int} {x3 : Int} {x5 : Int} {x7 : Int} {t : Tb} (h0 : xb_Ma_addRow_3 fu rec x1 x2 x3 x5 x7 t = some o) : H_Ma_addRow_3 Q x1 x2 x3 x5 x7 (tof t) :=
  b_Ma_addRow_3 (xr_and h0 fun _ h1 => xr_ite h1 (fun z y => by omega) (fun h2 => xr_leafV h2 hQ) (fun h3 => xr_and h3 fun _ h4 => xr_ite h4 (fun z => z) (fun h5 => xr_leafV h5 hQ) (fun h6 => xr_and h6 fun _ h7 => xr_and h7 fun _ h8 => xr_and h8 fun _ h9 => xr_and h9 fun _ h10 => xr_and h10 fun _ h11 => xr_call h11 (fun _ _ hc => xs_JM_floorMod hc ⟨rfl, rfl⟩) fun r13 t12 h12 => xr_and h12 fun _ h13 => xr_up h13 fun t16 h14 => hr_3 _ _ _ _ _ _ h14)))
set_option maxRecDepth 20000 in
theorem xt_Ma_addRow_e {fu : Nat} {rec : Nat → List Int → List Nat → Tb → Option (Int × Tb)} {o : Int × Tb} {Q : Sto → Prop} (hQ : Q (tof o.2)) (hr_3 : ∀ (x1 : Int) (x2 : Int) (x3 : Int) (x5 : Int) (x7 : Int) (t : Tb), rec 3 [x1, x2, x3, x5, x7] [] t = some o → H_Ma_addRow_3 Q x1 x2 x3 x5 x7 (tof t)) {x1 : Int} {x2 : Int} {x3 : Int} {x5 : Int} {t : Tb} (h0 : xb_Ma_addRow_e fu rec x1 x2 x3 x5 t = some o) : K_Ma_addRow x1 x2 x3 x5 (tof t) Q :=
  e_Ma_addRow (hr_3 _ _ _ _ _ _ h0)
theorem xl_Ma_addRow {fu : Nat} {o : Int × Tb} {Q : Sto → Prop} (hQ : Q (tof o.2)) : ∀ n : Nat, (∀ (x1 : Int) (x2 : Int) (x3 : Int) (x5 : Int) (x7 : Int) (t : Tb), xm_Ma_addRow fu n 3 [x1, x2, x3, x5, x7] [] t = some o → H_Ma_addRow_3 Q x1 x2 x3 x5 x7 (tof t)) := by
  intro n
  induction n with
  | zero => exact fun _ _ _ _ _ _ h => (nomatch h)
  | succ n ih =>
    have i3 := ih
    exact fun _ _ _ _ _ _ h => xt_Ma_addRow_3 (fu := fu) hQ i3 h
theorem xs_Ma_addRow {fu : Nat} {x1 : Int} {x2 : Int} {x3 : Int} {x5 : Int} {t : Tb} {r : Int} {t' : Tb} {Q : Sto → Prop} (h : x_Ma_addRow fu x1 x2 x3 x5 t = some (r, t')) (hQ : Q (tof t')) : K_Ma_addRow x1 x2 x3 x5 (tof t) Q := xt_Ma_addRow_e (o := (r, t')) hQ (xl_Ma_addRow hQ fu) h
def xb_Ma_addUndividedRow_15 (fu : Nat) (rec : Nat → List Int → List Nat → Tb → Option (Int × Tb)) (x1 : Int) (x2 : Int) (x4 : Int) (x6 : Int) (t : Tb) : Option (Int × Tb) := if (-2147483648 ≤ x6 ∧ x6 < 2147483648) ∧ -2147483648 ≤ ((tof t) 42 4) ∧ ((tof t) 42 4) < 2147483648 then if ((tof t) 42 4) ≤ x6 then some (0, t) else rec 29 [x1, x2, x4, x6, (x1 + 1)] [] t else none
def xb_Ma_addUndividedRow_29 (fu : Nat) (rec : Nat → List Int → List Nat → Tb → Option (Int × Tb)) (x1 : Int) (x2 : Int) (x4 : Int) (x6 : Int) (x7 : Int) (t : Tb) : Option (Int × Tb) := if (-2147483648 ≤ x7 ∧ x7 < 2147483648) ∧ -2147483648 ≤ ((tof t) 42 4) ∧ ((tof t) 42 4) < 2147483648 then if ((tof t) 42 4) ≤ x7 then rec 15 [x1, x2, x4, (x6 + 1)] [] t else if -9223372036854775808 ≤ x4 ∧ x4 < 9223372036854775808 then if x4 = 0 then rec 15 [x1, x2, x4, (x6 + 1)] [] t else if 0 ≤ x6 ∧ x6 < 8 then if 0 ≤ x7 ∧ x7 < 9 then if ((-9223372036854775808 ≤ ((tof t) (45 + Int.toNat x6) (Int.toNat x7)) ∧ ((tof t) (45 + Int.toNat x6) (Int.toNat x7)) < 9223372036854775808) ∧ -9223372036854775808 ≤ x4 ∧ x4 < 9223372036854775808) ∧ ¬ x4 = 0 then if -9223372036854775808 ≤ (Int.tmod ((tof t) (45 + Int.toNat x6) (Int.toNat x7)) x4) ∧ (Int.tmod ((tof t) (45 + Int.toNat x6) (Int.toNat x7)) x4) < 9223372036854775808 then if (Int.tmod ((tof t) (45 + Int.toNat x6) (Int.toNat x7)) x4) = 0 then rec 29 [x1, x2, x4, x6, (x7 + 1)] [] t else bnd (x_Ma_addRow fu x6 x1 1 x2 t) fun _ t16 => some (1, t16) else none else none else none else none else none else none
def xb_Ma_addUndividedRow_e (fu : Nat) (rec : Nat → List Int → List Nat → Tb → Option (Int × Tb)) (x1 : Int) (x2 : Int) (t : Tb) : Option (Int × Tb) := if 0 ≤ x1 ∧ x1 < 8 then if 0 ≤ x1 ∧ x1 < 9 then rec 15 [x1, x2, ((tof t) (45 + Int.toNat x1) (Int.toNat x1)), (x1 + 1)] [] t else none else none
def xm_Ma_addUndividedRow (fu : Nat) : Nat → Nat → List Int → List Nat → Tb → Option (Int × Tb)
  | 0, _, _, _, _ => none
  | n + 1, pc, a, ks, t => if pc = 15 then xb_Ma_addUndividedRow_15 fu (xm_Ma_addUndividedRow fu n) (a.getD 0 0) (a.getD 1 0) (a.getD 2 0) (a.getD 3 0) t else if pc = 29 then xb_Ma_addUndividedRow_29 fu (xm_Ma_addUndividedRow fu n) (a.getD 0 0) (a.getD 1 0) (a.getD 2 0) (a.getD 3 0) (a.getD 4 0) t else none
def x_Ma_addUndividedRow (fu : Nat) (x1 : Int) (x2 : Int) (t : Tb) : Option (Int × Tb) := xb_Ma_addUndividedRow_e fu (xm_Ma_addUndividedRow fu fu) x1 x2 t
set_option maxRecDepth 20000 in
theorem xt_Ma_addUndividedRow_15 {fu : Nat} {rec : Nat → List Int → List Nat → Tb → Option (Int × Tb)} {o : Int × Tb} {Q : Int → Sto → Prop} (hQ : Q o.1 (tof o.2)) (hr_15 : ∀ (x1 : Int) (x2 : Int) (x4 : Int) (x6 : Int) (t : Tb), rec 15 [x1, x2, x4, x6] [] t = some o → H_Ma_addUndividedRow_15 Q x1 x2 x4 x6 (tof t)) (hr_29 : ∀ (x1 : Int) (x2 : Int) (x4 : Int) (x6 : Int) (x7 : Int) (t : Tb), rec 29 [x1, x2, x4, x6, x7] [] t = some o → H_Ma_addUndividedRow_29 Q x1 x2 x4 x6 x7 (tof t)) {x1 : Int} {x2 : Int} {x4 : Int} {x6 : Int} {t : Tb} (h0 : xb_Ma_addUndividedRow_15 fu rec x1 x2 x4 x6 t = some o) : H_Ma_addUndividedRow_15 Q x1 x2 x4 x6 (tof t) :=
  b_Ma_addUndividedRow_15 (xr_and h0 fun _ h1 => xr_ite h1 (fun z y => by omega) (fun h2 => xr_leaf h2 hQ) (fun h3 => hr_29 _ _ _ _ _ _ h3))
set_option maxRecDepth 20000 in
theorem xt_Ma_addUndividedRow_29 {fu : Nat} {rec : Nat → List Int → List Nat → Tb → Option (Int × Tb)} {o : Int × Tb} {Q : Int → Sto → Prop} (hQ : Q o.1 (tof o.2)) (hr_15 : ∀ (x1 : Int) (x2 : Int) (x4 : Int) (x6 : Int) (t : Tb), rec 15 [x1, x2, x4, x6] [] t = some o → H_Ma_addUndividedRow_15 Q x1 x2 x4 x6 (tof t)) (hr_29 : ∀ (x1 : Int) (x2 : Int) (x4 : Int) (x6 : Int) (x7 : Int) (t : Tb), rec 29 [x1, x2, x4, x6, x7] [] t = some o → H_Ma_addUndividedRow_29 Q x1 x2 x4 x6 x7 (tof t)) {x1 : Int} {x2 : Int} {x4 : Int} {x6 : Int} {x7 : Int} {t : Tb} (h0 : xb_Ma_addUndividedRow_29 fu rec x1 x2 x4 x6 x7 t = some o) : H_Ma_addUndividedRow_29 Q x1 x2 x4 x6 x7 (tof t) :=
  b_Ma_addUndividedRow_29 (xr_and h0 fun _ h4 => xr_ite h4 (fun z y => by omega) (fun h5 => hr_15 _ _ _ _ _ h5) (fun h6 => xr_and h6 fun _ h7 => xr_ite h7 (fun z => z) (fun h8 => hr_15 _ _ _ _ _ h8) (fun h9 => xr_and h9 fun _ h10 => xr_and h10 fun _ h11 => xr_and h11 fun _ h12 => xr_and h12 fun _ h13 => xr_ite h13 (fun z => z) (fun h14 => hr_29 _ _ _ _ _ _ h14) (fun h15 => xr_callV h15 (fun _ _ hc => xs_Ma_addRow hc rfl) fun _ t16 h16 => xr_leaf h16 hQ))))
set_option maxRecDepth 20000 in
theorem xt_Ma_addUndividedRow_e {fu : Nat} {rec : Nat → List Int → List Nat → Tb → Option (Int × Tb)} {o : Int × Tb} {Q : Int → Sto → Prop} (hQ : Q o.1 (tof o.2)) (hr_15 : ∀ (x1 : Int) (x2 : Int) (x4 : Int) (x6 : Int) (t : Tb), rec 15 [x1, x2, x4, x6] [] t = some o → H_Ma_addUndividedRow_15 Q x1 x2 x4 x6 (tof t)) (hr_29 : ∀ (x1 : Int) (x2 : Int) (x4 : Int) (x6 : Int) (x7 : Int) (t : Tb), rec 29 [x1, x2, x4, x6, x7] [] t = some o → H_Ma_addUndividedRow_29 Q x1 x2 x4 x6 x7 (tof t)) {x1 : Int} {x2 : Int} {t : Tb} (h0 : xb_Ma_addUndividedRow_e fu rec x1 x2 t = some o) : K_Ma_addUndividedRow x1 x2 (tof t) Q :=
  e_Ma_addUndividedRow (xr_and h0 fun _ h17 => xr_and h17 fun _ h18 => hr_15 _ _ _ _ _ h18)
theorem xl_Ma_addUndividedRow {fu : Nat} {o : Int × Tb} {Q : Int → Sto → Prop} (hQ : Q o.1 (tof o.2)) : ∀ n : Nat, (∀ (x1 : Int) (x2 : Int) (x4 : Int) (x6 : Int) (t : Tb), xm_Ma_addUndividedRow fu n 15 [x1, x2, x4, x6] [] t = some o → H_Ma_addUndividedRow_15 Q x1 x2 x4 x6 (tof t)) ∧ (∀ (x1 : Int) (x2 : Int) (x4 : Int) (x6 : Int) (x7 : Int) (t : Tb), xm_Ma_addUndividedRow fu n 29 [x1, x2, x4, x6, x7] [] t = some o → H_Ma_addUndividedRow_29 Q x1 x2 x4 x6 x7 (tof t)) := by
  intro n
  induction n with
  | zero => exact ⟨fun _ _ _ _ _ h => (nomatch h), fun _ _ _ _ _ _ h => (nomatch h)⟩
  | succ n ih =>
    obtain ⟨i15, i29⟩ := ih
    exact ⟨fun _ _ _ _ _ h => xt_Ma_addUndividedRow_15 (fu := fu) hQ i15 i29 h, fun _ _ _ _ _ _ h => xt_Ma_addUndividedRow_29 (fu := fu) hQ i15 i29 h⟩
theorem xs_Ma_addUndividedRow {fu : Nat} {x1 : Int} {x2 : Int} {t : Tb} {r : Int} {t' : Tb} {Q : Int → Sto → Prop} (h : x_Ma_addUndividedRow fu x1 x2 t = some (r, t')) (hQ : Q r (tof t')) : K_Ma_addUndividedRow x1 x2 (tof t) Q := xt_Ma_addUndividedRow_e (o := (r, t')) hQ (xl_Ma_addUndividedRow hQ fu).1 (xl_Ma_addUndividedRow hQ fu).2 h
def xb_Ma_swapColumns_2 (fu : Nat) (rec : Nat → List Int → List Nat → Tb → Option (Int × Tb)) (x1 : Int) (x2 : Int) (x3 : Int) (t : Tb) : Option (Int × Tb) := if (-2147483648 ≤ x3 ∧ x3 < 2147483648) ∧ -2147483648 ≤ ((tof t) 42 4) ∧ ((tof t) 42 4) < 2147483648 then if ((tof t) 42 4) ≤ x3 then some (0, t) else if 0 ≤ x3 ∧ x3 < 8 then if 0 ≤ x1 ∧ x1 < 9 then if 0 ≤ x3 ∧ x3 < 8 then if 0 ≤ x3 ∧ x3 < 8 then if 0 ≤ x2 ∧ x2 < 9 then if 0 ≤ x1 ∧ x1 < 9 then upB t (45 + Int.toNat x3) (Int.toNat x1) ((tof t) (45 + Int.toNat x3) (Int.toNat x2)) fun t9 => if 0 ≤ x3 ∧ x3 < 8 then if 0 ≤ x2 ∧ x2 < 9 then upB t9 (45 + Int.toNat x3) (Int.toNat x2) ((tof t) (45 + Int.toNat x3) (Int.toNat x1)) fun t12 => rec 2 [x1, x2, (x3 + 1)] [] t12 else none else none else none else none else none else none else none else none else none
def xb_Ma_swapColumns_e (fu : Nat) (rec : Nat → List Int → List Nat → Tb → Option (Int × Tb)) (x1 : Int) (x2 : Int) (t : Tb) : Option (Int × Tb) := rec 2 [x1, x2, 0] [] t
def xm_Ma_swapColumns (fu : Nat) : Nat → Nat → List Int → List Nat → Tb → Option (Int × Tb)
  | 0, _, _, _, _ => none
  | n + 1, pc, a, ks, t => if pc = 2 then xb_Ma_swapColumns_2 fu (xm_Ma_swapColumns fu n) (a.getD 0 0) (a.getD 1 0) (a.getD 2 0) t else none
def x_Ma_swapColumns (fu : Nat) (x1 : Int) (x2 : Int) (t : Tb) : Option (Int × Tb) := xb_Ma_swapColumns_e fu (xm_Ma_swapColumns fu fu) x1 x2 t
set_option maxRecDepth 20000 in
theorem xt_Ma_swapColumns_2 {fu : Nat} {rec : Nat → List Int → List Nat → Tb → Option (Int × Tb)} {o : Int × Tb} {Q : Sto → Prop} (hQ : Q (tof o.2)) (hr_2 : ∀ (x1 : Int) (x2 : Int) (x3 : Int) (t : Tb), rec 2 [x1, x2, x3] [] t = some o → H_Ma_swapColumns_2 Q x1 x2 x3 (tof t)) {x1 : Int} {x2 : Int} {x3 : Int} {t : Tb} (h0 : xb_Ma_swapColumns_2 fu rec x1 x2 x3 t = some o) : H_Ma_swapColumns_2 Q x1 x2 x3 (tof t) :=
  b_Ma_swapColumns_2 (xr_and h0 fun _ h1 => xr_ite h1 (fun z y => by omega) (fun h2 => xr_leafV h2 hQ) (fun h3 => xr_and h3 fun _ h4 => xr_and h4 fun _ h5 => xr_and h5 fun _ h6 => xr_and h6 fun _ h7 => xr_and h7 fun _ h8 => xr_and h8 fun _ h9 => xr_up h9 fun t9 h10 => xr_and h10 fun _ h11 => xr_and h11 fun _ h12 => xr_up h12 fun t12 h13 => hr_2 _ _ _ _ h13))
set_option maxRecDepth 20000 in
theorem xt_Ma_swapColumns_e {fu : Nat} {rec : Nat → List Int → List Nat → Tb → Option (Int × Tb)} {o : Int × Tb} {Q : Sto → Prop} (hQ : Q (tof o.2)) (hr_2 : ∀ (x1 : Int) (x2 : Int) (x3 : Int) (t : Tb), rec 2 [x1, x2, x3] [] t = some o → H_Ma_swapColumns_2 Q x1 x2 x3 (tof t)) {x1 : Int} {x2 : Int} {t : Tb} (h0 : xb_Ma_swapColumns_e fu rec x1 x2 t = some o) : K_Ma_swapColumns x1 x2 (tof t) Q :=
  e_Ma_swapColumns (hr_2 _ _ _ _ h0)
theorem xl_Ma_swapColumns {fu : Nat} {o : Int × Tb} {Q : Sto → Prop} (hQ : Q (tof o.2)) : ∀ n : Nat, (∀ (x1 : Int) (x2 : Int) (x3 : Int) (t : Tb), xm_Ma_swapColumns fu n 2 [x1, x2, x3] [] t = some o → H_Ma_swapColumns_2 Q x1 x2 x3 (tof t)) := by
  intro n
  induction n with
  | zero => exact fun _ _ _ _ h => (nomatch h)
  | succ n ih =>
    have i2 := ih
    exact fun _ _ _ _ h => xt_Ma_swapColumns_2 (fu := fu) hQ i2 h
theorem xs_Ma_swapColumns {fu : Nat} {x1 : Int} {x2 : Int} {t : Tb} {r : Int} {t' : Tb} {Q : Sto → Prop} (h : x_Ma_swapColumns fu x1 x2 t = some (r, t')) (hQ : Q (tof t')) : K_Ma_swapColumns x1 x2 (tof t) Q := xt_Ma_swapColumns_e (o := (r, t')) hQ (xl_Ma_swapColumns hQ fu) h
def xb_Ma_swapRows_2 (fu : Nat) (rec : Nat → List Int → List Nat → Tb → Option (Int × Tb)) (x1 : Int) (x2 : Int) (x3 : Int) (t : Tb) : Option (Int × Tb) := if (-2147483648 ≤ x3 ∧ x3 < 2147483648) ∧ -2147483648 ≤ ((tof t) 42 4) ∧ ((tof t) 42 4) < 2147483648 then if ((tof t) 42 4) ≤ x3 then some (0, t) else if 0 ≤ x1 ∧ x1 < 8 then if 0 ≤ x3 ∧ x3 < 9 then if 0 ≤ x1 ∧ x1 < 8 then if 0 ≤ x2 ∧ x2 < 8 then if 0 ≤ x3 ∧ x3 < 9 then if 0 ≤ x3 ∧ x3 < 9 then upB t (45 + Int.toNat x1) (Int.toNat x3) ((tof t) (45 + Int.toNat x2) (Int.toNat x3)) fun t9 => if 0 ≤ x2 ∧ x2 < 8 then if 0 ≤ x3 ∧ x3 < 9 then upB t9 (45 + Int.toNat x2) (Int.toNat x3) ((tof t) (45 + Int.toNat x1) (Int.toNat x3)) fun t12 => rec 2 [x1, x2, (x3 + 1)] [] t12 else none else none else none else none else none else none else none else none else none
def xb_Ma_swapRows_e (fu : Nat) (rec : Nat → List Int → List Nat → Tb → Option (Int × Tb)) (x1 : Int) (x2 : Int) (t : Tb) : Option (Int × Tb) := rec 2 [x1, x2, 0] [] t
def xm_Ma_swapRows (fu : Nat) : Nat → Nat → List Int → List Nat → Tb → Option (Int × Tb)
  | 0, _, _, _, _ => none
  | n + 1, pc, a, ks, t => if pc = 2 then xb_Ma_swapRows_2 fu (xm_Ma_swapRows fu n) (a.getD 0 0) (a.getD 1 0) (a.getD 2 0) t else none
def x_Ma_swapRows (fu : Nat) (x1 : Int) (x2 : Int) (t : Tb) : Option (Int × Tb) := xb_Ma_swapRows_e fu (xm_Ma_swapRows fu fu) x1 x2 t
set_option maxRecDepth 20000 in
theorem xt_Ma_swapRows_2 {fu : Nat} {rec : Nat → List Int → List Nat → Tb → Option (Int × Tb)} {o : Int × Tb} {Q : Sto → Prop} (hQ : Q (tof o.2)) (hr_2 : ∀ (x1 : Int) (x2 : Int) (x3 : Int) (t : Tb), rec 2 [x1, x2, x3] [] t = some o → H_Ma_swapRows_2 Q x1 x2 x3 (tof t)) {x1 : Int} {x2 : Int} {x3 : Int} {t : Tb} (h0 : xb_Ma_swapRows_2 fu rec x1 x2 x3 t = some o) : H_Ma_swapRows_2 Q x1 x2 x3 (tof t) :=
  b_Ma_swapRows_2 (xr_and h0 fun _ h1 => xr_ite h1 (fun z y => by omega) (fun h2 => xr_leafV h2 hQ) (fun h3 => xr_and h3 fun _ h4 => xr_and h4 fun _ h5 => xr_and h5 fun _ h6 => xr_and h6 fun _ h7 => xr_and h7 fun _ h8 => xr_and h8 fun _ h9 => xr_up h9 fun t9 h10 => xr_and h10 fun _ h11 => xr_and h11 fun _ h12 => xr_up h12 fun t12 h13 => hr_2 _ _ _ _ h13))
set_option maxRecDepth 20000 in
theorem xt_Ma_swapRows_e {fu : Nat} {rec : Nat → List Int → List Nat → Tb → Option (Int × Tb)} {o : Int × Tb} {Q : Sto → Prop} (hQ : Q (tof o.2)) (hr_2 : ∀ (x1 : Int) (x2 : Int) (x3 : Int) (t : Tb), rec 2 [x1, x2, x3] [] t = some o → H_Ma_swapRows_2 Q x1 x2 x3 (tof t)) {x1 : Int} {x2 : Int} {t : Tb} (h0 : xb_Ma_swapRows_e fu rec x1 x2 t = some o) : K_Ma_swapRows x1 x2 (tof t) Q :=
  e_Ma_swapRows (hr_2 _ _ _ _ h0)
theorem xl_Ma_swapRows {fu : Nat} {o : Int × Tb} {Q : Sto → Prop} (hQ : Q (tof o.2)) : ∀ n : Nat, (∀ (x1 : Int) (x2 : Int) (x3 : Int) (t : Tb), xm_Ma_swapRows fu n 2 [x1, x2, x3] [] t = some o → H_Ma_swapRows_2 Q x1 x2 x3 (tof t)) := by
  intro n
  induction n with
  | zero => exact fun _ _ _ _ h => (nomatch h)
  | succ n ih =>
    have i2 := ih
    exact fun _ _ _ _ h => xt_Ma_swapRows_2 (fu := fu) hQ i2 h
theorem xs_Ma_swapRows {fu : Nat} {x1 : Int} {x2 : Int} {t : Tb} {r : Int} {t' : Tb} {Q : Sto → Prop} (h : x_Ma_swapRows fu x1 x2 t = some (r, t')) (hQ : Q (tof t')) : K_Ma_swapRows x1 x2 (tof t) Q := xt_Ma_swapRows_e (o := (r, t')) hQ (xl_Ma_swapRows hQ fu) h
def xb_Ma_bringLeastToCorner_7 (fu : Nat) (rec : Nat → List Int → List Nat → Tb → Option (Int × Tb)) (x1 : Int) (x2 : Int) (x3 : Int) (x4 : Int) (t : Tb) : Option (Int × Tb) := if (-2147483648 ≤ x4 ∧ x4 < 2147483648) ∧ -2147483648 ≤ ((tof t) 42 4) ∧ ((tof t) 42 4) < 2147483648 then if ((tof t) 42 4) ≤ x4 then if -2147483648 ≤ x2 ∧ x2 < 2147483648 then if 0 ≤ x2 then bnd (x_Ma_swapRows fu x1 x2 t) fun _ t7 => bnd (x_Ma_swapColumns fu x1 x3 t7) fun _ t12 => some (1, t12) else some (0, t) else none else rec 19 [x1, x2, x3, x4, x1] [] t else none
def xj_Ma_bringLeastToCorner_19_J29 (fu : Nat) (rec : Nat → List Int → List Nat → Tb → Option (Int × Tb)) (x4 : Int) (x5 : Int) (t : Tb) (x1 : Int) (x2 : Int) (x3 : Int) (v28 : Int) : Option (Int × Tb) := if 0 ≤ x4 ∧ x4 < 8 then if 0 ≤ x5 ∧ x5 < 9 then if -9223372036854775808 ≤ ((tof t) (45 + Int.toNat x4) (Int.toNat x5)) ∧ ((tof t) (45 + Int.toNat x4) (Int.toNat x5)) < 9223372036854775808 then if ((tof t) (45 + Int.toNat x4) (Int.toNat x5)) = 0 then rec 19 [x1, x2, x3, x4, (x5 + 1)] [] t else if -2147483648 ≤ v28 ∧ v28 < 2147483648 then if v28 = 0 then rec 19 [x1, x2, x3, x4, (x5 + 1)] [] t else rec 19 [x1, x4, x5, x4, (x5 + 1)] [] t else none else none else none else none
def xj_Ma_bringLeastToCorner_19_J22 (fu : Nat) (rec : Nat → List Int → List Nat → Tb → Option (Int × Tb)) (x4 : Int) (x5 : Int) (t : Tb) (x1 : Int) (x2 : Int) (x3 : Int) : Option (Int × Tb) := xj_Ma_bringLeastToCorner_19_J29 fu rec x4 x5 t x1 x2 x3 1
def xb_Ma_bringLeastToCorner_19 (fu : Nat) (rec : Nat → List Int → List Nat → Tb → Option (Int × Tb)) (x1 : Int) (x2 : Int) (x3 : Int) (x4 : Int) (x5 : Int) (t : Tb) : Option (Int × Tb) := if (-2147483648 ≤ x5 ∧ x5 < 2147483648) ∧ -2147483648 ≤ ((tof t) 42 4) ∧ ((tof t) 42 4) < 2147483648 then if ((tof t) 42 4) ≤ x5 then rec 7 [x1, x2, x3, (x4 + 1)] [] t else if -2147483648 ≤ x2 ∧ x2 < 2147483648 then if x2 < 0 then xj_Ma_bringLeastToCorner_19_J22 fu rec x4 x5 t x1 x2 x3 else if 0 ≤ x4 ∧ x4 < 8 then if 0 ≤ x5 ∧ x5 < 9 then if 0 ≤ x2 ∧ x2 < 8 then if 0 ≤ x3 ∧ x3 < 9 then if (-9223372036854775808 ≤ ((tof t) (45 + Int.toNat x4) (Int.toNat x5)) ∧ ((tof t) (45 + Int.toNat x4) (Int.toNat x5)) < 9223372036854775808) ∧ -9223372036854775808 ≤ ((tof t) (45 + Int.toNat x2) (Int.toNat x3)) ∧ ((tof t) (45 + Int.toNat x2) (Int.toNat x3)) < 9223372036854775808 then if ((tof t) (45 + Int.toNat x2) (Int.toNat x3)) ≤ ((tof t) (45 + Int.toNat x4) (Int.toNat x5)) then xj_Ma_bringLeastToCorner_19_J29 fu rec x4 x5 t x1 x2 x3 0 else xj_Ma_bringLeastToCorner_19_J22 fu rec x4 x5 t x1 x2 x3 else none else none else none else none else none else none else none
def xb_Ma_bringLeastToCorner_e (fu : Nat) (rec : Nat → List Int → List Nat → Tb → Option (Int × Tb)) (x1 : Int) (t : Tb) : Option (Int × Tb) := rec 7 [x1, (-1), (-1), x1] [] t
def xm_Ma_bringLeastToCorner (fu : Nat) : Nat → Nat → List Int → List Nat → Tb → Option (Int × Tb)
  | 0, _, _, _, _ => none
  | n + 1, pc, a, ks, t => if pc = 7 then xb_Ma_bringLeastToCorner_7 fu (xm_Ma_bringLeastToCorner fu n) (a.getD 0 0) (a.getD 1 0) (a.getD 2 0) (a.getD 3 0) t else if pc = 19 then xb_Ma_bringLeastToCorner_19 fu (xm_Ma_bringLeastToCorner fu n) (a.getD 0 0) (a.getD 1 0) (a.getD 2 0) (a.getD 3 0) (a.getD 4 0) t else none
def x_Ma_bringLeastToCorner (fu : Nat) (x1 : Int) (t : Tb) : Option (Int × Tb) := xb_Ma_bringLeastToCorner_e fu (xm_Ma_bringLeastToCorner fu fu) x1 t
set_option maxRecDepth 20000 in
theorem xt_Ma_bringLeastToCorner_7 {fu : Nat} {rec : Nat → List Int → List Nat → Tb → Option (Int × Tb)} {o : Int × Tb} {Q : Int → Sto → Prop} (hQ : Q o.1 (tof o.2)) (hr_7 : ∀ (x1 : Int) (x2 : Int) (x3 : Int) (x4 : Int) (t : Tb), rec 7 [x1, x2, x3, x4] [] t = some o → H_Ma_bringLeastToCorner_7 Q x1 x2 x3 x4 (tof t)) (hr_19 : ∀ (x1 : Int) (x2 : Int) (x3 : Int) (x4 : Int) (x5 : Int) (t : Tb), rec 19 [x1, x2, x3, x4, x5] [] t = some o → H_Ma_bringLeastToCorner_19 Q x1 x2 x3 x4 x5 (tof t)) {x1 : Int} {x2 : Int} {x3 : Int} {x4 : Int} {t : Tb} (h0 : xb_Ma_bringLeastToCorner_7 fu rec x1 x2 x3 x4 t = some o) : H_Ma_bringLeastToCorner_7 Q x1 x2 x3 x4 (tof t) :=
  b_Ma_bringLeastToCorner_7 (xr_and h0 fun _ h1 => xr_ite h1 (fun z y => by omega) (fun h2 => xr_and h2 fun _ h4 => xr_ite h4 (fun z y => by omega) (fun h5 => xr_callV h5 (fun _ _ hc => xs_Ma_swapRows hc rfl) fun _ t7 h7 => xr_callV h7 (fun _ _ hc => xs_Ma_swapColumns hc rfl) fun _ t12 h8 => xr_leaf h8 hQ) (fun h6 => xr_leaf h6 hQ)) (fun h3 => hr_19 _ _ _ _ _ _ h3))
set_option maxRecDepth 20000 in
theorem xt_Ma_bringLeastToCorner_19 {fu : Nat} {rec : Nat → List Int → List Nat → Tb → Option (Int × Tb)} {o : Int × Tb} {Q : Int → Sto → Prop} (hQ : Q o.1 (tof o.2)) (hr_7 : ∀ (x1 : Int) (x2 : Int) (x3 : Int) (x4 : Int) (t : Tb), rec 7 [x1, x2, x3, x4] [] t = some o → H_Ma_bringLeastToCorner_7 Q x1 x2 x3 x4 (tof t)) (hr_19 : ∀ (x1 : Int) (x2 : Int) (x3 : Int) (x4 : Int) (x5 : Int) (t : Tb), rec 19 [x1, x2, x3, x4, x5] [] t = some o → H_Ma_bringLeastToCorner_19 Q x1 x2 x3 x4 x5 (tof t)) {x1 : Int} {x2 : Int} {x3 : Int} {x4 : Int} {x5 : Int} {t : Tb} (h0 : xb_Ma_bringLeastToCorner_19 fu rec x1 x2 x3 x4 x5 t = some o) : H_Ma_bringLeastToCorner_19 Q x1 x2 x3 x4 x5 (tof t) :=
  b_Ma_bringLeastToCorner_19 (xr_and h0 fun _ h9 => xr_ite h9 (fun z y => by omega) (fun h10 => hr_7 _ _ _ _ _ h10) (fun h11 => ⟨xj_Ma_bringLeastToCorner_19_J22 fu rec x4 x5 t x1 x2 x3 = some o, fun v28 => xj_Ma_bringLeastToCorner_19_J29 fu rec x4 x5 t x1 x2 x3 v28 = some o, fun h12 => h12, fun v28 h14 => xr_and h14 fun _ h16 => xr_and h16 fun _ h17 => xr_and h17 fun _ h18 => xr_ite h18 (fun z => z) (fun h19 => hr_19 _ _ _ _ _ _ h19) (fun h20 => xr_and h20 fun _ h21 => xr_ite h21 (fun z => z) (fun h22 => hr_19 _ _ _ _ _ _ h22) (fun h23 => hr_19 _ _ _ _ _ _ h23)), xr_and h11 fun _ h24 => xr_ite h24 (fun z y => by omega) (fun h25 => h25) (fun h26 => xr_and h26 fun _ h27 => xr_and h27 fun _ h28 => xr_and h28 fun _ h29 => xr_and h29 fun _ h30 => xr_and h30 fun _ h31 => xr_ite h31 (fun z y => by omega) (fun h32 => h32) (fun h33 => h33))⟩))
set_option maxRecDepth 20000 in
theorem xt_Ma_bringLeastToCorner_e {fu : Nat} {rec : Nat → List Int → List Nat → Tb → Option (Int × Tb)} {o : Int × Tb} {Q : Int → Sto → Prop} (hQ : Q o.1 (tof o.2)) (hr_7 : ∀ (x1 : Int) (x2 : Int) (x3 : Int) (x4 : Int) (t : Tb), rec 7 [x1, x2, x3, x4] [] t = some o → H_Ma_bringLeastToCorner_7 Q x1 x2 x3 x4 (tof t)) (hr_19 : ∀ (x1 : Int) (x2 : Int) (x3 : Int) (x4 : Int) (x5 : Int) (t : Tb), rec 19 [x1, x2, x3, x4, x5] [] t = some o → H_Ma_bringLeastToCorner_19 Q x1 x2 x3 x4 x5 (tof t)) {x1 : Int} {t : Tb} (h0 : xb_Ma_bringLeastToCorner_e fu rec x1 t = some o) : K_Ma_bringLeastToCorner x1 (tof t) Q :=
  e_Ma_bringLeastToCorner (hr_7 _ _ _ _ _ h0)
theorem xl_Ma_bringLeastToCorner {fu : Nat} {o : Int × Tb} {Q : Int → Sto → Prop} (hQ : Q o.1 (tof o.2)) : ∀ n : Nat, (∀ (x1 : Int) (x2 : Int) (x3 : Int) (x4 : Int) (t : Tb), xm_Ma_bringLeastToCorner fu n 7 [x1, x2, x3, x4] [] t = some o → H_Ma_bringLeastToCorner_7 Q x1 x2 x3 x4 (tof t)) ∧ (∀ (x1 : Int) (x2 : Int) (x3 : Int) (x4 : Int) (x5 : Int) (t : Tb), xm_Ma_bringLeastToCorner fu n 19 [x1, x2, x3, x4, x5] [] t = some o → H_Ma_bringLeastToCorner_19 Q x1 x2 x3 x4 x5 (tof t)) := by
  intro n
  induction n with
  | zero => exact ⟨fun _ _ _ _ _ h => (nomatch h), fun _ _ _ _ _ _ h => (nomatch h)⟩
  | succ n ih =>
    obtain ⟨i7, i19⟩ := ih
    exact ⟨fun _ _ _ _ _ h => xt_Ma_bringLeastToCorner_7 (fu := fu) hQ i7 i19 h, fun _ _ _ _ _ _ h => xt_Ma_bringLeastToCorner_19 (fu := fu) hQ i7 i19 h⟩
theorem xs_Ma_bringLeastToCorner {fu : Nat} {x1 : Int} {t : Tb} {r : Int} {t' : Tb} {Q : Int → Sto → Prop} (h : x_Ma_bringLeastToCorner fu x1 t = some (r, t')) (hQ : Q r (tof t')) : K_Ma_bringLeastToCorner x1 (tof t) Q := xt_Ma_bringLeastToCorner_e (o := (r, t')) hQ (xl_Ma_bringLeastToCorner hQ fu).1 (xl_Ma_bringLeastToCorner hQ fu).2 h
def xb_Ma_clearColumn_18 (fu : Nat) (rec : Nat → List Int → List Nat → Tb → Option (Int × Tb)) (x1 : Int) (x2 : Int) (x4 : Int) (x6 : Int) (x7 : Int) (t : Tb) : Option (Int × Tb) := if (-2147483648 ≤ x7 ∧ x7 < 2147483648) ∧ -2147483648 ≤ ((tof t) 42 4) ∧ ((tof t) 42 4) < 2147483648 then if ((tof t) 42 4) ≤ x7 then if x6 = 0 ∨ x6 = 1 then some (x6, t) else none else if -9223372036854775808 ≤ x4 ∧ x4 < 9223372036854775808 then if x4 = 0 then if x6 = 0 ∨ x6 = 1 then some (x6, t) else none else if 0 ≤ x7 ∧ x7 < 8 then if 0 ≤ x1 ∧ x1 < 9 then if ((-9223372036854775808 ≤ ((tof t) (45 + Int.toNat x7) (Int.toNat x1)) ∧ ((tof t) (45 + Int.toNat x7) (Int.toNat x1)) < 9223372036854775808) ∧ -9223372036854775808 ≤ x4 ∧ x4 < 9223372036854775808) ∧ ¬ x4 = 0 then bnd (x_Ma_addRow fu x1 x7 (-(Int.tdiv ((tof t) (45 + Int.toNat x7) (Int.toNat x1)) x4)) x2 t) fun _ t14 => if 0 ≤ x7 ∧ x7 < 8 then if 0 ≤ x1 ∧ x1 < 9 then if -9223372036854775808 ≤ ((tof t14) (45 + Int.toNat x7) (Int.toNat x1)) ∧ ((tof t14) (45 + Int.toNat x7) (Int.toNat x1)) < 9223372036854775808 then if ((tof t14) (45 + Int.toNat x7) (Int.toNat x1)) = 0 then rec 18 [x1, x2, x4, x6, (x7 + 1)] [] t14 else rec 18 [x1, x2, x4, 0, (x7 + 1)] [] t14 else none else none else none else none else none else none else none else none
def xb_Ma_clearColumn_e (fu : Nat) (rec : Nat → List Int → List Nat → Tb → Option (Int × Tb)) (x1 : Int) (x2 : Int) (t : Tb) : Option (Int × Tb) := if 0 ≤ x1 ∧ x1 < 8 then if 0 ≤ x1 ∧ x1 < 9 then rec 18 [x1, x2, ((tof t) (45 + Int.toNat x1) (Int.toNat x1)), 1, (x1 + 1)] [] t else none else none
def xm_Ma_clearColumn (fu : Nat) : Nat → Nat → List Int → List Nat → Tb → Option (Int × Tb)
  | 0, _, _, _, _ => none
  | n + 1, pc, a, ks, t => if pc = 18 then xb_Ma_clearColumn_18 fu (xm_Ma_clearColumn fu n) (a.getD 0 0) (a.getD 1 0) (a.getD 2 0) (a.getD 3 0) (a.getD 4 0) t else none
def x_Ma_clearColumn (fu : Nat) (x1 : Int) (x2 : Int) (t : Tb) : Option (Int × Tb) := xb_Ma_clearColumn_e fu (xm_Ma_clearColumn fu fu) x1 x2 t
set_option maxRecDepth 20000 in
theorem xt_Ma_clearColumn_18 {fu : Nat} {rec : Nat → List Int → List Nat → Tb → Option (Int × Tb)} {o : Int × Tb} {Q : Int → Sto → Prop} (hQ : Q o.1 (tof o.2)) (hr_18 : ∀ (x1 : Int) (x2 : Int) (x4 : Int) (x6 : Int) (x7 : Int) (t : Tb), rec 18 [x1, x2, x4, x6, x7] [] t = some o → H_Ma_clearColumn_18 Q x1 x2 x4 x6 x7 (tof t)) {x1 : Int} {x2 : Int} {x4 : Int} {x6 : Int} {x7 : Int} {t : Tb} (h0 : xb_Ma_clearColumn_18 fu rec x1 x2 x4 x6 x7 t = some o) : H_Ma_clearColumn_18 Q x1 x2 x4 x6 x7 (tof t) :=
  b_Ma_clearColumn_18 (xr_and h0 fun _ h1 => xr_ite h1 (fun z y => by omega) (fun h2 => xr_and h2 fun _ h4 => xr_leaf h4 hQ) (fun h3 => xr_and h3 fun _ h5 => xr_ite h5 (fun z => z) (fun h6 => xr_and h6 fun _ h8 => xr_leaf h8 hQ) (fun h7 => xr_and h7 fun _ h9 => xr_and h9 fun _ h10 => xr_and h10 fun _ h11 => xr_callV h11 (fun _ _ hc => xs_Ma_addRow hc rfl) fun _ t14 h12 => xr_and h12 fun _ h13 => xr_and h13 fun _ h14 => xr_and h14 fun _ h15 => xr_ite h15 (fun z => z) (fun h16 => hr_18 _ _ _ _ _ _ h16) (fun h17 => hr_18 _ _ _ _ _ _ h17))))
set_option maxRecDepth 20000 in
theorem xt_Ma_clearColumn_e {fu : Nat} {rec : Nat → List Int → List Nat → Tb → Option (Int × Tb)} {o : Int × Tb} {Q : Int → Sto → Prop} (hQ : Q o.1 (tof o.2)) (hr_18 : ∀ (x1 : Int) (x2 : Int) (x4 : Int) (x6 : Int) (x7 : Int) (t : Tb), rec 18 [x1, x2, x4, x6, x7] [] t = some o → H_Ma_clearColumn_18 Q x1 x2 x4 x6 x7 (tof t)) {x1 : Int} {x2 : Int} {t : Tb} (h0 : xb_Ma_clearColumn_e fu rec x1 x2 t = some o) : K_Ma_clearColumn x1 x2 (tof t) Q :=
  e_Ma_clearColumn (xr_and h0 fun _ h18 => xr_and h18 fun _ h19 => hr_18 _ _ _ _ _ _ h19)
theorem xl_Ma_clearColumn {fu : Nat} {o : Int × Tb} {Q : Int → Sto → Prop} (hQ : Q o.1 (tof o.2)) : ∀ n : Nat, (∀ (x1 : Int) (x2 : Int) (x4 : Int) (x6 : Int) (x7 : Int) (t : Tb), xm_Ma_clearColumn fu n 18 [x1, x2, x4, x6, x7] [] t = some o → H_Ma_clearColumn_18 Q x1 x2 x4 x6 x7 (tof t)) := by
  intro n
  induction n with
  | zero => exact fun _ _ _ _ _ _ h => (nomatch h)
  | succ n ih =>
    have i18 := ih
    exact fun _ _ _ _ _ _ h => xt_Ma_clearColumn_18 (fu := fu) hQ i18 h
theorem xs_Ma_clearColumn {fu : Nat} {x1 : Int} {x2 : Int} {t : Tb} {r : Int} {t' : Tb} {Q : Int → Sto → Prop} (h : x_Ma_clearColumn fu x1 x2 t = some (r, t')) (hQ : Q r (tof t')) : K_Ma_clearColumn x1 x2 (tof t) Q := xt_Ma_clearColumn_e (o := (r, t')) hQ (xl_Ma_clearColumn hQ fu) h
def xb_Ma_addColumn_3 (fu : Nat) (rec : Nat → List Int → List Nat → Tb → Option (Int × Tb)) (x1 : Int) (x2 : Int) (x3 : Int) (x5 : Int) (x7 : Int) (t : Tb) : Option (Int × Tb) := if (-2147483648 ≤ x7 ∧ x7 < 2147483648) ∧ -2147483648 ≤ ((tof t) 42 4) ∧ ((tof t) 42 4) < 2147483648 then if ((tof t) 42 4) ≤ x7 then some (0, t) else if -9223372036854775808 ≤ x5 ∧ x5 < 9223372036854775808 then if x5 = 0 then some (0, t) else if 0 ≤ x7 ∧ x7 < 8 then if 0 ≤ x7 ∧ x7 < 8 then if 0 ≤ x2 ∧ x2 < 9 then if 0 ≤ x7 ∧ x7 < 8 then if 0 ≤ x1 ∧ x1 < 9 then bnd (x_JM_floorMod fu (((tof t) (45 + Int.toNat x7) (Int.toNat x2)) + (x3 * ((tof t) (45 + Int.toNat x7) (Int.toNat x1)))) x5 t) fun r13 t12 => if 0 ≤ x2 ∧ x2 < 9 then upB t12 (45 + Int.toNat x7) (Int.toNat x2) r13 fun t16 => rec 3 [x1, x2, x3, x5, (x7 + 1)] [] t16 else none else none else none else none else none else none else none else none
def xb_Ma_addColumn_e (fu : Nat) (rec : Nat → List Int → List Nat → Tb → Option (Int × Tb)) (x1 : Int) (x2 : Int) (x3 : Int) (x5 : Int) (t : Tb) : Option (Int × Tb) := rec 3 [x1, x2, x3, x5, 0] [] t
def xm_Ma_addColumn (fu : Nat) : Nat → Nat → List Int → List Nat → Tb → Option (Int × Tb)
  | 0, _, _, _, _ => none
  | n + 1, pc, a, ks, t => if pc = 3 then xb_Ma_addColumn_3 fu (xm_Ma_addColumn fu n) (a.getD 0 0) (a.getD 1 0) (a.getD 2 0) (a.getD 3 0) (a.getD 4 0) t else none
def x_Ma_addColumn (fu : Nat) (x1 : Int) (x2 : Int) (x3 : Int) (x5 : Int) (t : Tb) : Option (Int × Tb) := xb_Ma_addColumn_e fu (xm_Ma_addColumn fu fu) x1 x2 x3 x5 t
set_option maxRecDepth 20000 in
theorem xt_Ma_addColumn_3 {fu : Nat} {rec : Nat → List Int → List Nat → Tb → Option (Int × Tb)} {o : Int × Tb} {Q : Sto → Prop} (hQ : Q (tof o.2)) (hr_3 : ∀ (x1 : Int) (x2 : Int) (x3 : Int) (x5 : Int) (x7 : Int) (t : Tb), rec 3 [x1, x2, x3, x5, x7] [] t = some o → H_Ma_addColumn_3 Q x1 x2 x3 x5 x7 (tof t)) {x1 : Int} {x2 : Int} {x3 : Int} {x5 : Int} {x7 : Int} {t : Tb} (h0 : xb_Ma_addColumn_3 fu rec x1 x2 x3 x5 x7 t = some o) : H_Ma_addColumn_3 Q x1 x2 x3 x5 x7 (tof t) :=
  b_Ma_addColumn_3 (xr_and h0 fun _ h1 => xr_ite h1 (fun z y => by omega) (fun h2 => xr_leafV h2 hQ) (fun h3 => xr_and h3 fun _ h4 => xr_ite h4 (fun z => z) (fun h5 => xr_leafV h5 hQ) (fun h6 => xr_and h6 fun _ h7 => xr_and h7 fun _ h8 => xr_and h8 fun _ h9 => xr_and h9 fun _ h10 => xr_and h10 fun _ h11 => xr_call h11 (fun _ _ hc => xs_JM_floorMod hc ⟨rfl, rfl⟩) fun r13 t12 h12 => xr_and h12 fun _ h13 => xr_up h13 fun t16 h14 => hr_3 _ _ _ _ _ _ h14)))
set_option maxRecDepth 20000 in
theorem xt_Ma_addColumn_e {fu : Nat} {rec : Nat → List Int → List Nat → Tb → Option (Int × Tb)} {o : Int × Tb} {Q : Sto → Prop} (hQ : Q (tof o.2)) (hr_3 : ∀ (x1 : Int) (x2 : Int) (x3 : Int) (x5 : Int) (x7 : Int) (t : Tb), rec 3 [x1, x2, x3, x5, x7] [] t = some o → H_Ma_addColumn_3 Q x1 x2 x3 x5 x7 (tof t)) {x1 : Int} {x2 : Int} {x3 : Int} {x5 : Int} {t : Tb} (h0 : xb_Ma_addColumn_e fu rec x1 x2 x3 x5 t = some o) : K_Ma_addColumn x1 x2 x3 x5 (tof t) Q :=
  e_Ma_addColumn (hr_3 _ _ _ _ _ _ h0)
theorem xl_Ma_addColumn {fu : Nat} {o : Int × Tb} {Q : Sto → Prop} (hQ : Q (tof o.2)) : ∀ n : Nat, (∀ (x1 : Int) (x2 : Int) (x3 : Int) (x5 : Int) (x7 : Int) (t : Tb), xm_Ma_addColumn fu n 3 [x1, x2, x3, x5, x7] [] t = some o → H_Ma_addColumn_3 Q x1 x2 x3 x5 x7 (tof t)) := by
  intro n
  induction n with
  | zero => exact fun _ _ _ _ _ _ h => (nomatch h)
  | succ n ih =>
    have i3 := ih
    exact fun _ _ _ _ _ _ h => xt_Ma_addColumn_3 (fu := fu) hQ i3 h
theorem xs_Ma_addColumn {fu : Nat} {x1 : Int} {x2 : Int} {x3 : Int} {x5 : Int} {t : Tb} {r : Int} {t' : Tb} {Q : Sto → Prop} (h : x_Ma_addColumn fu x1 x2 x3 x5 t = some (r, t')) (hQ : Q (tof t')) : K_Ma_addColumn x1 x2 x3 x5 (tof t) Q := xt_Ma_addColumn_e (o := (r, t')) hQ (xl_Ma_addColumn hQ fu) h
def xb_Ma_clearRow_18 (fu : Nat) (rec : Nat → List Int → List Nat → Tb → Option (Int × Tb)) (x1 : Int) (x2 : Int) (x4 : Int) (x6 : Int) (x7 : Int) (t : Tb) : Option (Int × Tb) := if (-2147483648 ≤ x7 ∧ x7 < 2147483648) ∧ -2147483648 ≤ ((tof t) 42 4) ∧ ((tof t) 42 4) < 2147483648 then if ((tof t) 42 4) ≤ x7 then if x6 = 0 ∨ x6 = 1 then some (x6, t) else none else if -9223372036854775808 ≤ x4 ∧ x4 < 9223372036854775808 then if x4 = 0 then if x6 = 0 ∨ x6 = 1 then some (x6, t) else none else if 0 ≤ x1 ∧ x1 < 8 then if 0 ≤ x7 ∧ x7 < 9 then if ((-9223372036854775808 ≤ ((tof t) (45 + Int.toNat x1) (Int.toNat x7)) ∧ ((tof t) (45 + Int.toNat x1) (Int.toNat x7)) < 9223372036854775808) ∧ -9223372036854775808 ≤ x4 ∧ x4 < 9223372036854775808) ∧ ¬ x4 = 0 then bnd (x_Ma_addColumn fu x1 x7 (-(Int.tdiv ((tof t) (45 + Int.toNat x1) (Int.toNat x7)) x4)) x2 t) fun _ t14 => if 0 ≤ x1 ∧ x1 < 8 then if 0 ≤ x7 ∧ x7 < 9 then if -9223372036854775808 ≤ ((tof t14) (45 + Int.toNat x1) (Int.toNat x7)) ∧ ((tof t14) (45 + Int.toNat x1) (Int.toNat x7)) < 9223372036854775808 then if ((tof t14) (45 + Int.toNat x1) (Int.toNat x7)) = 0 then rec 18 [x1, x2, x4, x6, (x7 + 1)] [] t14 else rec 18 [x1, x2, x4, 0, (x7 + 1)] [] t14 else none else none else none else none else none else none else none else none
def xb_Ma_clearRow_e (fu : Nat) (rec : Nat → List Int → List Nat → Tb → Option (Int × Tb)) (x1 : Int) (x2 : Int) (t : Tb) : Option (Int × Tb) := if 0 ≤ x1 ∧ x1 < 8 then if 0 ≤ x1 ∧ x1 < 9 then rec 18 [x1, x2, ((tof t) (45 + Int.toNat x1) (Int.toNat x1)), 1, (x1 + 1)] [] t else none else none
def xm_Ma_clearRow (fu : Nat) : Nat → Nat → List Int → List Nat → Tb → Option (Int × Tb)
  | 0, _, _, _, _ => none
  | n + 1, pc, a, ks, t => if pc = 18 then xb_Ma_clearRow_18 fu (xm_Ma_clearRow fu n) (a.getD 0 0) (a.getD 1 0) (a.getD 2 0) (a.getD 3 0) (a.getD 4 0) t else none
def x_Ma_clearRow (fu : Nat) (x1 : Int) (x2 : Int) (t : Tb) : Option (Int × Tb) := xb_Ma_clearRow_e fu (xm_Ma_clearRow fu fu) x1 x2 t
set_option maxRecDepth 20000 in
theorem xt_Ma_clearRow_18 {fu : Nat} {rec : Nat → List Int → List Nat → Tb → Option (Int × Tb)} {o : Int × Tb} {Q : Int → Sto → Prop} (hQ : Q o.1 (tof o.2)) (hr_18 : ∀ (x1 : Int) (x2 : Int) (x4 : Int) (x6 : Int) (x7 : Int) (t : Tb), rec 18 [x1, x2, x4, x6, x7] [] t = some o → H_Ma_clearRow_18 Q x1 x2 x4 x6 x7 (tof t)) {x1 : Int} {x2 : Int} {x4 : Int} {x6 : Int} {x7 : Int} {t : Tb} (h0 : xb_Ma_clearRow_18 fu rec x1 x2 x4 x6 x7 t = some o) : H_Ma_clearRow_18 Q x1 x2 x4 x6 x7 (tof t) :=
  b_Ma_clearRow_18 (xr_and h0 fun _ h1 => xr_ite h1 (fun z y => by omega) (fun h2 => xr_and h2 fun _ h4 => xr_leaf h4 hQ) (fun h3 => xr_and h3 fun _ h5 => xr_ite h5 (fun z => z) (fun h6 => xr_and h6 fun _ h8 => xr_leaf h8 hQ) (fun h7 => xr_and h7 fun _ h9 => xr_and h9 fun _ h10 => xr_and h10 fun _ h11 => xr_callV h11 (fun _ _ hc => xs_Ma_addColumn hc rfl) fun _ t14 h12 => xr_and h12 fun _ h13 => xr_and h13 fun _ h14 => xr_and h14 fun _ h15 => xr_ite h15 (fun z => z) (fun h16 => hr_18 _ _ _ _ _ _ h16) (fun h17 => hr_18 _ _ _ _ _ _ h17))))
set_option maxRecDepth 20000 in
theorem xt_Ma_clearRow_e {fu : Nat} {rec : Nat → List Int → List Nat → Tb → Option (Int × Tb)} {o : Int × Tb} {Q : Int → Sto → Prop} (hQ : Q o.1 (tof o.2)) (hr_18 : ∀ (x1 : Int) (x2 : Int) (x4 : Int) (x6 : Int) (x7 : Int) (t : Tb), rec 18 [x1, x2, x4, x6, x7] [] t = some o → H_Ma_clearRow_18 Q x1 x2 x4 x6 x7 (tof t)) {x1 : Int} {x2 : Int} {t : Tb} (h0 : xb_Ma_clearRow_e fu rec x1 x2 t = some o) : K_Ma_clearRow x1 x2 (tof t) Q :=
  e_Ma_clearRow (xr_and h0 fun _ h18 => xr_and h18 fun _ h19 => hr_18 _ _ _ _ _ _ h19)
theorem xl_Ma_clearRow {fu : Nat} {o : Int × Tb} {Q : Int → Sto → Prop} (hQ : Q o.1 (tof o.2)) : ∀ n : Nat, (∀ (x1 : Int) (x2 : Int) (x4 : Int) (x6 : Int) (x7 : Int) (t : Tb), xm_Ma_clearRow fu n 18 [x1, x2, x4, x6, x7] [] t = some o → H_Ma_clearRow_18 Q x1 x2 x4 x6 x7 (tof t)) := by
  intro n
  induction n with
  | zero => exact fun _ _ _ _ _ _ h => (nomatch h)
  | succ n ih =>
    have i18 := ih
    exact fun _ _ _ _ _ _ h => xt_Ma_clearRow_18 (fu := fu) hQ i18 h
theorem xs_Ma_clearRow {fu : Nat} {x1 : Int} {x2 : Int} {t : Tb} {r : Int} {t' : Tb} {Q : Int → Sto → Prop} (h : x_Ma_clearRow fu x1 x2 t = some (r, t')) (hQ : Q r (tof t')) : K_Ma_clearRow x1 x2 (tof t) Q := xt_Ma_clearRow_e (o := (r, t')) hQ (xl_Ma_clearRow hQ fu) h
def xb_Ma_clearAround_3 (fu : Nat) (rec : Nat → List Int → List Nat → Tb → Option (Int × Tb)) (x1 : Int) (x2 : Int) (x4 : Int) (t : Tb) : Option (Int × Tb) := if -2147483648 ≤ x4 ∧ x4 < 2147483648 then if 1000000 ≤ x4 then some (0, t) else bnd (x_Ma_bringLeastToCorner fu x1 t) fun r6 t5 => if -2147483648 ≤ r6 ∧ r6 < 2147483648 then if ¬ r6 = 0 then bnd (x_Ma_clearColumn fu x1 x2 t5) fun r13 t12 => bnd (x_Ma_clearRow fu x1 x2 t12) fun r18 t17 => if -2147483648 ≤ r13 ∧ r13 < 2147483648 then if r13 = 0 then rec 3 [x1, x2, (x4 + 1)] [] t17 else if -2147483648 ≤ r18 ∧ r18 < 2147483648 then if r18 = 0 then rec 3 [x1, x2, (x4 + 1)] [] t17 else bnd (x_Ma_addUndividedRow fu x1 x2 t17) fun r27 t26 => if -2147483648 ≤ r27 ∧ r27 < 2147483648 then if ¬ r27 = 0 then rec 3 [x1, x2, (x4 + 1)] [] t26 else some (0, t26) else none else none else none else some (0, t5) else none else none
def xb_Ma_clearAround_e (fu : Nat) (rec : Nat → List Int → List Nat → Tb → Option (Int × Tb)) (x1 : Int) (x2 : Int) (t : Tb) : Option (Int × Tb) := rec 3 [x1, x2, 0] [] t
def xm_Ma_clearAround (fu : Nat) : Nat → Nat → List Int → List Nat → Tb → Option (Int × Tb)
  | 0, _, _, _, _ => none
  | n + 1, pc, a, ks, t => if pc = 3 then xb_Ma_clearAround_3 fu (xm_Ma_clearAround fu n) (a.getD 0 0) (a.getD 1 0) (a.getD 2 0) t else none
def x_Ma_clearAround (fu : Nat) (x1 : Int) (x2 : Int) (t : Tb) : Option (Int × Tb) := xb_Ma_clearAround_e fu (xm_Ma_clearAround fu fu) x1 x2 t
set_option maxRecDepth 20000 in
theorem xt_Ma_clearAround_3 {fu : Nat} {rec : Nat → List Int → List Nat → Tb → Option (Int × Tb)} {o : Int × Tb} {Q : Sto → Prop} (hQ : Q (tof o.2)) (hr_3 : ∀ (x1 : Int) (x2 : Int) (x4 : Int) (t : Tb), rec 3 [x1, x2, x4] [] t = some o → H_Ma_clearAround_3 Q x1 x2 x4 (tof t)) {x1 : Int} {x2 : Int} {x4 : Int} {t : Tb} (h0 : xb_Ma_clearAround_3 fu rec x1 x2 x4 t = some o) : H_Ma_clearAround_3 Q x1 x2 x4 (tof t) :=
  b_Ma_clearAround_3 (xr_and h0 fun _ h1 => xr_ite h1 (fun z y => by omega) (fun h2 => xr_leafV h2 hQ) (fun h3 => xr_call h3 (fun _ _ hc => xs_Ma_bringLeastToCorner hc ⟨rfl, rfl⟩) fun r6 t5 h4 => xr_and h4 fun _ h5 => xr_ite h5 (fun z y => y z) (fun h6 => xr_call h6 (fun _ _ hc => xs_Ma_clearColumn hc ⟨rfl, rfl⟩) fun r13 t12 h8 => xr_call h8 (fun _ _ hc => xs_Ma_clearRow hc ⟨rfl, rfl⟩) fun r18 t17 h9 => xr_and h9 fun _ h10 => xr_ite h10 (fun z => z) (fun h11 => hr_3 _ _ _ _ h11) (fun h12 => xr_and h12 fun _ h13 => xr_ite h13 (fun z => z) (fun h14 => hr_3 _ _ _ _ h14) (fun h15 => xr_call h15 (fun _ _ hc => xs_Ma_addUndividedRow hc ⟨rfl, rfl⟩) fun r27 t26 h16 => xr_and h16 fun _ h17 => xr_ite h17 (fun z y => y z) (fun h18 => hr_3 _ _ _ _ h18) (fun h19 => xr_leafV h19 hQ)))) (fun h7 => xr_leafV h7 hQ)))
set_option maxRecDepth 20000 in
theorem xt_Ma_clearAround_e {fu : Nat} {rec : Nat → List Int → List Nat → Tb → Option (Int × Tb)} {o : Int × Tb} {Q : Sto → Prop} (hQ : Q (tof o.2)) (hr_3 : ∀ (x1 : Int) (x2 : Int) (x4 : Int) (t : Tb), rec 3 [x1, x2, x4] [] t = some o → H_Ma_clearAround_3 Q x1 x2 x4 (tof t)) {x1 : Int} {x2 : Int} {t : Tb} (h0 : xb_Ma_clearAround_e fu rec x1 x2 t = some o) : K_Ma_clearAround x1 x2 (tof t) Q :=
  e_Ma_clearAround (hr_3 _ _ _ _ h0)
theorem xl_Ma_clearAround {fu : Nat} {o : Int × Tb} {Q : Sto → Prop} (hQ : Q (tof o.2)) : ∀ n : Nat, (∀ (x1 : Int) (x2 : Int) (x4 : Int) (t : Tb), xm_Ma_clearAround fu n 3 [x1, x2, x4] [] t = some o → H_Ma_clearAround_3 Q x1 x2 x4 (tof t)) := by
  intro n
  induction n with
  | zero => exact fun _ _ _ _ h => (nomatch h)
  | succ n ih =>
    have i3 := ih
    exact fun _ _ _ _ h => xt_Ma_clearAround_3 (fu := fu) hQ i3 h
theorem xs_Ma_clearAround {fu : Nat} {x1 : Int} {x2 : Int} {t : Tb} {r : Int} {t' : Tb} {Q : Sto → Prop} (h : x_Ma_clearAround fu x1 x2 t = some (r, t')) (hQ : Q (tof t')) : K_Ma_clearAround x1 x2 (tof t) Q := xt_Ma_clearAround_e (o := (r, t')) hQ (xl_Ma_clearAround hQ fu) h
def xb_Ma_commonDivisor_15 (fu : Nat) (rec : Nat → List Int → List Nat → Tb → Option (Int × Tb)) (x4 : Int) (x6 : Int) (x8 : Int) (t : Tb) : Option (Int × Tb) := if -9223372036854775808 ≤ x6 ∧ x6 < 9223372036854775808 then if x6 = 0 then some (x4, t) else if -2147483648 ≤ x8 ∧ x8 < 2147483648 then if 1000000 ≤ x8 then some (x4, t) else if ((-9223372036854775808 ≤ x4 ∧ x4 < 9223372036854775808) ∧ -9223372036854775808 ≤ x6 ∧ x6 < 9223372036854775808) ∧ ¬ x6 = 0 then rec 15 [x6, (Int.tmod x4 x6), (x8 + 1)] [] t else none else none else none
def xb_Ma_commonDivisor_e (fu : Nat) (rec : Nat → List Int → List Nat → Tb → Option (Int × Tb)) (x0 : Int) (x2 : Int) (t : Tb) : Option (Int × Tb) := if -9223372036854775808 ≤ x0 ∧ x0 < 9223372036854775808 then if -9223372036854775808 ≤ x2 ∧ x2 < 9223372036854775808 then rec 15 [(labs x0), (labs x2), 0] [] t else none else none
def xm_Ma_commonDivisor (fu : Nat) : Nat → Nat → List Int → List Nat → Tb → Option (Int × Tb)
  | 0, _, _, _, _ => none
  | n + 1, pc, a, ks, t => if pc = 15 then xb_Ma_commonDivisor_15 fu (xm_Ma_commonDivisor fu n) (a.getD 0 0) (a.getD 1 0) (a.getD 2 0) t else none
def x_Ma_commonDivisor (fu : Nat) (x0 : Int) (x2 : Int) (t : Tb) : Option (Int × Tb) := xb_Ma_commonDivisor_e fu (xm_Ma_commonDivisor fu fu) x0 x2 t
set_option maxRecDepth 20000 in
theorem xt_Ma_commonDivisor_15 {fu : Nat} {rec : Nat → List Int → List Nat → Tb → Option (Int × Tb)} {o : Int × Tb} {Q : Int → Sto → Prop} (hQ : Q o.1 (tof o.2)) (hr_15 : ∀ (x4 : Int) (x6 : Int) (x8 : Int) (t : Tb), rec 15 [x4, x6, x8] [] t = some o → H_Ma_commonDivisor_15 Q x4 x6 x8 (tof t)) {x4 : Int} {x6 : Int} {x8 : Int} {t : Tb} (h0 : xb_Ma_commonDivisor_15 fu rec x4 x6 x8 t = some o) : H_Ma_commonDivisor_15 Q x4 x6 x8 (tof t) :=
  b_Ma_commonDivisor_15 (xr_and h0 fun _ h1 => xr_ite h1 (fun z => z) (fun h2 => xr_leaf h2 hQ) (fun h3 => xr_and h3 fun _ h4 => xr_ite h4 (fun z y => by omega) (fun h5 => xr_leaf h5 hQ) (fun h6 => xr_and h6 fun _ h7 => hr_15 _ _ _ _ h7)))
set_option maxRecDepth 20000 in
theorem xt_Ma_commonDivisor_e {fu : Nat} {rec : Nat → List Int → List Nat → Tb → Option (Int × Tb)} {o : Int × Tb} {Q : Int → Sto → Prop} (hQ : Q o.1 (tof o.2)) (hr_15 : ∀ (x4 : Int) (x6 : Int) (x8 : Int) (t : Tb), rec 15 [x4, x6, x8] [] t = some o → H_Ma_commonDivisor_15 Q x4 x6 x8 (tof t)) {x0 : Int} {x2 : Int} {t : Tb} (h0 : xb_Ma_commonDivisor_e fu rec x0 x2 t = some o) : K_Ma_commonDivisor x0 x2 (tof t) Q :=
  e_Ma_commonDivisor (xr_and h0 fun _ h8 => xr_and h8 fun _ h9 => hr_15 _ _ _ _ h9)
theorem xl_Ma_commonDivisor {fu : Nat} {o : Int × Tb} {Q : Int → Sto → Prop} (hQ : Q o.1 (tof o.2)) : ∀ n : Nat, (∀ (x4 : Int) (x6 : Int) (x8 : Int) (t : Tb), xm_Ma_commonDivisor fu n 15 [x4, x6, x8] [] t = some o → H_Ma_commonDivisor_15 Q x4 x6 x8 (tof t)) := by
  intro n
  induction n with
  | zero => exact fun _ _ _ _ h => (nomatch h)
  | succ n ih =>
    have i15 := ih
    exact fun _ _ _ _ h => xt_Ma_commonDivisor_15 (fu := fu) hQ i15 h
theorem xs_Ma_commonDivisor {fu : Nat} {x0 : Int} {x2 : Int} {t : Tb} {r : Int} {t' : Tb} {Q : Int → Sto → Prop} (h : x_Ma_commonDivisor fu x0 x2 t = some (r, t')) (hQ : Q r (tof t')) : K_Ma_commonDivisor x0 x2 (tof t) Q := xt_Ma_commonDivisor_e (o := (r, t')) hQ (xl_Ma_commonDivisor hQ fu) h
def xb_Ma_combineRows_30 (fu : Nat) (rec : Nat → List Int → List Nat → Tb → Option (Int × Tb)) (x1 : Int) (x2 : Int) (x3 : Int) (x5 : Int) (x7 : Int) (x9 : Int) (t : Tb) : Option (Int × Tb) := if (-2147483648 ≤ x9 ∧ x9 < 2147483648) ∧ -2147483648 ≤ ((tof t) 42 4) ∧ ((tof t) 42 4) < 2147483648 then if ((tof t) 42 4) < x9 then some (0, t) else if 0 ≤ x1 ∧ x1 < 8 then if 0 ≤ x1 ∧ x1 < 8 then if 0 ≤ x9 ∧ x9 < 9 then if 0 ≤ x2 ∧ x2 < 8 then if 0 ≤ x9 ∧ x9 < 9 then if ((-9223372036854775808 ≤ ((x5 * ((tof t) (45 + Int.toNat x1) (Int.toNat x9))) - (x7 * ((tof t) (45 + Int.toNat x2) (Int.toNat x9)))) ∧ ((x5 * ((tof t) (45 + Int.toNat x1) (Int.toNat x9))) - (x7 * ((tof t) (45 + Int.toNat x2) (Int.toNat x9)))) < 9223372036854775808) ∧ -9223372036854775808 ≤ x3 ∧ x3 < 9223372036854775808) ∧ ¬ x3 = 0 then if 0 ≤ x9 ∧ x9 < 9 then upB t (45 + Int.toNat x1) (Int.toNat x9) (Int.tdiv ((x5 * ((tof t) (45 + Int.toNat x1) (Int.toNat x9))) - (x7 * ((tof t) (45 + Int.toNat x2) (Int.toNat x9)))) x3) fun t16 => rec 30 [x1, x2, x3, x5, x7, (x9 + 1)] [] t16 else none else none else none else none else none else none else none else none
def xb_Ma_combineRows_e (fu : Nat) (rec : Nat → List Int → List Nat → Tb → Option (Int × Tb)) (x1 : Int) (x2 : Int) (x3 : Int) (t : Tb) : Option (Int × Tb) := if -9223372036854775808 ≤ x3 ∧ x3 < 9223372036854775808 then if ¬ x3 = 0 then if 0 ≤ x2 ∧ x2 < 8 then if 0 ≤ x2 ∧ x2 < 9 then if 0 ≤ x1 ∧ x1 < 8 then if 0 ≤ x2 ∧ x2 < 9 then rec 30 [x1, x2, x3, ((tof t) (45 + Int.toNat x2) (Int.toNat x2)), ((tof t) (45 + Int.toNat x1) (Int.toNat x2)), 0] [] t else none else none else none else none else some (0, t) else none
def xm_Ma_combineRows (fu : Nat) : Nat → Nat → List Int → List Nat → Tb → Option (Int × Tb)
  | 0, _, _, _, _ => none
  | n + 1, pc, a, ks, t => if pc = 30 then xb_Ma_combineRows_30 fu (xm_Ma_combineRows fu n) (a.getD 0 0) (a.getD 1 0) (a.getD 2 0) (a.getD 3 0) (a.getD 4 0) (a.getD 5 0) t else none
def x_Ma_combineRows (fu : Nat) (x1 : Int) (x2 : Int) (x3 : Int) (t : Tb) : Option (Int × Tb) := xb_Ma_combineRows_e fu (xm_Ma_combineRows fu fu) x1 x2 x3 t
set_option maxRecDepth 20000 in
theorem xt_Ma_combineRows_30 {fu : Nat} {rec : Nat → List Int → List Nat → Tb → Option (Int × Tb)} {o : Int × Tb} {Q : Sto → Prop} (hQ : Q (tof o.2)) (hr_30 : ∀ (x1 : Int) (x2 : Int) (x3 : Int) (x5 : Int) (x7 : Int) (x9 : Int) (t : Tb), rec 30 [x1, x2, x3, x5, x7, x9] [] t = some o → H_Ma_combineRows_30 Q x1 x2 x3 x5 x7 x9 (tof t)) {x1 : Int} {x2 : Int} {x3 : Int} {x5 : Int} {x7 : Int} {x9 : Int} {t : Tb} (h0 : xb_Ma_combineRows_30 fu rec x1 x2 x3 x5 x7 x9 t = some o) : H_Ma_combineRows_30 Q x1 x2 x3 x5 x7 x9 (tof t) :=
  b_Ma_combineRows_30 (xr_and h0 fun _ h1 => xr_ite h1 (fun z y => by omega) (fun h2 => xr_leafV h2 hQ) (fun h3 => xr_and h3 fun _ h4 => xr_and h4 fun _ h5 => xr_and h5 fun _ h6 => xr_and h6 fun _ h7 => xr_and h7 fun _ h8 => xr_and h8 fun _ h9 => xr_and h9 fun _ h10 => xr_up h10 fun t16 h11 => hr_30 _ _ _ _ _ _ _ h11))
set_option maxRecDepth 20000 in
theorem xt_Ma_combineRows_e {fu : Nat} {rec : Nat → List Int → List Nat → Tb → Option (Int × Tb)} {o : Int × Tb} {Q : Sto → Prop} (hQ : Q (tof o.2)) (hr_30 : ∀ (x1 : Int) (x2 : Int) (x3 : Int) (x5 : Int) (x7 : Int) (x9 : Int) (t : Tb), rec 30 [x1, x2, x3, x5, x7, x9] [] t = some o → H_Ma_combineRows_30 Q x1 x2 x3 x5 x7 x9 (tof t)) {x1 : Int} {x2 : Int} {x3 : Int} {t : Tb} (h0 : xb_Ma_combineRows_e fu rec x1 x2 x3 t = some o) : K_Ma_combineRows x1 x2 x3 (tof t) Q :=
  e_Ma_combineRows (xr_and h0 fun _ h12 => xr_ite h12 (fun z y => y z) (fun h13 => xr_and h13 fun _ h15 => xr_and h15 fun _ h16 => xr_and h16 fun _ h17 => xr_and h17 fun _ h18 => hr_30 _ _ _ _ _ _ _ h18) (fun h14 => xr_leafV h14 hQ))
theorem xl_Ma_combineRows {fu : Nat} {o : Int × Tb} {Q : Sto → Prop} (hQ : Q (tof o.2)) : ∀ n : Nat, (∀ (x1 : Int) (x2 : Int) (x3 : Int) (x5 : Int) (x7 : Int) (x9 : Int) (t : Tb), xm_Ma_combineRows fu n 30 [x1, x2, x3, x5, x7, x9] [] t = some o → H_Ma_combineRows_30 Q x1 x2 x3 x5 x7 x9 (tof t)) := by
  intro n
  induction n with
  | zero => exact fun _ _ _ _ _ _ _ h => (nomatch h)
  | succ n ih =>
    have i30 := ih
    exact fun _ _ _ _ _ _ _ h => xt_Ma_combineRows_30 (fu := fu) hQ i30 h
theorem xs_Ma_combineRows {fu : Nat} {x1 : Int} {x2 : Int} {x3 : Int} {t : Tb} {r : Int} {t' : Tb} {Q : Sto → Prop} (h : x_Ma_combineRows fu x1 x2 x3 t = some (r, t')) (hQ : Q (tof t')) : K_Ma_combineRows x1 x2 x3 (tof t) Q := xt_Ma_combineRows_e (o := (r, t')) hQ (xl_Ma_combineRows hQ fu) h
def xb_Ma_eliminate_4 (fu : Nat) (rec : Nat → List Int → List Nat → Tb → Option (Int × Tb)) (x1 : Int) (x3 : Int) (t : Tb) : Option (Int × Tb) := if (-2147483648 ≤ x3 ∧ x3 < 2147483648) ∧ -2147483648 ≤ ((tof t) 42 4) ∧ ((tof t) 42 4) < 2147483648 then if ((tof t) 42 4) ≤ x3 then some (x1, t) else if 0 ≤ x3 ∧ x3 < 8 then if 0 ≤ x3 ∧ x3 < 9 then if -9223372036854775808 ≤ ((tof t) (45 + Int.toNat x3) (Int.toNat x3)) ∧ ((tof t) (45 + Int.toNat x3) (Int.toNat x3)) < 9223372036854775808 then if ¬ ((tof t) (45 + Int.toNat x3) (Int.toNat x3)) = 0 then rec 34 [x1, x3, ((tof t) (45 + Int.toNat x3) (Int.toNat x3)), 0] [] t else some (0, t) else none else none else none else none
def xb_Ma_eliminate_34 (fu : Nat) (rec : Nat → List Int → List Nat → Tb → Option (Int × Tb)) (x1 : Int) (x3 : Int) (x4 : Int) (x6 : Int) (t : Tb) : Option (Int × Tb) := if (-2147483648 ≤ x6 ∧ x6 < 2147483648) ∧ -2147483648 ≤ ((tof t) 42 4) ∧ ((tof t) 42 4) < 2147483648 then if ((tof t) 42 4) ≤ x6 then rec 4 [x4, (x3 + 1)] [] t else if (-2147483648 ≤ x6 ∧ x6 < 2147483648) ∧ -2147483648 ≤ x3 ∧ x3 < 2147483648 then if x6 = x3 then rec 34 [x1, x3, x4, (x6 + 1)] [] t else bnd (x_Ma_combineRows fu x6 x3 x1 t) fun _ t13 => rec 34 [x1, x3, x4, (x6 + 1)] [] t13 else none else none
def xb_Ma_eliminate_e (fu : Nat) (rec : Nat → List Int → List Nat → Tb → Option (Int × Tb)) (t : Tb) : Option (Int × Tb) := rec 4 [1, 0] [] t
def xm_Ma_eliminate (fu : Nat) : Nat → Nat → List Int → List Nat → Tb → Option (Int × Tb)
  | 0, _, _, _, _ => none
  | n + 1, pc, a, ks, t => if pc = 4 then xb_Ma_eliminate_4 fu (xm_Ma_eliminate fu n) (a.getD 0 0) (a.getD 1 0) t else if pc = 34 then xb_Ma_eliminate_34 fu (xm_Ma_eliminate fu n) (a.getD 0 0) (a.getD 1 0) (a.getD 2 0) (a.getD 3 0) t else none
def x_Ma_eliminate (fu : Nat) (t : Tb) : Option (Int × Tb) := xb_Ma_eliminate_e fu (xm_Ma_eliminate fu fu) t
set_option maxRecDepth 20000 in
theorem xt_Ma_eliminate_4 {fu : Nat} {rec : Nat → List Int → List Nat → Tb → Option (Int × Tb)} {o : Int × Tb} {Q : Int → Sto → Prop} (hQ : Q o.1 (tof o.2)) (hr_4 : ∀ (x1 : Int) (x3 : Int) (t : Tb), rec 4 [x1, x3] [] t = some o → H_Ma_eliminate_4 Q x1 x3 (tof t)) (hr_34 : ∀ (x1 : Int) (x3 : Int) (x4 : Int) (x6 : Int) (t : Tb), rec 34 [x1, x3, x4, x6] [] t = some o → H_Ma_eliminate_34 Q x1 x3 x4 x6 (tof t)) {x1 : Int} {x3 : Int} {t : Tb} (h0 : xb_Ma_eliminate_4 fu rec x1 x3 t = some o) : H_Ma_eliminate_4 Q x1 x3 (tof t) :=
  b_Ma_eliminate_4 (xr_and h0 fun _ h1 => xr_ite h1 (fun z y => by omega) (fun h2 => xr_leaf h2 hQ) (fun h3 => xr_and h3 fun _ h4 => xr_and h4 fun _ h5 => xr_and h5 fun _ h6 => xr_ite h6 (fun z y => y z) (fun h7 => hr_34 _ _ _ _ _ h7) (fun h8 => xr_leaf h8 hQ)))
set_option maxRecDepth 20000 in
theorem xt_Ma_eliminate_34 {fu : Nat} {rec : Nat → List Int → List Nat → Tb → Option (Int × Tb)} {o : Int × Tb} {Q : Int → Sto → Prop} (hQ : Q o.1 (tof o.2)) (hr_4 : ∀ (x1 : Int) (x3 : Int) (t : Tb), rec 4 [x1, x3] [] t = some o → H_Ma_eliminate_4 Q x1 x3 (tof t)) (hr_34 : ∀ (x1 : Int) (x3 : Int) (x4 : Int) (x6 : Int) (t : Tb), rec 34 [x1, x3, x4, x6] [] t = some o → H_Ma_eliminate_34 Q x1 x3 x4 x6 (tof t)) {x1 : Int} {x3 : Int} {x4 : Int} {x6 : Int} {t : Tb} (h0 : xb_Ma_eliminate_34 fu rec x1 x3 x4 x6 t = some o) : H_Ma_eliminate_34 Q x1 x3 x4 x6 (tof t) :=
  b_Ma_eliminate_34 (xr_and h0 fun _ h9 => xr_ite h9 (fun z y => by omega) (fun h10 => hr_4 _ _ _ h10) (fun h11 => xr_and h11 fun _ h12 => xr_ite h12 (fun z => z) (fun h13 => hr_34 _ _ _ _ _ h13) (fun h14 => xr_callV h14 (fun _ _ hc => xs_Ma_combineRows hc rfl) fun _ t13 h15 => hr_34 _ _ _ _ _ h15)))
set_option maxRecDepth 20000 in
theorem xt_Ma_eliminate_e {fu : Nat} {rec : Nat → List Int → List Nat → Tb → Option (Int × Tb)} {o : Int × Tb} {Q : Int → Sto → Prop} (hQ : Q o.1 (tof o.2)) (hr_4 : ∀ (x1 : Int) (x3 : Int) (t : Tb), rec 4 [x1, x3] [] t = some o → H_Ma_eliminate_4 Q x1 x3 (tof t)) (hr_34 : ∀ (x1 : Int) (x3 : Int) (x4 : Int) (x6 : Int) (t : Tb), rec 34 [x1, x3, x4, x6] [] t = some o → H_Ma_eliminate_34 Q x1 x3 x4 x6 (tof t)) {t : Tb} (h0 : xb_Ma_eliminate_e fu rec t = some o) : K_Ma_eliminate (tof t) Q :=
  e_Ma_eliminate (hr_4 _ _ _ h0)
theorem xl_Ma_eliminate {fu : Nat} {o : Int × Tb} {Q : Int → Sto → Prop} (hQ : Q o.1 (tof o.2)) : ∀ n : Nat, (∀ (x1 : Int) (x3 : Int) (t : Tb), xm_Ma_eliminate fu n 4 [x1, x3] [] t = some o → H_Ma_eliminate_4 Q x1 x3 (tof t)) ∧ (∀ (x1 : Int) (x3 : Int) (x4 : Int) (x6 : Int) (t : Tb), xm_Ma_eliminate fu n 34 [x1, x3, x4, x6] [] t = some o → H_Ma_eliminate_34 Q x1 x3 x4 x6 (tof t)) := by
  intro n
  induction n with
  | zero => exact ⟨fun _ _ _ h => (nomatch h), fun _ _ _ _ _ h => (nomatch h)⟩
  | succ n ih =>
    obtain ⟨i4, i34⟩ := ih
    exact ⟨fun _ _ _ h => xt_Ma_eliminate_4 (fu := fu) hQ i4 i34 h, fun _ _ _ _ _ h => xt_Ma_eliminate_34 (fu := fu) hQ i4 i34 h⟩
theorem xs_Ma_eliminate {fu : Nat} {t : Tb} {r : Int} {t' : Tb} {Q : Int → Sto → Prop} (h : x_Ma_eliminate fu t = some (r, t')) (hQ : Q r (tof t')) : K_Ma_eliminate (tof t) Q := xt_Ma_eliminate_e (o := (r, t')) hQ (xl_Ma_eliminate hQ fu).1 (xl_Ma_eliminate hQ fu).2 h
def xb_Ma_isFree_e (fu : Nat) (rec : Nat → List Int → List Nat → Tb → Option (Int × Tb)) (x1 : Int) (t : Tb) : Option (Int × Tb) := bnd (x_Gr_hasNode fu x1 t) fun r4 t3 => if -2147483648 ≤ r4 ∧ r4 < 2147483648 then if r4 = 0 then some (0, t3) else if 0 ≤ x1 ∧ x1 < 8 then if (-2147483648 ≤ ((tof t3) 14 (Int.toNat x1)) ∧ ((tof t3) 14 (Int.toNat x1)) < 2147483648) ∧ -2147483648 ≤ x1 ∧ x1 < 2147483648 then if ¬ ((tof t3) 14 (Int.toNat x1)) = x1 then some (0, t3) else if 0 ≤ ((tof t3) 1 2) ∧ ((tof t3) 1 2) < 8 then if (-2147483648 ≤ x1 ∧ x1 < 2147483648) ∧ -2147483648 ≤ ((tof t3) 14 (Int.toNat ((tof t3) 1 2))) ∧ ((tof t3) 14 (Int.toNat ((tof t3) 1 2))) < 2147483648 then if x1 = ((tof t3) 14 (Int.toNat ((tof t3) 1 2))) then some (0, t3) else some (1, t3) else none else none else none else none else none
def x_Ma_isFree (fu : Nat) (x1 : Int) (t : Tb) : Option (Int × Tb) := xb_Ma_isFree_e fu (fun _ _ _ _ => none) x1 t
set_option maxRecDepth 20000 in
theorem xt_Ma_isFree_e {fu : Nat} {rec : Nat → List Int → List Nat → Tb → Option (Int × Tb)} {o : Int × Tb} {Q : Int → Sto → Prop} (hQ : Q o.1 (tof o.2)) {x1 : Int} {t : Tb} (h0 : xb_Ma_isFree_e fu rec x1 t = some o) : K_Ma_isFree x1 (tof t) Q :=
  e_Ma_isFree (xr_call h0 (fun _ _ hc => xs_Gr_hasNode hc ⟨rfl, rfl⟩) fun r4 t3 h1 => xr_and h1 fun _ h2 => xr_ite h2 (fun z => z) (fun h3 => xr_leaf h3 hQ) (fun h4 => xr_and h4 fun _ h5 => xr_and h5 fun _ h6 => xr_ite h6 (fun z y => y z) (fun h7 => xr_leaf h7 hQ) (fun h8 => xr_and h8 fun _ h9 => xr_and h9 fun _ h10 => xr_ite h10 (fun z => z) (fun h11 => xr_leaf h11 hQ) (fun h12 => xr_leaf h12 hQ))))
theorem xs_Ma_isFree {fu : Nat} {x1 : Int} {t : Tb} {r : Int} {t' : Tb} {Q : Int → Sto → Prop} (h : x_Ma_isFree fu x1 t = some (r, t')) (hQ : Q r (tof t')) : K_Ma_isFree x1 (tof t) Q := xt_Ma_isFree_e (o := (r, t')) hQ h
def xj_Ma_fillEdge_e_J24 (fu : Nat) (rec : Nat → List Int → List Nat → Tb → Option (Int × Tb)) (x1 : Int) (x2 : Int) (t23 : Tb) : Option (Int × Tb) := bnd (x_Ma_isFree fu x1 t23) fun r30 t29 => if -2147483648 ≤ r30 ∧ r30 < 2147483648 then if r30 = 0 then some (0, t29) else bnd (x_Ma_isFree fu x2 t29) fun r37 t36 => if -2147483648 ≤ r37 ∧ r37 < 2147483648 then if r37 = 0 then some (0, t36) else if 0 ≤ x1 ∧ x1 < 8 then if 0 ≤ x2 ∧ x2 < 9 then if 0 ≤ x2 ∧ x2 < 9 then upB t36 (45 + Int.toNat x1) (Int.toNat x2) (((tof t36) (45 + Int.toNat x1) (Int.toNat x2)) - 1) fun t44 => if 0 ≤ x2 ∧ x2 < 8 then if 0 ≤ x1 ∧ x1 < 9 then if 0 ≤ x1 ∧ x1 < 9 then upB t44 (45 + Int.toNat x2) (Int.toNat x1) (((tof t44) (45 + Int.toNat x2) (Int.toNat x1)) - 1) fun t48 => some (0, t48) else none else none else none else none else none else none else none else none
def xj_Ma_fillEdge_e_J11 (fu : Nat) (rec : Nat → List Int → List Nat → Tb → Option (Int × Tb)) (x2 : Int) (x1 : Int) (t10 : Tb) : Option (Int × Tb) := bnd (x_Ma_isFree fu x2 t10) fun r17 t16 => if -2147483648 ≤ r17 ∧ r17 < 2147483648 then if r17 = 0 then xj_Ma_fillEdge_e_J24 fu rec x1 x2 t16 else if 0 ≤ x2 ∧ x2 < 8 then if 0 ≤ x2 ∧ x2 < 9 then if 0 ≤ x2 ∧ x2 < 9 then upB t16 (45 + Int.toNat x2) (Int.toNat x2) (((tof t16) (45 + Int.toNat x2) (Int.toNat x2)) + 1) fun t54 => xj_Ma_fillEdge_e_J24 fu rec x1 x2 t54 else none else none else none else none
def xb_Ma_fillEdge_e (fu : Nat) (rec : Nat → List Int → List Nat → Tb → Option (Int × Tb)) (x1 : Int) (x2 : Int) (t : Tb) : Option (Int × Tb) := bnd (x_Ma_isFree fu x1 t) fun r4 t3 => if -2147483648 ≤ r4 ∧ r4 < 2147483648 then if r4 = 0 then xj_Ma_fillEdge_e_J11 fu rec x2 x1 t3 else if 0 ≤ x1 ∧ x1 < 8 then if 0 ≤ x1 ∧ x1 < 9 then if 0 ≤ x1 ∧ x1 < 9 then upB t3 (45 + Int.toNat x1) (Int.toNat x1) (((tof t3) (45 + Int.toNat x1) (Int.toNat x1)) + 1) fun t61 => xj_Ma_fillEdge_e_J11 fu rec x2 x1 t61 else none else none else none else none
def x_Ma_fillEdge (fu : Nat) (x1 : Int) (x2 : Int) (t : Tb) : Option (Int × Tb) := xb_Ma_fillEdge_e fu (fun _ _ _ _ => none) x1 x2 t
set_option maxRecDepth 20000 in
theorem xt_Ma_fillEdge_e {fu : Nat} {rec : Nat → List Int → List Nat → Tb → Option (Int × Tb)} {o : Int × Tb} {Q : Sto → Prop} (hQ : Q (tof o.2)) {x1 : Int} {x2 : Int} {t : Tb} (h0 : xb_Ma_fillEdge_e fu rec x1 x2 t = some o) : K_Ma_fillEdge x1 x2 (tof t) Q :=
  e_Ma_fillEdge (xr_call h0 (fun _ _ hc => xs_Ma_isFree hc ⟨rfl, rfl⟩) fun r4 t3 h1 => ⟨fun s10 => ∃ t10, s10 = tof t10 ∧ xj_Ma_fillEdge_e_J11 fu rec x2 x1 t10 = some o, fun s10 h2 => (by obtain ⟨t10, rfl, h3⟩ := h2; exact xr_call h3 (fun _ _ hc => xs_Ma_isFree hc ⟨rfl, rfl⟩) fun r17 t16 h4 => ⟨fun s23 => ∃ t23, s23 = tof t23 ∧ xj_Ma_fillEdge_e_J24 fu rec x1 x2 t23 = some o, fun s23 h5 => (by obtain ⟨t23, rfl, h6⟩ := h5; exact xr_call h6 (fun _ _ hc => xs_Ma_isFree hc ⟨rfl, rfl⟩) fun r30 t29 h7 => xr_and h7 fun _ h8 => xr_ite h8 (fun z => z) (fun h9 => xr_leafV h9 hQ) (fun h10 => xr_call h10 (fun _ _ hc => xs_Ma_isFree hc ⟨rfl, rfl⟩) fun r37 t36 h11 => xr_and h11 fun _ h12 => xr_ite h12 (fun z => z) (fun h13 => xr_leafV h13 hQ) (fun h14 => xr_and h14 fun _ h15 => xr_and h15 fun _ h16 => xr_and h16 fun _ h17 => xr_up h17 fun t44 h18 => xr_and h18 fun _ h19 => xr_and h19 fun _ h20 => xr_and h20 fun _ h21 => xr_up h21 fun t48 h22 => xr_leafV h22 hQ))), xr_and h4 fun _ h23 => xr_ite h23 (fun z => z) (fun h24 => ⟨_, rfl, h24⟩) (fun h25 => xr_and h25 fun _ h26 => xr_and h26 fun _ h27 => xr_and h27 fun _ h28 => xr_up h28 fun t54 h29 => ⟨_, rfl, h29⟩)⟩), xr_and h1 fun _ h30 => xr_ite h30 (fun z => z) (fun h31 => ⟨_, rfl, h31⟩) (fun h32 => xr_and h32 fun _ h33 => xr_and h33 fun _ h34 => xr_and h34 fun _ h35 => xr_up h35 fun t61 h36 => ⟨_, rfl, h36⟩)⟩)
theorem xs_Ma_fillEdge {fu : Nat} {x1 : Int} {x2 : Int} {t : Tb} {r : Int} {t' : Tb} {Q : Sto → Prop} (h : x_Ma_fillEdge fu x1 x2 t = some (r, t')) (hQ : Q (tof t')) : K_Ma_fillEdge x1 x2 (tof t) Q := xt_Ma_fillEdge_e (o := (r, t')) hQ h
def xb_Ma_fill_13 (fu : Nat) (rec : Nat → List Int → List Nat → Tb → Option (Int × Tb)) (x1 : Int) (x2 : Int) (t : Tb) : Option (Int × Tb) := if (-2147483648 ≤ x2 ∧ x2 < 2147483648) ∧ -2147483648 ≤ ((tof t) 42 4) ∧ ((tof t) 42 4) < 2147483648 then if ((tof t) 42 4) ≤ x2 then rec 71 [x1, 0] [] t else rec 23 [x1, x2, 0] [] t else none
def xb_Ma_fill_23 (fu : Nat) (rec : Nat → List Int → List Nat → Tb → Option (Int × Tb)) (x1 : Int) (x2 : Int) (x3 : Int) (t : Tb) : Option (Int × Tb) := if (-2147483648 ≤ x3 ∧ x3 < 2147483648) ∧ -2147483648 ≤ ((tof t) 42 4) ∧ ((tof t) 42 4) < 2147483648 then if ((tof t) 42 4) < x3 then rec 13 [x1, (x2 + 1)] [] t else if 0 ≤ x2 ∧ x2 < 8 then if (-2147483648 ≤ x2 ∧ x2 < 2147483648) ∧ -2147483648 ≤ x3 ∧ x3 < 2147483648 then if ¬ x2 = x3 then if 0 ≤ x3 ∧ x3 < 9 then upB t (45 + Int.toNat x2) (Int.toNat x3) 0 fun t25 => rec 23 [x1, x2, (x3 + 1)] [] t25 else none else bnd (x_Ma_isFree fu x2 t) fun r29 t28 => if -2147483648 ≤ r29 ∧ r29 < 2147483648 then if ¬ r29 = 0 then if 0 ≤ x3 ∧ x3 < 9 then upB t28 (45 + Int.toNat x2) (Int.toNat x3) 0 fun t34 => rec 23 [x1, x2, (x3 + 1)] [] t34 else none else if 0 ≤ x3 ∧ x3 < 9 then upB t28 (45 + Int.toNat x2) (Int.toNat x3) 1 fun t36 => rec 23 [x1, x2, (x3 + 1)] [] t36 else none else none else none else none else none
def xb_Ma_fill_71 (fu : Nat) (rec : Nat → List Int → List Nat → Tb → Option (Int × Tb)) (x1 : Int) (x2 : Int) (t : Tb) : Option (Int × Tb) := if (-2147483648 ≤ x2 ∧ x2 < 2147483648) ∧ -2147483648 ≤ ((tof t) 1 1) ∧ ((tof t) 1 1) < 2147483648 then if ((tof t) 1 1) ≤ x2 then some (0, t) else if 0 ≤ x2 ∧ x2 < 20 then if 0 ≤ ((tof t) 2 (Int.toNat x2)) ∧ ((tof t) 2 (Int.toNat x2)) < 8 then if 0 ≤ x2 ∧ x2 < 20 then if 0 ≤ ((tof t) 3 (Int.toNat x2)) ∧ ((tof t) 3 (Int.toNat x2)) < 8 then if -2147483648 ≤ (iand (ishr x1 x2) 1) ∧ (iand (ishr x1 x2) 1) < 2147483648 then if ¬ (iand (ishr x1 x2) 1) = 0 then rec 71 [x1, (x2 + 1)] [] t else if (-2147483648 ≤ ((tof t) 14 (Int.toNat ((tof t) 2 (Int.toNat x2)))) ∧ ((tof t) 14 (Int.toNat ((tof t) 2 (Int.toNat x2)))) < 2147483648) ∧ -2147483648 ≤ ((tof t) 14 (Int.toNat ((tof t) 3 (Int.toNat x2)))) ∧ ((tof t) 14 (Int.toNat ((tof t) 3 (Int.toNat x2)))) < 2147483648 then if ((tof t) 14 (Int.toNat ((tof t) 2 (Int.toNat x2)))) = ((tof t) 14 (Int.toNat ((tof t) 3 (Int.toNat x2)))) then rec 71 [x1, (x2 + 1)] [] t else bnd (x_Ma_fillEdge fu ((tof t) 14 (Int.toNat ((tof t) 2 (Int.toNat x2)))) ((tof t) 14 (Int.toNat ((tof t) 3 (Int.toNat x2)))) t) fun _ t16 => rec 71 [x1, (x2 + 1)] [] t16 else none else none else none else none else none else none else none
def xb_Ma_fill_e (fu : Nat) (rec : Nat → List Int → List Nat → Tb → Option (Int × Tb)) (x1 : Int) (t : Tb) : Option (Int × Tb) := upB t 42 4 ((tof t) 1 0) fun t1 => rec 13 [x1, 0] [] t1
def xm_Ma_fill (fu : Nat) : Nat → Nat → List Int → List Nat → Tb → Option (Int × Tb)
  | 0, _, _, _, _ => none
  | n + 1, pc, a, ks, t => if pc = 13 then xb_Ma_fill_13 fu (xm_Ma_fill fu n) (a.getD 0 0) (a.getD 1 0) t else if pc = 23 then xb_Ma_fill_23 fu (xm_Ma_fill fu n) (a.getD 0 0) (a.getD 1 0) (a.getD 2 0) t else if pc = 71 then xb_Ma_fill_71 fu (xm_Ma_fill fu n) (a.getD 0 0) (a.getD 1 0) t else none
def x_Ma_fill (fu : Nat) (x1 : Int) (t : Tb) : Option (Int × Tb) := xb_Ma_fill_e fu (xm_Ma_fill fu fu) x1 t
set_option maxRecDepth 20000 in
theorem xt_Ma_fill_13 {fu : Nat} {rec : Nat → List Int → List Nat → Tb → Option (Int × Tb)} {o : Int × Tb} {Q : Sto → Prop} (hQ : Q (tof o.2)) (hr_13 : ∀ (x1 : Int) (x2 : Int) (t : Tb), rec 13 [x1, x2] [] t = some o → H_Ma_fill_13 Q x1 x2 (tof t)) (hr_23 : ∀ (x1 : Int) (x2 : Int) (x3 : Int) (t : Tb), rec 23 [x1, x2, x3] [] t = some o → H_Ma_fill_23 Q x1 x2 x3 (tof t)) (hr_71 : ∀ (x1 : Int) (x2 : Int) (t : Tb), rec 71 [x1, x2] [] t = some o → H_Ma_fill_71 Q x1 x2 (tof t)) {x1 : Int} {x2 : Int} {t : Tb} (h0 : xb_Ma_fill_13 fu rec x1 x2 t = some o) : H_Ma_fill_13 Q x1 x2 (tof t) :=
  b_Ma_fill_13 (xr_and h0 fun _ h1 => xr_ite h1 (fun z y => by omega) (fun h2 => hr_71 _ _ _ h2) (fun h3 => hr_23 _ _ _ _ h3))
set_option maxRecDepth 20000 in
theorem xt_Ma_fill_23 {fu : Nat} {rec : Nat → List Int → List Nat → Tb → Option (Int × Tb)} {o : Int × Tb} {Q : Sto → Prop} (hQ : Q (tof o.2)) (hr_13 : ∀ (x1 : Int) (x2 : Int) (t : Tb), rec 13 [x1, x2] [] t = some o → H_Ma_fill_13 Q x1 x2 (tof t)) (hr_23 : ∀ (x1 : Int) (x2 : Int) (x3 : Int) (t : Tb), rec 23 [x1, x2, x3] [] t = some o → H_Ma_fill_23 Q x1 x2 x3 (tof t)) (hr_71 : ∀ (x1 : Int) (x2 : Int) (t : Tb), rec 71 [x1, x2] [] t = some o → H_Ma_fill_71 Q x1 x2 (tof t)) {x1 : Int} {x2 : Int} {x3 : Int} {t : Tb} (h0 : xb_Ma_fill_23 fu rec x1 x2 x3 t = some o) : H_Ma_fill_23 Q x1 x2 x3 (tof t) :=
  b_Ma_fill_23 (xr_and h0 fun _ h4 => xr_ite h4 (fun z y => by omega) (fun h5 => hr_13 _ _ _ h5) (fun h6 => xr_and h6 fun _ h7 => xr_and h7 fun _ h8 => xr_ite h8 (fun z y => y z) (fun h9 => xr_and h9 fun _ h11 => xr_up h11 fun t25 h12 => hr_23 _ _ _ _ h12) (fun h10 => xr_call h10 (fun _ _ hc => xs_Ma_isFree hc ⟨rfl, rfl⟩) fun r29 t28 h13 => xr_and h13 fun _ h14 => xr_ite h14 (fun z y => y z) (fun h15 => xr_and h15 fun _ h17 => xr_up h17 fun t34 h18 => hr_23 _ _ _ _ h18) (fun h16 => xr_and h16 fun _ h19 => xr_up h19 fun t36 h20 => hr_23 _ _ _ _ h20))))
set_option maxRecDepth 20000 in
theorem xt_Ma_fill_71 {fu : Nat} {rec : Nat → List Int → List Nat → Tb → Option (Int × Tb)} {o : Int × Tb} {Q : Sto → Prop} (hQ : Q (tof o.2)) (hr_13 : ∀ (x1 : Int) (x2 : Int) (t : Tb), rec 13 [x1, x2] [] t = some o → H_Ma_fill_13 Q x1 x2 (tof t)) (hr_23 : ∀ (x1 : Int) (x2 : Int) (x3 : Int) (t : Tb), rec 23 [x1, x2, x3] [] t = some o → H_Ma_fill_23 Q x1 x2 x3 (tof t)) (hr_71 : ∀ (x1 : Int) (x2 : Int) (t : Tb), rec 71 [x1, x2] [] t = some o → H_Ma_fill_71 Q x1 x2 (tof t)) {x1 : Int} {x2 : Int} {t : Tb} (h0 : xb_Ma_fill_71 fu rec x1 x2 t = some o) : H_Ma_fill_71 Q x1 x2 (tof t) :=
  b_Ma_fill_71 (xr_and h0 fun _ h21 => xr_ite h21 (fun z y => by omega) (fun h22 => xr_leafV h22 hQ) (fun h23 => xr_and h23 fun _ h24 => xr_and h24 fun _ h25 => xr_and h25 fun _ h26 => xr_and h26 fun _ h27 => xr_and h27 fun _ h28 => xr_ite h28 (fun z y => y z) (fun h29 => hr_71 _ _ _ h29) (fun h30 => xr_and h30 fun _ h31 => xr_ite h31 (fun z => z) (fun h32 => hr_71 _ _ _ h32) (fun h33 => xr_callV h33 (fun _ _ hc => xs_Ma_fillEdge hc rfl) fun _ t16 h34 => hr_71 _ _ _ h34))))
set_option maxRecDepth 20000 in
theorem xt_Ma_fill_e {fu : Nat} {rec : Nat → List Int → List Nat → Tb → Option (Int × Tb)} {o : Int × Tb} {Q : Sto → Prop} (hQ : Q (tof o.2)) (hr_13 : ∀ (x1 : Int) (x2 : Int) (t : Tb), rec 13 [x1, x2] [] t = some o → H_Ma_fill_13 Q x1 x2 (tof t)) (hr_23 : ∀ (x1 : Int) (x2 : Int) (x3 : Int) (t : Tb), rec 23 [x1, x2, x3] [] t = some o → H_Ma_fill_23 Q x1 x2 x3 (tof t)) (hr_71 : ∀ (x1 : Int) (x2 : Int) (t : Tb), rec 71 [x1, x2] [] t = some o → H_Ma_fill_71 Q x1 x2 (tof t)) {x1 : Int} {t : Tb} (h0 : xb_Ma_fill_e fu rec x1 t = some o) : K_Ma_fill x1 (tof t) Q :=
  e_Ma_fill (xr_up h0 fun t1 h35 => hr_13 _ _ _ h35)
theorem xl_Ma_fill {fu : Nat} {o : Int × Tb} {Q : Sto → Prop} (hQ : Q (tof o.2)) : ∀ n : Nat, (∀ (x1 : Int) (x2 : Int) (t : Tb), xm_Ma_fill fu n 13 [x1, x2] [] t = some o → H_Ma_fill_13 Q x1 x2 (tof t)) ∧ (∀ (x1 : Int) (x2 : Int) (x3 : Int) (t : Tb), xm_Ma_fill fu n 23 [x1, x2, x3] [] t = some o → H_Ma_fill_23 Q x1 x2 x3 (tof t)) ∧ (∀ (x1 : Int) (x2 : Int) (t : Tb), xm_Ma_fill fu n 71 [x1, x2] [] t = some o → H_Ma_fill_71 Q x1 x2 (tof t)) := by
  intro n
  induction n with
  | zero => exact ⟨fun _ _ _ h => (nomatch h), fun _ _ _ _ h => (nomatch h), fun _ _ _ h => (nomatch h)⟩
  | succ n ih =>
    obtain ⟨i13, i23, i71⟩ := ih
    exact ⟨fun _ _ _ h => xt_Ma_fill_13 (fu := fu) hQ i13 i23 i71 h, fun _ _ _ _ h => xt_Ma_fill_23 (fu := fu) hQ i13 i23 i71 h, fun _ _ _ h => xt_Ma_fill_71 (fu := fu) hQ i13 i23 i71 h⟩
theorem xs_Ma_fill {fu : Nat} {x1 : Int} {t : Tb} {r : Int} {t' : Tb} {Q : Sto → Prop} (h : x_Ma_fill fu x1 t = some (r, t')) (hQ : Q (tof t')) : K_Ma_fill x1 (tof t) Q := xt_Ma_fill_e (o := (r, t')) hQ (xl_Ma_fill hQ fu).1 (xl_Ma_fill hQ fu).2.1 (xl_Ma_fill hQ fu).2.2 h
def xb_Ma_fillWhole_e (fu : Nat) (rec : Nat → List Int → List Nat → Tb → Option (Int × Tb)) (t : Tb) : Option (Int × Tb) := bnd (x_Gr_findParts fu 0 t) fun r4 t3 => bnd (x_Ma_fill fu 0 t3) fun _ t8 => some (0, t8)
def x_Ma_fillWhole (fu : Nat) (t : Tb) : Option (Int × Tb) := xb_Ma_fillWhole_e fu (fun _ _ _ _ => none) t
set_option maxRecDepth 20000 in
theorem xt_Ma_fillWhole_e {fu : Nat} {rec : Nat → List Int → List Nat → Tb → Option (Int × Tb)} {o : Int × Tb} {Q : Sto → Prop} (hQ : Q (tof o.2)) {t : Tb} (h0 : xb_Ma_fillWhole_e fu rec t = some o) : K_Ma_fillWhole (tof t) Q :=
  e_Ma_fillWhole (xr_call h0 (fun _ _ hc => xs_Gr_findParts hc ⟨rfl, rfl⟩) fun r4 t3 h1 => xr_callV h1 (fun _ _ hc => xs_Ma_fill hc rfl) fun _ t8 h2 => xr_leafV h2 hQ)
theorem xs_Ma_fillWhole {fu : Nat} {t : Tb} {r : Int} {t' : Tb} {Q : Sto → Prop} (h : x_Ma_fillWhole fu t = some (r, t')) (hQ : Q (tof t')) : K_Ma_fillWhole (tof t) Q := xt_Ma_fillWhole_e (o := (r, t')) hQ h
def xb_Ma_findFactors_27 (fu : Nat) (rec : Nat → List Int → List Nat → Tb → Option (Int × Tb)) (x1 : Int) (x3 : Int) (t : Tb) : Option (Int × Tb) := if (-2147483648 ≤ x3 ∧ x3 < 2147483648) ∧ -2147483648 ≤ ((tof t) 42 4) ∧ ((tof t) 42 4) < 2147483648 then if ((tof t) 42 4) ≤ x3 then rec 83 [x1, 0] [] t else rec 38 [x1, x3, 0] [] t else none
def xb_Ma_findFactors_38 (fu : Nat) (rec : Nat → List Int → List Nat → Tb → Option (Int × Tb)) (x1 : Int) (x3 : Int) (x4 : Int) (t : Tb) : Option (Int × Tb) := if (-2147483648 ≤ x4 ∧ x4 < 2147483648) ∧ -2147483648 ≤ ((tof t) 42 4) ∧ ((tof t) 42 4) < 2147483648 then if ((tof t) 42 4) ≤ x4 then rec 27 [x1, (x3 + 1)] [] t else if 0 ≤ x3 ∧ x3 < 8 then if 0 ≤ x3 ∧ x3 < 8 then if 0 ≤ x4 ∧ x4 < 9 then bnd (x_JM_floorMod fu ((tof t) (45 + Int.toNat x3) (Int.toNat x4)) x1 t) fun r48 t47 => if 0 ≤ x4 ∧ x4 < 9 then upB t47 (45 + Int.toNat x3) (Int.toNat x4) r48 fun t51 => rec 38 [x1, x3, (x4 + 1)] [] t51 else none else none else none else none else none
def xb_Ma_findFactors_83 (fu : Nat) (rec : Nat → List Int → List Nat → Tb → Option (Int × Tb)) (x1 : Int) (x3 : Int) (t : Tb) : Option (Int × Tb) := if (-2147483648 ≤ x3 ∧ x3 < 2147483648) ∧ -2147483648 ≤ ((tof t) 42 4) ∧ ((tof t) 42 4) < 2147483648 then if ((tof t) 42 4) ≤ x3 then some (0, t) else bnd (x_Ma_clearAround fu x3 x1 t) fun _ t25 => if 0 ≤ x3 ∧ x3 < 8 then if 0 ≤ x3 ∧ x3 < 9 then bnd (x_Ma_commonDivisor fu ((tof t25) (45 + Int.toNat x3) (Int.toNat x3)) x1 t25) fun r33 t32 => if -9223372036854775808 ≤ r33 ∧ r33 < 9223372036854775808 then if r33 ≤ 1 then rec 83 [x1, (x3 + 1)] [] t32 else if 0 ≤ ((tof t32) 42 1) ∧ ((tof t32) 42 1) < 8 then upB t32 43 (Int.toNat ((tof t32) 42 1)) r33 fun t38 => upB t38 42 1 (((tof t38) 42 1) + 1) fun t39 => rec 83 [x1, (x3 + 1)] [] t39 else none else none else none else none else none
def xb_Ma_findFactors_e (fu : Nat) (rec : Nat → List Int → List Nat → Tb → Option (Int × Tb)) (t : Tb) : Option (Int × Tb) := upB t 42 1 0 fun t1 => bnd (x_Ma_fillWhole fu t1) fun _ t4 => bnd (x_Ma_eliminate fu t4) fun r10 t9 => if -9223372036854775808 ≤ r10 ∧ r10 < 9223372036854775808 then if 0 < r10 then bnd (x_Ma_fillWhole fu t9) fun _ t16 => rec 27 [r10, 0] [] t16 else some (0, t9) else none
def xm_Ma_findFactors (fu : Nat) : Nat → Nat → List Int → List Nat → Tb → Option (Int × Tb)
  | 0, _, _, _, _ => none
  | n + 1, pc, a, ks, t => if pc = 27 then xb_Ma_findFactors_27 fu (xm_Ma_findFactors fu n) (a.getD 0 0) (a.getD 1 0) t else if pc = 38 then xb_Ma_findFactors_38 fu (xm_Ma_findFactors fu n) (a.getD 0 0) (a.getD 1 0) (a.getD 2 0) t else if pc = 83 then xb_Ma_findFactors_83 fu (xm_Ma_findFactors fu n) (a.getD 0 0) (a.getD 1 0) t else none
def x_Ma_findFactors (fu : Nat) (t : Tb) : Option (Int × Tb) := xb_Ma_findFactors_e fu (xm_Ma_findFactors fu fu) t
set_option maxRecDepth 20000 in
theorem xt_Ma_findFactors_27 {fu : Nat} {rec : Nat → List Int → List Nat → Tb → Option (Int × Tb)} {o : Int × Tb} {Q : Sto → Prop} (hQ : Q (tof o.2)) (hr_27 : ∀ (x1 : Int) (x3 : Int) (t : Tb), rec 27 [x1, x3] [] t = some o → H_Ma_findFactors_27 Q x1 x3 (tof t)) (hr_38 : ∀ (x1 : Int) (x3 : Int) (x4 : Int) (t : Tb), rec 38 [x1, x3, x4] [] t = some o → H_Ma_findFactors_38 Q x1 x3 x4 (tof t)) (hr_83 : ∀ (x1 : Int) (x3 : Int) (t : Tb), rec 83 [x1, x3] [] t = some o → H_Ma_findFactors_83 Q x1 x3 (tof t)) {x1 : Int} {x3 : Int} {t : Tb} (h0 : xb_Ma_findFactors_27 fu rec x1 x3 t = some o) : H_Ma_findFactors_27 Q x1 x3 (tof t) :=
  b_Ma_findFactors_27 (xr_and h0 fun _ h1 => xr_ite h1 (fun z y => by omega) (fun h2 => hr_83 _ _ _ h2) (fun h3 => hr_38 _ _ _ _ h3))
set_option maxRecDepth 20000 in
theorem xt_Ma_findFactors_38 {fu : Nat} {rec : Nat → List Int → List Nat → Tb → Option (Int × Tb)} {o : Int × Tb} {Q : Sto → Prop} (hQ : Q (tof o.2)) (hr_27 : ∀ (x1 : Int) (x3 : Int) (t : Tb), rec 27 [x1, x3] [] t = some o → H_Ma_findFactors_27 Q x1 x3 (tof t)) (hr_38 : ∀ (x1 : Int) (x3 : Int) (x4 : Int) (t : Tb), rec 38 [x1, x3, x4] [] t = some o → H_Ma_findFactors_38 Q x1 x3 x4 (tof t)) (hr_83 : ∀ (x1 : Int) (x3 : Int) (t : Tb), rec 83 [x1, x3] [] t = some o → H_Ma_findFactors_83 Q x1 x3 (tof t)) {x1 : Int} {x3 : Int} {x4 : Int} {t : Tb} (h0 : xb_Ma_findFactors_38 fu rec x1 x3 x4 t = some o) : H_Ma_findFactors_38 Q x1 x3 x4 (tof t) :=
  b_Ma_findFactors_38 (xr_and h0 fun _ h4 => xr_ite h4 (fun z y => by omega) (fun h5 => hr_27 _ _ _ h5) (fun h6 => xr_and h6 fun _ h7 => xr_and h7 fun _ h8 => xr_and h8 fun _ h9 => xr_call h9 (fun _ _ hc => xs_JM_floorMod hc ⟨rfl, rfl⟩) fun r48 t47 h10 => xr_and h10 fun _ h11 => xr_up h11 fun t51 h12 => hr_38 _ _ _ _ h12))
set_option maxRecDepth 20000 in
theorem xt_Ma_findFactors_83 {fu : Nat} {rec : Nat → List Int → List Nat → Tb → Option (Int × Tb)} {o : Int × Tb} {Q : Sto → Prop} (hQ : Q (tof o.2)) (hr_27 : ∀ (x1 : Int) (x3 : Int) (t : Tb), rec 27 [x1, x3] [] t = some o → H_Ma_findFactors_27 Q x1 x3 (tof t)) (hr_38 : ∀ (x1 : Int) (x3 : Int) (x4 : Int) (t : Tb), rec 38 [x1, x3, x4] [] t = some o → H_Ma_findFactors_38 Q x1 x3 x4 (tof t)) (hr_83 : ∀ (x1 : Int) (x3 : Int) (t : Tb), rec 83 [x1, x3] [] t = some o → H_Ma_findFactors_83 Q x1 x3 (tof t)) {x1 : Int} {x3 : Int} {t : Tb} (h0 : xb_Ma_findFactors_83 fu rec x1 x3 t = some o) : H_Ma_findFactors_83 Q x1 x3 (tof t) :=
  b_Ma_findFactors_83 (xr_and h0 fun _ h13 => xr_ite h13 (fun z y => by omega) (fun h14 => xr_leafV h14 hQ) (fun h15 => xr_callV h15 (fun _ _ hc => xs_Ma_clearAround hc rfl) fun _ t25 h16 => xr_and h16 fun _ h17 => xr_and h17 fun _ h18 => xr_call h18 (fun _ _ hc => xs_Ma_commonDivisor hc ⟨rfl, rfl⟩) fun r33 t32 h19 => xr_and h19 fun _ h20 => xr_ite h20 (fun z y => by omega) (fun h21 => hr_83 _ _ _ h21) (fun h22 => xr_and h22 fun _ h23 => xr_up h23 fun t38 h24 => xr_up h24 fun t39 h25 => hr_83 _ _ _ h25)))
set_option maxRecDepth 20000 in
theorem xt_Ma_findFactors_e {fu : Nat} {rec : Nat → List Int → List Nat → Tb → Option (Int × Tb)} {o : Int × Tb} {Q : Sto → Prop} (hQ : Q (tof o.2)) (hr_27 : ∀ (x1 : Int) (x3 : Int) (t : Tb), rec 27 [x1, x3] [] t = some o → H_Ma_findFactors_27 Q x1 x3 (tof t)) (hr_38 : ∀ (x1 : Int) (x3 : Int) (x4 : Int) (t : Tb), rec 38 [x1, x3, x4] [] t = some o → H_Ma_findFactors_38 Q x1 x3 x4 (tof t)) (hr_83 : ∀ (x1 : Int) (x3 : Int) (t : Tb), rec 83 [x1, x3] [] t = some o → H_Ma_findFactors_83 Q x1 x3 (tof t)) {t : Tb} (h0 : xb_Ma_findFactors_e fu rec t = some o) : K_Ma_findFactors (tof t) Q :=
  e_Ma_findFactors (xr_up h0 fun t1 h26 => xr_callV h26 (fun _ _ hc => xs_Ma_fillWhole hc rfl) fun _ t4 h27 => xr_call h27 (fun _ _ hc => xs_Ma_eliminate hc ⟨rfl, rfl⟩) fun r10 t9 h28 => xr_and h28 fun _ h29 => xr_ite h29 (fun z y => by omega) (fun h30 => xr_callV h30 (fun _ _ hc => xs_Ma_fillWhole hc rfl) fun _ t16 h32 => hr_27 _ _ _ h32) (fun h31 => xr_leafV h31 hQ))
theorem xl_Ma_findFactors {fu : Nat} {o : Int × Tb} {Q : Sto → Prop} (hQ : Q (tof o.2)) : ∀ n : Nat, (∀ (x1 : Int) (x3 : Int) (t : Tb), xm_Ma_findFactors fu n 27 [x1, x3] [] t = some o → H_Ma_findFactors_27 Q x1 x3 (tof t)) ∧ (∀ (x1 : Int) (x3 : Int) (x4 : Int) (t : Tb), xm_Ma_findFactors fu n 38 [x1, x3, x4] [] t = some o → H_Ma_findFactors_38 Q x1 x3 x4 (tof t)) ∧ (∀ (x1 : Int) (x3 : Int) (t : Tb), xm_Ma_findFactors fu n 83 [x1, x3] [] t = some o → H_Ma_findFactors_83 Q x1 x3 (tof t)) := by
  intro n
  induction n with
  | zero => exact ⟨fun _ _ _ h => (nomatch h), fun _ _ _ _ h => (nomatch h), fun _ _ _ h => (nomatch h)⟩
  | succ n ih =>
    obtain ⟨i27, i38, i83⟩ := ih
    exact ⟨fun _ _ _ h => xt_Ma_findFactors_27 (fu := fu) hQ i27 i38 i83 h, fun _ _ _ _ h => xt_Ma_findFactors_38 (fu := fu) hQ i27 i38 i83 h, fun _ _ _ h => xt_Ma_findFactors_83 (fu := fu) hQ i27 i38 i83 h⟩
theorem xs_Ma_findFactors {fu : Nat} {t : Tb} {r : Int} {t' : Tb} {Q : Sto → Prop} (h : x_Ma_findFactors fu t = some (r, t')) (hQ : Q (tof t')) : K_Ma_findFactors (tof t) Q := xt_Ma_findFactors_e (o := (r, t')) hQ (xl_Ma_findFactors hQ fu).1 (xl_Ma_findFactors hQ fu).2.1 (xl_Ma_findFactors hQ fu).2.2 h
def xb_Cg_factor_e (fu : Nat) (rec : Nat → List Int → List Nat → Tb → Option (Int × Tb)) (x1 : Int) (t : Tb) : Option (Int × Tb) := if -2147483648 ≤ x1 ∧ x1 < 2147483648 then if x1 < (-1) then some ((-9223372036854775808), t) else bnd (x_Gr_isConnected fu t) fun r6 t5 => if -2147483648 ≤ r6 ∧ r6 < 2147483648 then if ¬ r6 = 0 then bnd (x_Ma_findFactors fu t5) fun _ t12 => if -2147483648 ≤ x1 ∧ x1 < 2147483648 then if ¬ x1 = (-1) then if (-2147483648 ≤ x1 ∧ x1 < 2147483648) ∧ -2147483648 ≤ ((tof t12) 42 1) ∧ ((tof t12) 42 1) < 2147483648 then if ((tof t12) 42 1) ≤ x1 then some ((-9223372036854775808), t12) else if 0 ≤ x1 ∧ x1 < 8 then some (((tof t12) 43 (Int.toNat x1)), t12) else none else none else if -2147483648 ≤ ((tof t12) 42 1) ∧ ((tof t12) 42 1) < 2147483648 then some (((tof t12) 42 1), t12) else none else none else some ((-9223372036854775808), t5) else none else none
def x_Cg_factor (fu : Nat) (x1 : Int) (t : Tb) : Option (Int × Tb) := xb_Cg_factor_e fu (fun _ _ _ _ => none) x1 t
set_option maxRecDepth 20000 in
theorem xt_Cg_factor_e {fu : Nat} {rec : Nat → List Int → List Nat → Tb → Option (Int × Tb)} {o : Int × Tb} {Q : Int → Sto → Prop} (hQ : Q o.1 (tof o.2)) {x1 : Int} {t : Tb} (h0 : xb_Cg_factor_e fu rec x1 t = some o) : K_Cg_factor x1 (tof t) Q :=
  e_Cg_factor (xr_and h0 fun _ h1 => xr_ite h1 (fun z y => by omega) (fun h2 => xr_leaf h2 hQ) (fun h3 => xr_call h3 (fun _ _ hc => xs_Gr_isConnected hc ⟨rfl, rfl⟩) fun r6 t5 h4 => xr_and h4 fun _ h5 => xr_ite h5 (fun z y => y z) (fun h6 => xr_callV h6 (fun _ _ hc => xs_Ma_findFactors hc rfl) fun _ t12 h8 => xr_and h8 fun _ h9 => xr_ite h9 (fun z y => y z) (fun h10 => xr_and h10 fun _ h12 => xr_ite h12 (fun z y => by omega) (fun h13 => xr_leaf h13 hQ) (fun h14 => xr_and h14 fun _ h15 => xr_leaf h15 hQ)) (fun h11 => xr_and h11 fun _ h16 => xr_leaf h16 hQ)) (fun h7 => xr_leaf h7 hQ)))
theorem xs_Cg_factor {fu : Nat} {x1 : Int} {t : Tb} {r : Int} {t' : Tb} {Q : Int → Sto → Prop} (h : x_Cg_factor fu x1 t = some (r, t')) (hQ : Q r (tof t')) : K_Cg_factor x1 (tof t) Q := xt_Cg_factor_e (o := (r, t')) hQ h
def xb_Fi_canFire_e (fu : Nat) (rec : Nat → List Int → List Nat → Tb → Option (Int × Tb)) (k1 : Nat) (x2 : Int) (t : Tb) : Option (Int × Tb) := if arb SC k1 1 8 = true then bnd (x_Gr_degreeOf fu x2 t) fun r4 t3 => bnd (x_Gr_hasChipsAt fu x2 t3) fun r9 t8 => if -2147483648 ≤ r9 ∧ r9 < 2147483648 then if r9 = 0 then some (0, t8) else if -2147483648 ≤ r4 ∧ r4 < 2147483648 then if r4 ≤ 0 then some (0, t8) else if 0 ≤ x2 ∧ x2 < 8 then if (-2147483648 ≤ ((tof t8) k1 (Int.toNat x2)) ∧ ((tof t8) k1 (Int.toNat x2)) < 2147483648) ∧ -2147483648 ≤ r4 ∧ r4 < 2147483648 then if ((tof t8) k1 (Int.toNat x2)) < r4 then some (0, t8) else some (1, t8) else none else none else none else none else none
def x_Fi_canFire (fu : Nat) (k1 : Nat) (x2 : Int) (t : Tb) : Option (Int × Tb) := xb_Fi_canFire_e fu (fun _ _ _ _ => none) k1 x2 t
set_option maxRecDepth 20000 in
theorem xt_Fi_canFire_e {fu : Nat} {rec : Nat → List Int → List Nat → Tb → Option (Int × Tb)} {o : Int × Tb} {Q : Int → Sto → Prop} (hQ : Q o.1 (tof o.2)) {k1 : Nat} {x2 : Int} {t : Tb} (h0 : xb_Fi_canFire_e fu rec k1 x2 t = some o) : K_Fi_canFire k1 x2 (tof t) Q := by
  unfold xb_Fi_canFire_e at h0
  obtain ⟨a0, h0⟩ := xr_and h0 (R := _ = some o) (fun _ z => z)
  exact e_Fi_canFire (arb_ar a0) (xr_call h0 (fun _ _ hc => xs_Gr_degreeOf hc ⟨rfl, rfl⟩) fun r4 t3 h1 => xr_call h1 (fun _ _ hc => xs_Gr_hasChipsAt hc ⟨rfl, rfl⟩) fun r9 t8 h2 => xr_and h2 fun _ h3 => xr_ite h3 (fun z => z) (fun h4 => xr_leaf h4 hQ) (fun h5 => xr_and h5 fun _ h6 => xr_ite h6 (fun z y => by omega) (fun h7 => xr_leaf h7 hQ) (fun h8 => xr_and h8 fun _ h9 => xr_and h9 fun _ h10 => xr_ite h10 (fun z y => by omega) (fun h11 => xr_leaf h11 hQ) (fun h12 => xr_leaf h12 hQ))))
theorem xs_Fi_canFire {fu : Nat} {k1 : Nat} {x2 : Int} {t : Tb} {r : Int} {t' : Tb} {Q : Int → Sto → Prop} (h : x_Fi_canFire fu k1 x2 t = some (r, t')) (hQ : Q r (tof t')) : K_Fi_canFire k1 x2 (tof t) Q := xt_Fi_canFire_e (o := (r, t')) hQ h
def xb_Fi_giveAlong_e (fu : Nat) (rec : Nat → List Int → List Nat → Tb → Option (Int × Tb)) (k1 : Nat) (x2 : Int) (x3 : Int) (x4 : Int) (t : Tb) : Option (Int × Tb) := if arb SC k1 1 8 = true then if 0 ≤ x2 ∧ x2 < 8 then if 0 ≤ x3 ∧ x3 < 8 then if 0 ≤ x2 ∧ x2 < 8 then if 0 ≤ x2 ∧ x2 < 8 then upB t k1 (Int.toNat x2) (((tof t) k1 (Int.toNat x2)) - (x4 * ((tof t) (5 + Int.toNat x2) (Int.toNat x3)))) fun t5 => if (-2147483648 ≤ x3 ∧ x3 < 2147483648) ∧ -2147483648 ≤ ((tof t5) 1 2) ∧ ((tof t5) 1 2) < 2147483648 then if x3 = ((tof t5) 1 2) then some (0, t5) else if 0 ≤ x3 ∧ x3 < 8 then if 0 ≤ x3 ∧ x3 < 8 then upB t5 k1 (Int.toNat x3) (((tof t5) k1 (Int.toNat x3)) + (x4 * ((tof t) (5 + Int.toNat x2) (Int.toNat x3)))) fun t10 => some (0, t10) else none else none else none else none else none else none else none else none
def x_Fi_giveAlong (fu : Nat) (k1 : Nat) (x2 : Int) (x3 : Int) (x4 : Int) (t : Tb) : Option (Int × Tb) := xb_Fi_giveAlong_e fu (fun _ _ _ _ => none) k1 x2 x3 x4 t
set_option maxRecDepth 20000 in
theorem xt_Fi_giveAlong_e {fu : Nat} {rec : Nat → List Int → List Nat → Tb → Option (Int × Tb)} {o : Int × Tb} {Q : Sto → Prop} (hQ : Q (tof o.2)) {k1 : Nat} {x2 : Int} {x3 : Int} {x4 : Int} {t : Tb} (h0 : xb_Fi_giveAlong_e fu rec k1 x2 x3 x4 t = some o) : K_Fi_giveAlong k1 x2 x3 x4 (tof t) Q := by
  unfold xb_Fi_giveAlong_e at h0
  obtain ⟨a0, h0⟩ := xr_and h0 (R := _ = some o) (fun _ z => z)
  exact e_Fi_giveAlong (arb_ar a0) (xr_and h0 fun _ h1 => xr_and h1 fun _ h2 => xr_and h2 fun _ h3 => xr_and h3 fun _ h4 => xr_up h4 fun t5 h5 => xr_and h5 fun _ h6 => xr_ite h6 (fun z => z) (fun h7 => xr_leafV h7 hQ) (fun h8 => xr_and h8 fun _ h9 => xr_and h9 fun _ h10 => xr_up h10 fun t10 h11 => xr_leafV h11 hQ))
theorem xs_Fi_giveAlong {fu : Nat} {k1 : Nat} {x2 : Int} {x3 : Int} {x4 : Int} {t : Tb} {r : Int} {t' : Tb} {Q : Sto → Prop} (h : x_Fi_giveAlong fu k1 x2 x3 x4 t = some (r, t')) (hQ : Q (tof t')) : K_Fi_giveAlong k1 x2 x3 x4 (tof t) Q := xt_Fi_giveAlong_e (o := (r, t')) hQ h
def xb_Fi_give_15 (fu : Nat) (rec : Nat → List Int → List Nat → Tb → Option (Int × Tb)) (k1 : Nat) (x2 : Int) (x3 : Int) (x4 : Int) (t : Tb) : Option (Int × Tb) := if arb SC k1 1 8 = true then if (-2147483648 ≤ x4 ∧ x4 < 2147483648) ∧ -2147483648 ≤ ((tof t) 1 0) ∧ ((tof t) 1 0) < 2147483648 then if ((tof t) 1 0) ≤ x4 then some (0, t) else bnd (x_Fi_giveAlong fu k1 x2 x4 x3 t) fun _ t12 => rec 15 [x2, x3, (x4 + 1)] [k1] t12 else none else none
def xb_Fi_give_e (fu : Nat) (rec : Nat → List Int → List Nat → Tb → Option (Int × Tb)) (k1 : Nat) (x2 : Int) (x3 : Int) (t : Tb) : Option (Int × Tb) := if arb SC k1 1 8 = true then bnd (x_Gr_hasNode fu x2 t) fun r4 t3 => if -2147483648 ≤ r4 ∧ r4 < 2147483648 then if ¬ r4 = 0 then rec 15 [x2, x3, 0] [k1] t3 else some (0, t3) else none else none
def xm_Fi_give (fu : Nat) : Nat → Nat → List Int → List Nat → Tb → Option (Int × Tb)
  | 0, _, _, _, _ => none
  | n + 1, pc, a, ks, t => if pc = 15 then xb_Fi_give_15 fu (xm_Fi_give fu n) (ks.getD 0 0) (a.getD 0 0) (a.getD 1 0) (a.getD 2 0) t else none
def x_Fi_give (fu : Nat) (k1 : Nat) (x2 : Int) (x3 : Int) (t : Tb) : Option (Int × Tb) := xb_Fi_give_e fu (xm_Fi_give fu fu) k1 x2 x3 t
set_option maxRecDepth 20000 in
theorem xt_Fi_give_15 {fu : Nat} {rec : Nat → List Int → List Nat → Tb → Option (Int × Tb)} {o : Int × Tb} {Q : Sto → Prop} (hQ : Q (tof o.2)) (hr_15 : ∀ (k1 : Nat) (x2 : Int) (x3 : Int) (x4 : Int) (t : Tb), rec 15 [x2, x3, x4] [k1] t = some o → H_Fi_give_15 Q k1 x2 x3 x4 (tof t)) {k1 : Nat} {x2 : Int} {x3 : Int} {x4 : Int} {t : Tb} (h0 : xb_Fi_give_15 fu rec k1 x2 x3 x4 t = some o) : H_Fi_give_15 Q k1 x2 x3 x4 (tof t) := by
  unfold xb_Fi_give_15 at h0
  obtain ⟨a0, h0⟩ := xr_and h0 (R := _ = some o) (fun _ z => z)
  exact b_Fi_give_15 (arb_ar a0) (xr_and h0 fun _ h1 => xr_ite h1 (fun z y => by omega) (fun h2 => xr_leafV h2 hQ) (fun h3 => xr_callV h3 (fun _ _ hc => xs_Fi_giveAlong hc rfl) fun _ t12 h4 => hr_15 _ _ _ _ _ h4))
set_option maxRecDepth 20000 in
theorem xt_Fi_give_e {fu : Nat} {rec : Nat → List Int → List Nat → Tb → Option (Int × Tb)} {o : Int × Tb} {Q : Sto → Prop} (hQ : Q (tof o.2)) (hr_15 : ∀ (k1 : Nat) (x2 : Int) (x3 : Int) (x4 : Int) (t : Tb), rec 15 [x2, x3, x4] [k1] t = some o → H_Fi_give_15 Q k1 x2 x3 x4 (tof t)) {k1 : Nat} {x2 : Int} {x3 : Int} {t : Tb} (h0 : xb_Fi_give_e fu rec k1 x2 x3 t = some o) : K_Fi_give k1 x2 x3 (tof t) Q := by
  unfold xb_Fi_give_e at h0
  obtain ⟨a0, h0⟩ := xr_and h0 (R := _ = some o) (fun _ z => z)
  exact e_Fi_give (arb_ar a0) (xr_call h0 (fun _ _ hc => xs_Gr_hasNode hc ⟨rfl, rfl⟩) fun r4 t3 h5 => xr_and h5 fun _ h6 => xr_ite h6 (fun z y => y z) (fun h7 => hr_15 _ _ _ _ _ h7) (fun h8 => xr_leafV h8 hQ))
theorem xl_Fi_give {fu : Nat} {o : Int × Tb} {Q : Sto → Prop} (hQ : Q (tof o.2)) : ∀ n : Nat, (∀ (k1 : Nat) (x2 : Int) (x3 : Int) (x4 : Int) (t : Tb), xm_Fi_give fu n 15 [x2, x3, x4] [k1] t = some o → H_Fi_give_15 Q k1 x2 x3 x4 (tof t)) := by
  intro n
  induction n with
  | zero => exact fun _ _ _ _ _ h => (nomatch h)
  | succ n ih =>
    have i15 := ih
    exact fun _ _ _ _ _ h => xt_Fi_give_15 (fu := fu) hQ i15 h
theorem xs_Fi_give {fu : Nat} {k1 : Nat} {x2 : Int} {x3 : Int} {t : Tb} {r : Int} {t' : Tb} {Q : Sto → Prop} (h : x_Fi_give fu k1 x2 x3 t = some (r, t')) (hQ : Q (tof t')) : K_Fi_give k1 x2 x3 (tof t) Q := xt_Fi_give_e (o := (r, t')) hQ (xl_Fi_give hQ fu) h
def xb_Cg_fire_e (fu : Nat) (rec : Nat → List Int → List Nat → Tb → Option (Int × Tb)) (x1 : Int) (t : Tb) : Option (Int × Tb) := bnd (x_Gr_hasChipsAt fu x1 t) fun r4 t3 => if -2147483648 ≤ r4 ∧ r4 < 2147483648 then if ¬ r4 = 0 then bnd (x_Fi_canFire fu 187 x1 t3) fun r11 t10 => if -2147483648 ≤ r11 ∧ r11 < 2147483648 then if ¬ r11 = 0 then bnd (x_Hi_record fu 187 t10) fun _ t17 => bnd (x_Fi_give fu 187 x1 1 t17) fun _ t22 => if 0 ≤ x1 ∧ x1 < 8 then some (((tof t22) 187 (Int.toNat x1)), t22) else none else some ((-10004), t10) else none else some ((-10001), t3) else none
def x_Cg_fire (fu : Nat) (x1 : Int) (t : Tb) : Option (Int × Tb) := xb_Cg_fire_e fu (fun _ _ _ _ => none) x1 t
set_option maxRecDepth 20000 in
theorem xt_Cg_fire_e {fu : Nat} {rec : Nat → List Int → List Nat → Tb → Option (Int × Tb)} {o : Int × Tb} {Q : Int → Sto → Prop} (hQ : Q o.1 (tof o.2)) {x1 : Int} {t : Tb} (h0 : xb_Cg_fire_e fu rec x1 t = some o) : K_Cg_fire x1 (tof t) Q :=
  e_Cg_fire (xr_call h0 (fun _ _ hc => xs_Gr_hasChipsAt hc ⟨rfl, rfl⟩) fun r4 t3 h1 => xr_and h1 fun _ h2 => xr_ite h2 (fun z y => y z) (fun h3 => xr_call h3 (fun _ _ hc => xs_Fi_canFire hc ⟨rfl, rfl⟩) fun r11 t10 h5 => xr_and h5 fun _ h6 => xr_ite h6 (fun z y => y z) (fun h7 => xr_callV h7 (fun _ _ hc => xs_Hi_record hc rfl) fun _ t17 h9 => xr_callV h9 (fun _ _ hc => xs_Fi_give hc rfl) fun _ t22 h10 => xr_and h10 fun _ h11 => xr_leaf h11 hQ) (fun h8 => xr_leaf h8 hQ)) (fun h4 => xr_leaf h4 hQ))
theorem xs_Cg_fire {fu : Nat} {x1 : Int} {t : Tb} {r : Int} {t' : Tb} {Q : Int → Sto → Prop} (h : x_Cg_fire fu x1 t = some (r, t')) (hQ : Q r (tof t')) : K_Cg_fire x1 (tof t) Q := xt_Cg_fire_e (o := (r, t')) hQ h
def xb_Fi_fireWhilePossible_e (fu : Nat) (rec : Nat → List Int → List Nat → Tb → Option (Int × Tb)) (k1 : Nat) (x2 : Int) (t : Tb) : Option (Int × Tb) := if arb SC k1 1 8 = true then bnd (x_Gr_degreeOf fu x2 t) fun r4 t3 => bnd (x_Fi_canFire fu k1 x2 t3) fun r9 t8 => if -2147483648 ≤ r9 ∧ r9 < 2147483648 then if r9 = 0 then some (0, t8) else if -2147483648 ≤ r4 ∧ r4 < 2147483648 then if 0 < r4 then if 0 ≤ x2 ∧ x2 < 8 then if ((-2147483648 ≤ ((tof t8) k1 (Int.toNat x2)) ∧ ((tof t8) k1 (Int.toNat x2)) < 2147483648) ∧ -2147483648 ≤ r4 ∧ r4 < 2147483648) ∧ ¬ r4 = 0 then bnd (x_Fi_give fu k1 x2 (Int.tdiv ((tof t8) k1 (Int.toNat x2)) r4) t8) fun _ t19 => if 0 ≤ x2 ∧ x2 < 8 then if 0 ≤ x2 ∧ x2 < 8 then upB t19 41 (Int.toNat x2) (((tof t19) 41 (Int.toNat x2)) + (Int.tdiv ((tof t8) k1 (Int.toNat x2)) r4)) fun t24 => some ((Int.tdiv ((tof t8) k1 (Int.toNat x2)) r4), t24) else none else none else none else none else some (0, t8) else none else none else none
def x_Fi_fireWhilePossible (fu : Nat) (k1 : Nat) (x2 : Int) (t : Tb) : Option (Int × Tb) := xb_Fi_fireWhilePossible_e fu (fun _ _ _ _ => none) k1 x2 t
set_option maxRecDepth 20000 in
theorem xt_Fi_fireWhilePossible_e {fu : Nat} {rec : Nat → List Int → List Nat → Tb → Option (Int × Tb)} {o : Int × Tb} {Q : Int → Sto → Prop} (hQ : Q o.1 (tof o.2)) {k1 : Nat} {x2 : Int} {t : Tb} (h0 : xb_Fi_fireWhilePossible_e fu rec k1 x2 t = some o) : K_Fi_fireWhilePossible k1 x2 (tof t) Q := by
  unfold xb_Fi_fireWhilePossible_e at h0
  obtain ⟨a0, h0⟩ := xr_and h0 (R := _ = some o) (fun _ z => z)
  exact e_Fi_fireWhilePossible (arb_ar a0) (xr_call h0 (fun _ _ hc => xs_Gr_degreeOf hc ⟨rfl, rfl⟩) fun r4 t3 h1 => xr_call h1 (fun _ _ hc => xs_Fi_canFire hc ⟨rfl, rfl⟩) fun r9 t8 h2 => xr_and h2 fun _ h3 => xr_ite h3 (fun z => z) (fun h4 => xr_leaf h4 hQ) (fun h5 => xr_and h5 fun _ h6 => xr_ite h6 (fun z y => by omega) (fun h7 => xr_and h7 fun _ h9 => xr_and h9 fun _ h10 => xr_callV h10 (fun _ _ hc => xs_Fi_give hc rfl) fun _ t19 h11 => xr_and h11 fun _ h12 => xr_and h12 fun _ h13 => xr_up h13 fun t24 h14 => xr_leaf h14 hQ) (fun h8 => xr_leaf h8 hQ)))
theorem xs_Fi_fireWhilePossible {fu : Nat} {k1 : Nat} {x2 : Int} {t : Tb} {r : Int} {t' : Tb} {Q : Int → Sto → Prop} (h : x_Fi_fireWhilePossible fu k1 x2 t = some (r, t')) (hQ : Q r (tof t')) : K_Fi_fireWhilePossible k1 x2 (tof t) Q := xt_Fi_fireWhilePossible_e (o := (r, t')) hQ h
def xb_Fi_settle_14 (fu : Nat) (rec : Nat → List Int → List Nat → Tb → Option (Int × Tb)) (k1 : Nat) (x2 : Int) (x3 : Int) (x4 : Int) (t : Tb) : Option (Int × Tb) := if arb SC k1 1 8 = true then if -2147483648 ≤ x3 ∧ x3 < 2147483648 then if x3 ≤ 0 then some (x2, t) else if -2147483648 ≤ x4 ∧ x4 < 2147483648 then if 1000000 ≤ x4 then some (x2, t) else rec 30 [x2, 0, x4, 0] [k1] t else none else none else none
def xb_Fi_settle_30 (fu : Nat) (rec : Nat → List Int → List Nat → Tb → Option (Int × Tb)) (k1 : Nat) (x2 : Int) (x3 : Int) (x4 : Int) (x5 : Int) (t : Tb) : Option (Int × Tb) := if arb SC k1 1 8 = true then if (-2147483648 ≤ x5 ∧ x5 < 2147483648) ∧ -2147483648 ≤ ((tof t) 1 0) ∧ ((tof t) 1 0) < 2147483648 then if ((tof t) 1 0) ≤ x5 then rec 14 [(x2 + x3), x3, (x4 + 1)] [k1] t else bnd (x_Fi_fireWhilePossible fu k1 x5 t) fun r15 t14 => rec 30 [x2, (x3 + r15), x4, (x5 + 1)] [k1] t14 else none else none
def xb_Fi_settle_e (fu : Nat) (rec : Nat → List Int → List Nat → Tb → Option (Int × Tb)) (k1 : Nat) (t : Tb) : Option (Int × Tb) := if arb SC k1 1 8 = true then bnd (x_Cg_clearChips fu 41 t) fun _ t3 => rec 14 [0, 1, 0] [k1] t3 else none
def xm_Fi_settle (fu : Nat) : Nat → Nat → List Int → List Nat → Tb → Option (Int × Tb)
  | 0, _, _, _, _ => none
  | n + 1, pc, a, ks, t => if pc = 14 then xb_Fi_settle_14 fu (xm_Fi_settle fu n) (ks.getD 0 0) (a.getD 0 0) (a.getD 1 0) (a.getD 2 0) t else if pc = 30 then xb_Fi_settle_30 fu (xm_Fi_settle fu n) (ks.getD 0 0) (a.getD 0 0) (a.getD 1 0) (a.getD 2 0) (a.getD 3 0) t else none
def x_Fi_settle (fu : Nat) (k1 : Nat) (t : Tb) : Option (Int × Tb) := xb_Fi_settle_e fu (xm_Fi_settle fu fu) k1 t
set_option maxRecDepth 20000 in
theorem xt_Fi_settle_14 {fu : Nat} {rec : Nat → List Int → List Nat → Tb → Option (Int × Tb)} {o : Int × Tb} {Q : Int → Sto → Prop} (hQ : Q o.1 (tof o.2)) (hr_14 : ∀ (k1 : Nat) (x2 : Int) (x3 : Int) (x4 : Int) (t : Tb), rec 14 [x2, x3, x4] [k1] t = some o → H_Fi_settle_14 Q k1 x2 x3 x4 (tof t)) (hr_30 : ∀ (k1 : Nat) (x2 : Int) (x3 : Int) (x4 : Int) (x5 : Int) (t : Tb), rec 30 [x2, x3, x4, x5] [k1] t = some o → H_Fi_settle_30 Q k1 x2 x3 x4 x5 (tof t)) {k1 : Nat} {x2 : Int} {x3 : Int} {x4 : Int} {t : Tb} (h0 : xb_Fi_settle_14 fu rec k1 x2 x3 x4 t = some o) : H_Fi_settle_14 Q k1 x2 x3 x4 (tof t) := by
  unfold xb_Fi_settle_14 at h0
  obtain ⟨a0, h0⟩ := xr_and h0 (R := _ = some o) (fun _ z => z)
  exact b_Fi_settle_14 (arb_ar a0) (xr_and h0 fun _ h1 => xr_ite h1 (fun z y => by omega) (fun h2 => xr_leaf h2 hQ) (fun h3 => xr_and h3 fun _ h4 => xr_ite h4 (fun z y => by omega) (fun h5 => xr_leaf h5 hQ) (fun h6 => hr_30 _ _ _ _ _ _ h6)))
set_option maxRecDepth 20000 in
theorem xt_Fi_settle_30 {fu : Nat} {rec : Nat → List Int → List Nat → Tb → Option (Int × Tb)} {o : Int × Tb} {Q : Int → Sto → Prop} (hQ : Q o.1 (tof o.2)) (hr_14 : ∀ (k1 : Nat) (x2 : Int) (x3 : Int) (x4 : Int) (t : Tb), rec 14 [x2, x3, x4] [k1] t = some o → H_Fi_settle_14 Q k1 x2 x3 x4 (tof t)) (hr_30 : ∀ (k1 : Nat) (x2 : Int) (x3 : Int) (x4 : Int) (x5 : Int) (t : Tb), rec 30 [x2, x3, x4, x5] [k1] t = some o → H_Fi_settle_30 Q k1 x2 x3 x4 x5 (tof t)) {k1 : Nat} {x2 : Int} {x3 : Int} {x4 : Int} {x5 : Int} {t : Tb} (h0 : xb_Fi_settle_30 fu rec k1 x2 x3 x4 x5 t = some o) : H_Fi_settle_30 Q k1 x2 x3 x4 x5 (tof t) := by
  unfold xb_Fi_settle_30 at h0
  obtain ⟨a0, h0⟩ := xr_and h0 (R := _ = some o) (fun _ z => z)
  exact b_Fi_settle_30 (arb_ar a0) (xr_and h0 fun _ h7 => xr_ite h7 (fun z y => by omega) (fun h8 => hr_14 _ _ _ _ _ h8) (fun h9 => xr_call h9 (fun _ _ hc => xs_Fi_fireWhilePossible hc ⟨rfl, rfl⟩) fun r15 t14 h10 => hr_30 _ _ _ _ _ _ h10))
set_option maxRecDepth 20000 in
theorem xt_Fi_settle_e {fu : Nat} {rec : Nat → List Int → List Nat → Tb → Option (Int × Tb)} {o : Int × Tb} {Q : Int → Sto → Prop} (hQ : Q o.1 (tof o.2)) (hr_14 : ∀ (k1 : Nat) (x2 : Int) (x3 : Int) (x4 : Int) (t : Tb), rec 14 [x2, x3, x4] [k1] t = some o → H_Fi_settle_14 Q k1 x2 x3 x4 (tof t)) (hr_30 : ∀ (k1 : Nat) (x2 : Int) (x3 : Int) (x4 : Int) (x5 : Int) (t : Tb), rec 30 [x2, x3, x4, x5] [k1] t = some o → H_Fi_settle_30 Q k1 x2 x3 x4 x5 (tof t)) {k1 : Nat} {t : Tb} (h0 : xb_Fi_settle_e fu rec k1 t = some o) : K_Fi_settle k1 (tof t) Q := by
  unfold xb_Fi_settle_e at h0
  obtain ⟨a0, h0⟩ := xr_and h0 (R := _ = some o) (fun _ z => z)
  exact e_Fi_settle (arb_ar a0) (xr_callV h0 (fun _ _ hc => xs_Cg_clearChips hc rfl) fun _ t3 h11 => hr_14 _ _ _ _ _ h11)
theorem xl_Fi_settle {fu : Nat} {o : Int × Tb} {Q : Int → Sto → Prop} (hQ : Q o.1 (tof o.2)) : ∀ n : Nat, (∀ (k1 : Nat) (x2 : Int) (x3 : Int) (x4 : Int) (t : Tb), xm_Fi_settle fu n 14 [x2, x3, x4] [k1] t = some o → H_Fi_settle_14 Q k1 x2 x3 x4 (tof t)) ∧ (∀ (k1 : Nat) (x2 : Int) (x3 : Int) (x4 : Int) (x5 : Int) (t : Tb), xm_Fi_settle fu n 30 [x2, x3, x4, x5] [k1] t = some o → H_Fi_settle_30 Q k1 x2 x3 x4 x5 (tof t)) := by
  intro n
  induction n with
  | zero => exact ⟨fun _ _ _ _ _ h => (nomatch h), fun _ _ _ _ _ _ h => (nomatch h)⟩
  | succ n ih =>
    obtain ⟨i14, i30⟩ := ih
    exact ⟨fun _ _ _ _ _ h => xt_Fi_settle_14 (fu := fu) hQ i14 i30 h, fun _ _ _ _ _ _ h => xt_Fi_settle_30 (fu := fu) hQ i14 i30 h⟩
theorem xs_Fi_settle {fu : Nat} {k1 : Nat} {t : Tb} {r : Int} {t' : Tb} {Q : Int → Sto → Prop} (h : x_Fi_settle fu k1 t = some (r, t')) (hQ : Q r (tof t')) : K_Fi_settle k1 (tof t) Q := xt_Fi_settle_e (o := (r, t')) hQ (xl_Fi_settle hQ fu).1 (xl_Fi_settle hQ fu).2 h
def xb_Cg_firings_e (fu : Nat) (rec : Nat → List Int → List Nat → Tb → Option (Int × Tb)) (x1 : Int) (t : Tb) : Option (Int × Tb) := bnd (x_Gr_hasChipsAt fu x1 t) fun r4 t3 => if -2147483648 ≤ r4 ∧ r4 < 2147483648 then if ¬ r4 = 0 then bnd (x_Gr_isConnected fu t3) fun r11 t10 => if -2147483648 ≤ r11 ∧ r11 < 2147483648 then if ¬ r11 = 0 then bnd (x_Cg_copyChips fu 187 188 t10) fun _ t17 => bnd (x_Fi_settle fu 188 t17) fun r23 t22 => if 0 ≤ x1 ∧ x1 < 8 then some (((tof t22) 41 (Int.toNat x1)), t22) else none else some ((-10003), t10) else none else some ((-10001), t3) else none
def x_Cg_firings (fu : Nat) (x1 : Int) (t : Tb) : Option (Int × Tb) := xb_Cg_firings_e fu (fun _ _ _ _ => none) x1 t
set_option maxRecDepth 20000 in
theorem xt_Cg_firings_e {fu : Nat} {rec : Nat → List Int → List Nat → Tb → Option (Int × Tb)} {o : Int × Tb} {Q : Int → Sto → Prop} (hQ : Q o.1 (tof o.2)) {x1 : Int} {t : Tb} (h0 : xb_Cg_firings_e fu rec x1 t = some o) : K_Cg_firings x1 (tof t) Q :=
  e_Cg_firings (xr_call h0 (fun _ _ hc => xs_Gr_hasChipsAt hc ⟨rfl, rfl⟩) fun r4 t3 h1 => xr_and h1 fun _ h2 => xr_ite h2 (fun z y => y z) (fun h3 => xr_call h3 (fun _ _ hc => xs_Gr_isConnected hc ⟨rfl, rfl⟩) fun r11 t10 h5 => xr_and h5 fun _ h6 => xr_ite h6 (fun z y => y z) (fun h7 => xr_callV h7 (fun _ _ hc => xs_Cg_copyChips hc rfl) fun _ t17 h9 => xr_call h9 (fun _ _ hc => xs_Fi_settle hc ⟨rfl, rfl⟩) fun r23 t22 h10 => xr_and h10 fun _ h11 => xr_leaf h11 hQ) (fun h8 => xr_leaf h8 hQ)) (fun h4 => xr_leaf h4 hQ))
theorem xs_Cg_firings {fu : Nat} {x1 : Int} {t : Tb} {r : Int} {t' : Tb} {Q : Int → Sto → Prop} (h : x_Cg_firings fu x1 t = some (r, t')) (hQ : Q r (tof t')) : K_Cg_firings x1 (tof t) Q := xt_Cg_firings_e (o := (r, t')) hQ h
def xb_Fi_fireUnburnt_2 (fu : Nat) (rec : Nat → List Int → List Nat → Tb → Option (Int × Tb)) (k1 : Nat) (x2 : Int) (t : Tb) : Option (Int × Tb) := if arb SC k1 1 8 = true then if (-2147483648 ≤ x2 ∧ x2 < 2147483648) ∧ -2147483648 ≤ ((tof t) 1 0) ∧ ((tof t) 1 0) < 2147483648 then if ((tof t) 1 0) ≤ x2 then some (0, t) else rec 15 [x2, 0] [k1] t else none else none
def xb_Fi_fireUnburnt_15 (fu : Nat) (rec : Nat → List Int → List Nat → Tb → Option (Int × Tb)) (k1 : Nat) (x2 : Int) (x3 : Int) (t : Tb) : Option (Int × Tb) := if arb SC k1 1 8 = true then if (-2147483648 ≤ x3 ∧ x3 < 2147483648) ∧ -2147483648 ≤ ((tof t) 1 0) ∧ ((tof t) 1 0) < 2147483648 then if ((tof t) 1 0) ≤ x3 then rec 2 [(x2 + 1)] [k1] t else bnd (x_Bu_hasBurnt fu x2 t) fun r8 t7 => if -2147483648 ≤ r8 ∧ r8 < 2147483648 then if ¬ r8 = 0 then rec 15 [x2, (x3 + 1)] [k1] t7 else bnd (x_Bu_hasBurnt fu x3 t7) fun r15 t14 => if -2147483648 ≤ r15 ∧ r15 < 2147483648 then if r15 = 0 then rec 15 [x2, (x3 + 1)] [k1] t14 else bnd (x_Fi_giveAlong fu k1 x2 x3 1 t14) fun _ t21 => rec 15 [x2, (x3 + 1)] [k1] t21 else none else none else none else none
def xb_Fi_fireUnburnt_e (fu : Nat) (rec : Nat → List Int → List Nat → Tb → Option (Int × Tb)) (k1 : Nat) (t : Tb) : Option (Int × Tb) := if arb SC k1 1 8 = true then rec 2 [0] [k1] t else none
def xm_Fi_fireUnburnt (fu : Nat) : Nat → Nat → List Int → List Nat → Tb → Option (Int × Tb)
  | 0, _, _, _, _ => none
  | n + 1, pc, a, ks, t => if pc = 2 then xb_Fi_fireUnburnt_2 fu (xm_Fi_fireUnburnt fu n) (ks.getD 0 0) (a.getD 0 0) t else if pc = 15 then xb_Fi_fireUnburnt_15 fu (xm_Fi_fireUnburnt fu n) (ks.getD 0 0) (a.getD 0 0) (a.getD 1 0) t else none
def x_Fi_fireUnburnt (fu : Nat) (k1 : Nat) (t : Tb) : Option (Int × Tb) := xb_Fi_fireUnburnt_e fu (xm_Fi_fireUnburnt fu fu) k1 t
set_option maxRecDepth 20000 in
theorem xt_Fi_fireUnburnt_2 {fu : Nat} {rec : Nat → List Int → List Nat → Tb → Option (Int × Tb)} {o : Int × Tb} {Q : Sto → Prop} (hQ : Q (tof o.2)) (hr_2 : ∀ (k1 : Nat) (x2 : Int) (t : Tb), rec 2 [x2] [k1] t = some o → H_Fi_fireUnburnt_2 Q k1 x2 (tof t)) (hr_15 : ∀ (k1 : Nat) (x2 : Int) (x3 : Int) (t : Tb), rec 15 [x2, x3] [k1] t = some o → H_Fi_fireUnburnt_15 Q k1 x2 x3 (tof t)) {k1 : Nat} {x2 : Int} {t : Tb} (h0 : xb_Fi_fireUnburnt_2 fu rec k1 x2 t = some o) : H_Fi_fireUnburnt_2 Q k1 x2 (tof t) := by
  unfold xb_Fi_fireUnburnt_2 at h0
  obtain ⟨a0, h0⟩ := xr_and h0 (R := _ = some o) (fun _ z => z)
  exact b_Fi_fireUnburnt_2 (arb_ar a0) (xr_and h0 fun _ h1 => xr_ite h1 (fun z y => by omega) (fun h2 => xr_leafV h2 hQ) (fun h3 => hr_15 _ _ _ _ h3))
set_option maxRecDepth 20000 in
theorem xt_Fi_fireUnburnt_15 {fu : Nat} {rec : Nat → List Int → List Nat → Tb → Option (Int × Tb)} {o : Int × Tb} {Q : Sto → Prop} (hQ : Q (tof o.2)) (hr_2 : ∀ (k1 : Nat) (x2 : Int) (t : Tb), rec 2 [x2] [k1] t = some o → H_Fi_fireUnburnt_2 Q k1 x2 (tof t)) (hr_15 : ∀ (k1 : Nat) (x2 : Int) (x3 : Int) (t : Tb), rec 15 [x2, x3] [k1] t = some o → H_Fi_fireUnburnt_15 Q k1 x2 x3 (tof t)) {k1 : Nat} {x2 : Int} {x3 : Int} {t : Tb} (h0 : xb_Fi_fireUnburnt_15 fu rec k1 x2 x3 t = some o) : H_Fi_fireUnburnt_15 Q k1 x2 x3 (tof t) := by
  unfold xb_Fi_fireUnburnt_15 at h0
  obtain ⟨a0, h0⟩ := xr_and h0 (R := _ = some o) (fun _ z => z)
  exact b_Fi_fireUnburnt_15 (arb_ar a0) (xr_and h0 fun _ h4 => xr_ite h4 (fun z y => by omega) (fun h5 => hr_2 _ _ _ h5) (fun h6 => xr_call h6 (fun _ _ hc => xs_Bu_hasBurnt hc ⟨rfl, rfl⟩) fun r8 t7 h7 => xr_and h7 fun _ h8 => xr_ite h8 (fun z y => y z) (fun h9 => hr_15 _ _ _ _ h9) (fun h10 => xr_call h10 (fun _ _ hc => xs_Bu_hasBurnt hc ⟨rfl, rfl⟩) fun r15 t14 h11 => xr_and h11 fun _ h12 => xr_ite h12 (fun z => z) (fun h13 => hr_15 _ _ _ _ h13) (fun h14 => xr_callV h14 (fun _ _ hc => xs_Fi_giveAlong hc rfl) fun _ t21 h15 => hr_15 _ _ _ _ h15))))
set_option maxRecDepth 20000 in
theorem xt_Fi_fireUnburnt_e {fu : Nat} {rec : Nat → List Int → List Nat → Tb → Option (Int × Tb)} {o : Int × Tb} {Q : Sto → Prop} (hQ : Q (tof o.2)) (hr_2 : ∀ (k1 : Nat) (x2 : Int) (t : Tb), rec 2 [x2] [k1] t = some o → H_Fi_fireUnburnt_2 Q k1 x2 (tof t)) (hr_15 : ∀ (k1 : Nat) (x2 : Int) (x3 : Int) (t : Tb), rec 15 [x2, x3] [k1] t = some o → H_Fi_fireUnburnt_15 Q k1 x2 x3 (tof t)) {k1 : Nat} {t : Tb} (h0 : xb_Fi_fireUnburnt_e fu rec k1 t = some o) : K_Fi_fireUnburnt k1 (tof t) Q := by
  unfold xb_Fi_fireUnburnt_e at h0
  obtain ⟨a0, h0⟩ := xr_and h0 (R := _ = some o) (fun _ z => z)
  exact e_Fi_fireUnburnt (arb_ar a0) (hr_2 _ _ _ h0)
theorem xl_Fi_fireUnburnt {fu : Nat} {o : Int × Tb} {Q : Sto → Prop} (hQ : Q (tof o.2)) : ∀ n : Nat, (∀ (k1 : Nat) (x2 : Int) (t : Tb), xm_Fi_fireUnburnt fu n 2 [x2] [k1] t = some o → H_Fi_fireUnburnt_2 Q k1 x2 (tof t)) ∧ (∀ (k1 : Nat) (x2 : Int) (x3 : Int) (t : Tb), xm_Fi_fireUnburnt fu n 15 [x2, x3] [k1] t = some o → H_Fi_fireUnburnt_15 Q k1 x2 x3 (tof t)) := by
  intro n
  induction n with
  | zero => exact ⟨fun _ _ _ h => (nomatch h), fun _ _ _ _ h => (nomatch h)⟩
  | succ n ih =>
    obtain ⟨i2, i15⟩ := ih
    exact ⟨fun _ _ _ h => xt_Fi_fireUnburnt_2 (fu := fu) hQ i2 i15 h, fun _ _ _ _ h => xt_Fi_fireUnburnt_15 (fu := fu) hQ i2 i15 h⟩
theorem xs_Fi_fireUnburnt {fu : Nat} {k1 : Nat} {t : Tb} {r : Int} {t' : Tb} {Q : Sto → Prop} (h : x_Fi_fireUnburnt fu k1 t = some (r, t')) (hQ : Q (tof t')) : K_Fi_fireUnburnt k1 (tof t) Q := xt_Fi_fireUnburnt_e (o := (r, t')) hQ (xl_Fi_fireUnburnt hQ fu).1 (xl_Fi_fireUnburnt hQ fu).2 h
def xb_Fi_fireSets_2 (fu : Nat) (rec : Nat → List Int → List Nat → Tb → Option (Int × Tb)) (k1 : Nat) (x2 : Int) (t : Tb) : Option (Int × Tb) := if arb SC k1 1 8 = true then if -2147483648 ≤ x2 ∧ x2 < 2147483648 then if 1000000 ≤ x2 then some (x2, t) else bnd (x_Bu_allBurnBySecondRule fu k1 t) fun r6 t5 => if -2147483648 ≤ r6 ∧ r6 < 2147483648 then if ¬ r6 = 0 then some (x2, t5) else bnd (x_Fi_fireUnburnt fu k1 t5) fun _ t12 => rec 2 [(x2 + 1)] [k1] t12 else none else none else none
def xb_Fi_fireSets_e (fu : Nat) (rec : Nat → List Int → List Nat → Tb → Option (Int × Tb)) (k1 : Nat) (t : Tb) : Option (Int × Tb) := if arb SC k1 1 8 = true then rec 2 [0] [k1] t else none
def xm_Fi_fireSets (fu : Nat) : Nat → Nat → List Int → List Nat → Tb → Option (Int × Tb)
  | 0, _, _, _, _ => none
  | n + 1, pc, a, ks, t => if pc = 2 then xb_Fi_fireSets_2 fu (xm_Fi_fireSets fu n) (ks.getD 0 0) (a.getD 0 0) t else none
def x_Fi_fireSets (fu : Nat) (k1 : Nat) (t : Tb) : Option (Int × Tb) := xb_Fi_fireSets_e fu (xm_Fi_fireSets fu fu) k1 t
set_option maxRecDepth 20000 in
theorem xt_Fi_fireSets_2 {fu : Nat} {rec : Nat → List Int → List Nat → Tb → Option (Int × Tb)} {o : Int × Tb} {Q : Int → Sto → Prop} (hQ : Q o.1 (tof o.2)) (hr_2 : ∀ (k1 : Nat) (x2 : Int) (t : Tb), rec 2 [x2] [k1] t = some o → H_Fi_fireSets_2 Q k1 x2 (tof t)) {k1 : Nat} {x2 : Int} {t : Tb} (h0 : xb_Fi_fireSets_2 fu rec k1 x2 t = some o) : H_Fi_fireSets_2 Q k1 x2 (tof t) := by
  unfold xb_Fi_fireSets_2 at h0
  obtain ⟨a0, h0⟩ := xr_and h0 (R := _ = some o) (fun _ z => z)
  exact b_Fi_fireSets_2 (arb_ar a0) (xr_and h0 fun _ h1 => xr_ite h1 (fun z y => by omega) (fun h2 => xr_leaf h2 hQ) (fun h3 => xr_call h3 (fun _ _ hc => xs_Bu_allBurnBySecondRule hc ⟨rfl, rfl⟩) fun r6 t5 h4 => xr_and h4 fun _ h5 => xr_ite h5 (fun z y => y z) (fun h6 => xr_leaf h6 hQ) (fun h7 => xr_callV h7 (fun _ _ hc => xs_Fi_fireUnburnt hc rfl) fun _ t12 h8 => hr_2 _ _ _ h8)))
set_option maxRecDepth 20000 in
theorem xt_Fi_fireSets_e {fu : Nat} {rec : Nat → List Int → List Nat → Tb → Option (Int × Tb)} {o : Int × Tb} {Q : Int → Sto → Prop} (hQ : Q o.1 (tof o.2)) (hr_2 : ∀ (k1 : Nat) (x2 : Int) (t : Tb), rec 2 [x2] [k1] t = some o → H_Fi_fireSets_2 Q k1 x2 (tof t)) {k1 : Nat} {t : Tb} (h0 : xb_Fi_fireSets_e fu rec k1 t = some o) : K_Fi_fireSets k1 (tof t) Q := by
  unfold xb_Fi_fireSets_e at h0
  obtain ⟨a0, h0⟩ := xr_and h0 (R := _ = some o) (fun _ z => z)
  exact e_Fi_fireSets (arb_ar a0) (hr_2 _ _ _ h0)
theorem xl_Fi_fireSets {fu : Nat} {o : Int × Tb} {Q : Int → Sto → Prop} (hQ : Q o.1 (tof o.2)) : ∀ n : Nat, (∀ (k1 : Nat) (x2 : Int) (t : Tb), xm_Fi_fireSets fu n 2 [x2] [k1] t = some o → H_Fi_fireSets_2 Q k1 x2 (tof t)) := by
  intro n
  induction n with
  | zero => exact fun _ _ _ h => (nomatch h)
  | succ n ih =>
    have i2 := ih
    exact fun _ _ _ h => xt_Fi_fireSets_2 (fu := fu) hQ i2 h
theorem xs_Fi_fireSets {fu : Nat} {k1 : Nat} {t : Tb} {r : Int} {t' : Tb} {Q : Int → Sto → Prop} (h : x_Fi_fireSets fu k1 t = some (r, t')) (hQ : Q r (tof t')) : K_Fi_fireSets k1 (tof t) Q := xt_Fi_fireSets_e (o := (r, t')) hQ (xl_Fi_fireSets hQ fu) h
def xb_Fi_mirror_2 (fu : Nat) (rec : Nat → List Int → List Nat → Tb → Option (Int × Tb)) (k1 : Nat) (x2 : Int) (t : Tb) : Option (Int × Tb) := if arb SC k1 1 8 = true then if (-2147483648 ≤ x2 ∧ x2 < 2147483648) ∧ -2147483648 ≤ ((tof t) 1 0) ∧ ((tof t) 1 0) < 2147483648 then if ((tof t) 1 0) ≤ x2 then some (0, t) else if (-2147483648 ≤ x2 ∧ x2 < 2147483648) ∧ -2147483648 ≤ ((tof t) 1 2) ∧ ((tof t) 1 2) < 2147483648 then if x2 = ((tof t) 1 2) then rec 2 [(x2 + 1)] [k1] t else bnd (x_Gr_degreeOf fu x2 t) fun r8 t7 => if 0 ≤ x2 ∧ x2 < 8 then if 0 ≤ x2 ∧ x2 < 8 then upB t7 k1 (Int.toNat x2) ((r8 - 1) - ((tof t7) k1 (Int.toNat x2))) fun t12 => rec 2 [(x2 + 1)] [k1] t12 else none else none else none else none else none
def xb_Fi_mirror_e (fu : Nat) (rec : Nat → List Int → List Nat → Tb → Option (Int × Tb)) (k1 : Nat) (t : Tb) : Option (Int × Tb) := if arb SC k1 1 8 = true then rec 2 [0] [k1] t else none
def xm_Fi_mirror (fu : Nat) : Nat → Nat → List Int → List Nat → Tb → Option (Int × Tb)
  | 0, _, _, _, _ => none
  | n + 1, pc, a, ks, t => if pc = 2 then xb_Fi_mirror_2 fu (xm_Fi_mirror fu n) (ks.getD 0 0) (a.getD 0 0) t else none
def x_Fi_mirror (fu : Nat) (k1 : Nat) (t : Tb) : Option (Int × Tb) := xb_Fi_mirror_e fu (xm_Fi_mirror fu fu) k1 t
set_option maxRecDepth 20000 in
theorem xt_Fi_mirror_2 {fu : Nat} {rec : Nat → List Int → List Nat → Tb → Option (Int × Tb)} {o : Int × Tb} {Q : Sto → Prop} (hQ : Q (tof o.2)) (hr_2 : ∀ (k1 : Nat) (x2 : Int) (t : Tb), rec 2 [x2] [k1] t = some o → H_Fi_mirror_2 Q k1 x2 (tof t)) {k1 : Nat} {x2 : Int} {t : Tb} (h0 : xb_Fi_mirror_2 fu rec k1 x2 t = some o) : H_Fi_mirror_2 Q k1 x2 (tof t) := by
  unfold xb_Fi_mirror_2 at h0
  obtain ⟨a0, h0⟩ := xr_and h0 (R := _ = some o) (fun _ z => z)
  exact b_Fi_mirror_2 (arb_ar a0) (xr_and h0 fun _ h1 => xr_ite h1 (fun z y => by omega) (fun h2 => xr_leafV h2 hQ) (fun h3 => xr_and h3 fun _ h4 => xr_ite h4 (fun z => z) (fun h5 => hr_2 _ _ _ h5) (fun h6 => xr_call h6 (fun _ _ hc => xs_Gr_degreeOf hc ⟨rfl, rfl⟩) fun r8 t7 h7 => xr_and h7 fun _ h8 => xr_and h8 fun _ h9 => xr_up h9 fun t12 h10 => hr_2 _ _ _ h10)))
set_option maxRecDepth 20000 in
theorem xt_Fi_mirror_e {fu : Nat} {rec : Nat → List Int → List Nat → Tb → Option (Int × Tb)} {o : Int × Tb} {Q : Sto → Prop} (hQ : Q (tof o.2)) (hr_2 : ∀ (k1 : Nat) (x2 : Int) (t : Tb), rec 2 [x2] [k1] t = some o → H_Fi_mirror_2 Q k1 x2 (tof t)) {k1 : Nat} {t : Tb} (h0 : xb_Fi_mirror_e fu rec k1 t = some o) : K_Fi_mirror k1 (tof t) Q := by
  unfold xb_Fi_mirror_e at h0
  obtain ⟨a0, h0⟩ := xr_and h0 (R := _ = some o) (fun _ z => z)
  exact e_Fi_mirror (arb_ar a0) (hr_2 _ _ _ h0)
theorem xl_Fi_mirror {fu : Nat} {o : Int × Tb} {Q : Sto → Prop} (hQ : Q (tof o.2)) : ∀ n : Nat, (∀ (k1 : Nat) (x2 : Int) (t : Tb), xm_Fi_mirror fu n 2 [x2] [k1] t = some o → H_Fi_mirror_2 Q k1 x2 (tof t)) := by
  intro n
  induction n with
  | zero => exact fun _ _ _ h => (nomatch h)
  | succ n ih =>
    have i2 := ih
    exact fun _ _ _ h => xt_Fi_mirror_2 (fu := fu) hQ i2 h
theorem xs_Fi_mirror {fu : Nat} {k1 : Nat} {t : Tb} {r : Int} {t' : Tb} {Q : Sto → Prop} (h : x_Fi_mirror fu k1 t = some (r, t')) (hQ : Q (tof t')) : K_Fi_mirror k1 (tof t) Q := xt_Fi_mirror_e (o := (r, t')) hQ (xl_Fi_mirror hQ fu) h
def xb_Fi_toRecurrent_e (fu : Nat) (rec : Nat → List Int → List Nat → Tb → Option (Int × Tb)) (k1 : Nat) (t : Tb) : Option (Int × Tb) := if arb SC k1 1 8 = true then bnd (x_Fi_settle fu k1 t) fun r4 t3 => bnd (x_Fi_mirror fu k1 t3) fun _ t8 => bnd (x_Fi_fireSets fu k1 t8) fun r14 t13 => bnd (x_Fi_mirror fu k1 t13) fun _ t18 => some (0, t18) else none
def x_Fi_toRecurrent (fu : Nat) (k1 : Nat) (t : Tb) : Option (Int × Tb) := xb_Fi_toRecurrent_e fu (fun _ _ _ _ => none) k1 t
set_option maxRecDepth 20000 in
theorem xt_Fi_toRecurrent_e {fu : Nat} {rec : Nat → List Int → List Nat → Tb → Option (Int × Tb)} {o : Int × Tb} {Q : Sto → Prop} (hQ : Q (tof o.2)) {k1 : Nat} {t : Tb} (h0 : xb_Fi_toRecurrent_e fu rec k1 t = some o) : K_Fi_toRecurrent k1 (tof t) Q := by
  unfold xb_Fi_toRecurrent_e at h0
  obtain ⟨a0, h0⟩ := xr_and h0 (R := _ = some o) (fun _ z => z)
  exact e_Fi_toRecurrent (arb_ar a0) (xr_call h0 (fun _ _ hc => xs_Fi_settle hc ⟨rfl, rfl⟩) fun r4 t3 h1 => xr_callV h1 (fun _ _ hc => xs_Fi_mirror hc rfl) fun _ t8 h2 => xr_call h2 (fun _ _ hc => xs_Fi_fireSets hc ⟨rfl, rfl⟩) fun r14 t13 h3 => xr_callV h3 (fun _ _ hc => xs_Fi_mirror hc rfl) fun _ t18 h4 => xr_leafV h4 hQ)
theorem xs_Fi_toRecurrent {fu : Nat} {k1 : Nat} {t : Tb} {r : Int} {t' : Tb} {Q : Sto → Prop} (h : x_Fi_toRecurrent fu k1 t = some (r, t')) (hQ : Q (tof t')) : K_Fi_toRecurrent k1 (tof t) Q := xt_Fi_toRecurrent_e (o := (r, t')) hQ h
def xb_Cg_identity_e (fu : Nat) (rec : Nat → List Int → List Nat → Tb → Option (Int × Tb)) (x1 : Int) (t : Tb) : Option (Int × Tb) := bnd (x_Gr_hasChipsAt fu x1 t) fun r4 t3 => if -2147483648 ≤ r4 ∧ r4 < 2147483648 then if ¬ r4 = 0 then bnd (x_Gr_isConnected fu t3) fun r11 t10 => if -2147483648 ≤ r11 ∧ r11 < 2147483648 then if ¬ r11 = 0 then bnd (x_Cg_clearChips fu 188 t10) fun _ t17 => bnd (x_Fi_toRecurrent fu 188 t17) fun _ t22 => if 0 ≤ x1 ∧ x1 < 8 then some (((tof t22) 188 (Int.toNat x1)), t22) else none else some ((-10003), t10) else none else some ((-10001), t3) else none
def x_Cg_identity (fu : Nat) (x1 : Int) (t : Tb) : Option (Int × Tb) := xb_Cg_identity_e fu (fun _ _ _ _ => none) x1 t
set_option maxRecDepth 20000 in
theorem xt_Cg_identity_e {fu : Nat} {rec : Nat → List Int → List Nat → Tb → Option (Int × Tb)} {o : Int × Tb} {Q : Int → Sto → Prop} (hQ : Q o.1 (tof o.2)) {x1 : Int} {t : Tb} (h0 : xb_Cg_identity_e fu rec x1 t = some o) : K_Cg_identity x1 (tof t) Q :=
  e_Cg_identity (xr_call h0 (fun _ _ hc => xs_Gr_hasChipsAt hc ⟨rfl, rfl⟩) fun r4 t3 h1 => xr_and h1 fun _ h2 => xr_ite h2 (fun z y => y z) (fun h3 => xr_call h3 (fun _ _ hc => xs_Gr_isConnected hc ⟨rfl, rfl⟩) fun r11 t10 h5 => xr_and h5 fun _ h6 => xr_ite h6 (fun z y => y z) (fun h7 => xr_callV h7 (fun _ _ hc => xs_Cg_clearChips hc rfl) fun _ t17 h9 => xr_callV h9 (fun _ _ hc => xs_Fi_toRecurrent hc rfl) fun _ t22 h10 => xr_and h10 fun _ h11 => xr_leaf h11 hQ) (fun h8 => xr_leaf h8 hQ)) (fun h4 => xr_leaf h4 hQ))
theorem xs_Cg_identity {fu : Nat} {x1 : Int} {t : Tb} {r : Int} {t' : Tb} {Q : Int → Sto → Prop} (h : x_Cg_identity fu x1 t = some (r, t')) (hQ : Q r (tof t')) : K_Cg_identity x1 (tof t) Q := xt_Cg_identity_e (o := (r, t')) hQ h
def xb_Cg_isEqual_2 (fu : Nat) (rec : Nat → List Int → List Nat → Tb → Option (Int × Tb)) (k0 : Nat) (k1 : Nat) (x2 : Int) (t : Tb) : Option (Int × Tb) := if arb SC k0 1 8 = true then if arb SC k1 1 8 = true then if -2147483648 ≤ x2 ∧ x2 < 2147483648 then if 8 ≤ x2 then some (1, t) else if -2147483648 ≤ x2 ∧ x2 < 2147483648 then if 8 ≤ x2 then some (1, t) else if 0 ≤ x2 ∧ x2 < 8 then if 0 ≤ x2 ∧ x2 < 8 then if (-2147483648 ≤ ((tof t) k0 (Int.toNat x2)) ∧ ((tof t) k0 (Int.toNat x2)) < 2147483648) ∧ -2147483648 ≤ ((tof t) k1 (Int.toNat x2)) ∧ ((tof t) k1 (Int.toNat x2)) < 2147483648 then if ((tof t) k0 (Int.toNat x2)) = ((tof t) k1 (Int.toNat x2)) then rec 2 [(x2 + 1)] [k0, k1] t else some (0, t) else none else none else none else none else none else none else none
def xb_Cg_isEqual_e (fu : Nat) (rec : Nat → List Int → List Nat → Tb → Option (Int × Tb)) (k0 : Nat) (k1 : Nat) (t : Tb) : Option (Int × Tb) := if arb SC k0 1 8 = true then if arb SC k1 1 8 = true then rec 2 [0] [k0, k1] t else none else none
def xm_Cg_isEqual (fu : Nat) : Nat → Nat → List Int → List Nat → Tb → Option (Int × Tb)
  | 0, _, _, _, _ => none
  | n + 1, pc, a, ks, t => if pc = 2 then xb_Cg_isEqual_2 fu (xm_Cg_isEqual fu n) (ks.getD 0 0) (ks.getD 1 0) (a.getD 0 0) t else none
def x_Cg_isEqual (fu : Nat) (k0 : Nat) (k1 : Nat) (t : Tb) : Option (Int × Tb) := xb_Cg_isEqual_e fu (xm_Cg_isEqual fu fu) k0 k1 t
set_option maxRecDepth 20000 in
theorem xt_Cg_isEqual_2 {fu : Nat} {rec : Nat → List Int → List Nat → Tb → Option (Int × Tb)} {o : Int × Tb} {Q : Int → Sto → Prop} (hQ : Q o.1 (tof o.2)) (hr_2 : ∀ (k0 : Nat) (k1 : Nat) (x2 : Int) (t : Tb), rec 2 [x2] [k0, k1] t = some o → H_Cg_isEqual_2 Q k0 k1 x2 (tof t)) {k0 : Nat} {k1 : Nat} {x2 : Int} {t : Tb} (h0 : xb_Cg_isEqual_2 fu rec k0 k1 x2 t = some o) : H_Cg_isEqual_2 Q k0 k1 x2 (tof t) := by
  unfold xb_Cg_isEqual_2 at h0
  obtain ⟨a0, h0⟩ := xr_and h0 (R := _ = some o) (fun _ z => z)
  obtain ⟨a1, h0⟩ := xr_and h0 (R := _ = some o) (fun _ z => z)
  exact b_Cg_isEqual_2 (arb_ar a0) (arb_ar a1) (xr_and h0 fun _ h1 => xr_ite h1 (fun z y => by omega) (fun h2 => xr_leaf h2 hQ) (fun h3 => xr_and h3 fun _ h4 => xr_ite h4 (fun z y => by omega) (fun h5 => xr_leaf h5 hQ) (fun h6 => xr_and h6 fun _ h7 => xr_and h7 fun _ h8 => xr_and h8 fun _ h9 => xr_ite h9 (fun z => z) (fun h10 => hr_2 _ _ _ _ h10) (fun h11 => xr_leaf h11 hQ))))
set_option maxRecDepth 20000 in
theorem xt_Cg_isEqual_e {fu : Nat} {rec : Nat → List Int → List Nat → Tb → Option (Int × Tb)} {o : Int × Tb} {Q : Int → Sto → Prop} (hQ : Q o.1 (tof o.2)) (hr_2 : ∀ (k0 : Nat) (k1 : Nat) (x2 : Int) (t : Tb), rec 2 [x2] [k0, k1] t = some o → H_Cg_isEqual_2 Q k0 k1 x2 (tof t)) {k0 : Nat} {k1 : Nat} {t : Tb} (h0 : xb_Cg_isEqual_e fu rec k0 k1 t = some o) : K_Cg_isEqual k0 k1 (tof t) Q := by
  unfold xb_Cg_isEqual_e at h0
  obtain ⟨a0, h0⟩ := xr_and h0 (R := _ = some o) (fun _ z => z)
  obtain ⟨a1, h0⟩ := xr_and h0 (R := _ = some o) (fun _ z => z)
  exact e_Cg_isEqual (arb_ar a0) (arb_ar a1) (hr_2 _ _ _ _ h0)
theorem xl_Cg_isEqual {fu : Nat} {o : Int × Tb} {Q : Int → Sto → Prop} (hQ : Q o.1 (tof o.2)) : ∀ n : Nat, (∀ (k0 : Nat) (k1 : Nat) (x2 : Int) (t : Tb), xm_Cg_isEqual fu n 2 [x2] [k0, k1] t = some o → H_Cg_isEqual_2 Q k0 k1 x2 (tof t)) := by
  intro n
  induction n with
  | zero => exact fun _ _ _ _ h => (nomatch h)
  | succ n ih =>
    have i2 := ih
    exact fun _ _ _ _ h => xt_Cg_isEqual_2 (fu := fu) hQ i2 h
theorem xs_Cg_isEqual {fu : Nat} {k0 : Nat} {k1 : Nat} {t : Tb} {r : Int} {t' : Tb} {Q : Int → Sto → Prop} (h : x_Cg_isEqual fu k0 k1 t = some (r, t')) (hQ : Q r (tof t')) : K_Cg_isEqual k0 k1 (tof t) Q := xt_Cg_isEqual_e (o := (r, t')) hQ (xl_Cg_isEqual hQ fu) h
def xb_Fi_isStable_2 (fu : Nat) (rec : Nat → List Int → List Nat → Tb → Option (Int × Tb)) (k1 : Nat) (x2 : Int) (t : Tb) : Option (Int × Tb) := if arb SC k1 1 8 = true then if (-2147483648 ≤ x2 ∧ x2 < 2147483648) ∧ -2147483648 ≤ ((tof t) 1 0) ∧ ((tof t) 1 0) < 2147483648 then if ((tof t) 1 0) ≤ x2 then some (1, t) else bnd (x_Fi_canFire fu k1 x2 t) fun r6 t5 => if -2147483648 ≤ r6 ∧ r6 < 2147483648 then if r6 = 0 then rec 2 [(x2 + 1)] [k1] t5 else some (0, t5) else none else none else none
def xb_Fi_isStable_e (fu : Nat) (rec : Nat → List Int → List Nat → Tb → Option (Int × Tb)) (k1 : Nat) (t : Tb) : Option (Int × Tb) := if arb SC k1 1 8 = true then rec 2 [0] [k1] t else none
def xm_Fi_isStable (fu : Nat) : Nat → Nat → List Int → List Nat → Tb → Option (Int × Tb)
  | 0, _, _, _, _ => none
  | n + 1, pc, a, ks, t => if pc = 2 then xb_Fi_isStable_2 fu (xm_Fi_isStable fu n) (ks.getD 0 0) (a.getD 0 0) t else none
def x_Fi_isStable (fu : Nat) (k1 : Nat) (t : Tb) : Option (Int × Tb) := xb_Fi_isStable_e fu (xm_Fi_isStable fu fu) k1 t
set_option maxRecDepth 20000 in
theorem xt_Fi_isStable_2 {fu : Nat} {rec : Nat → List Int → List Nat → Tb → Option (Int × Tb)} {o : Int × Tb} {Q : Int → Sto → Prop} (hQ : Q o.1 (tof o.2)) (hr_2 : ∀ (k1 : Nat) (x2 : Int) (t : Tb), rec 2 [x2] [k1] t = some o → H_Fi_isStable_2 Q k1 x2 (tof t)) {k1 : Nat} {x2 : Int} {t : Tb} (h0 : xb_Fi_isStable_2 fu rec k1 x2 t = some o) : H_Fi_isStable_2 Q k1 x2 (tof t) := by
  unfold xb_Fi_isStable_2 at h0
  obtain ⟨a0, h0⟩ := xr_and h0 (R := _ = some o) (fun _ z => z)
  exact b_Fi_isStable_2 (arb_ar a0) (xr_and h0 fun _ h1 => xr_ite h1 (fun z y => by omega) (fun h2 => xr_leaf h2 hQ) (fun h3 => xr_call h3 (fun _ _ hc => xs_Fi_canFire hc ⟨rfl, rfl⟩) fun r6 t5 h4 => xr_and h4 fun _ h5 => xr_ite h5 (fun z => z) (fun h6 => hr_2 _ _ _ h6) (fun h7 => xr_leaf h7 hQ)))
set_option maxRecDepth 20000 in
theorem xt_Fi_isStable_e {fu : Nat} {rec : Nat → List Int → List Nat → Tb → Option (Int × Tb)} {o : Int × Tb} {Q : Int → Sto → Prop} (hQ : Q o.1 (tof o.2)) (hr_2 : ∀ (k1 : Nat) (x2 : Int) (t : Tb), rec 2 [x2] [k1] t = some o → H_Fi_isStable_2 Q k1 x2 (tof t)) {k1 : Nat} {t : Tb} (h0 : xb_Fi_isStable_e fu rec k1 t = some o) : K_Fi_isStable k1 (tof t) Q := by
  unfold xb_Fi_isStable_e at h0
  obtain ⟨a0, h0⟩ := xr_and h0 (R := _ = some o) (fun _ z => z)
  exact e_Fi_isStable (arb_ar a0) (hr_2 _ _ _ h0)
theorem xl_Fi_isStable {fu : Nat} {o : Int × Tb} {Q : Int → Sto → Prop} (hQ : Q o.1 (tof o.2)) : ∀ n : Nat, (∀ (k1 : Nat) (x2 : Int) (t : Tb), xm_Fi_isStable fu n 2 [x2] [k1] t = some o → H_Fi_isStable_2 Q k1 x2 (tof t)) := by
  intro n
  induction n with
  | zero => exact fun _ _ _ h => (nomatch h)
  | succ n ih =>
    have i2 := ih
    exact fun _ _ _ h => xt_Fi_isStable_2 (fu := fu) hQ i2 h
theorem xs_Fi_isStable {fu : Nat} {k1 : Nat} {t : Tb} {r : Int} {t' : Tb} {Q : Int → Sto → Prop} (h : x_Fi_isStable fu k1 t = some (r, t')) (hQ : Q r (tof t')) : K_Fi_isStable k1 (tof t) Q := xt_Fi_isStable_e (o := (r, t')) hQ (xl_Fi_isStable hQ fu) h
def xb_Cg_isRecurrent_e (fu : Nat) (rec : Nat → List Int → List Nat → Tb → Option (Int × Tb)) (t : Tb) : Option (Int × Tb) := bnd (x_Fi_isStable fu 187 t) fun r4 t3 => if -2147483648 ≤ r4 ∧ r4 < 2147483648 then if r4 = 0 then some (0, t3) else bnd (x_Gr_isConnected fu t3) fun r11 t10 => if -2147483648 ≤ r11 ∧ r11 < 2147483648 then if r11 = 0 then some (0, t10) else bnd (x_Bu_allBurn fu 187 t10) fun r18 t17 => if -2147483648 ≤ r18 ∧ r18 < 2147483648 then if r18 = 0 then some (0, t17) else some (1, t17) else none else none else none
def x_Cg_isRecurrent (fu : Nat) (t : Tb) : Option (Int × Tb) := xb_Cg_isRecurrent_e fu (fun _ _ _ _ => none) t
set_option maxRecDepth 20000 in
theorem xt_Cg_isRecurrent_e {fu : Nat} {rec : Nat → List Int → List Nat → Tb → Option (Int × Tb)} {o : Int × Tb} {Q : Int → Sto → Prop} (hQ : Q o.1 (tof o.2)) {t : Tb} (h0 : xb_Cg_isRecurrent_e fu rec t = some o) : K_Cg_isRecurrent (tof t) Q :=
  e_Cg_isRecurrent (xr_call h0 (fun _ _ hc => xs_Fi_isStable hc ⟨rfl, rfl⟩) fun r4 t3 h1 => xr_and h1 fun _ h2 => xr_ite h2 (fun z => z) (fun h3 => xr_leaf h3 hQ) (fun h4 => xr_call h4 (fun _ _ hc => xs_Gr_isConnected hc ⟨rfl, rfl⟩) fun r11 t10 h5 => xr_and h5 fun _ h6 => xr_ite h6 (fun z => z) (fun h7 => xr_leaf h7 hQ) (fun h8 => xr_call h8 (fun _ _ hc => xs_Bu_allBurn hc ⟨rfl, rfl⟩) fun r18 t17 h9 => xr_and h9 fun _ h10 => xr_ite h10 (fun z => z) (fun h11 => xr_leaf h11 hQ) (fun h12 => xr_leaf h12 hQ))))
theorem xs_Cg_isRecurrent {fu : Nat} {t : Tb} {r : Int} {t' : Tb} {Q : Int → Sto → Prop} (h : x_Cg_isRecurrent fu t = some (r, t')) (hQ : Q r (tof t')) : K_Cg_isRecurrent (tof t) Q := xt_Cg_isRecurrent_e (o := (r, t')) hQ h
def xb_Cg_isSameClass_e (fu : Nat) (rec : Nat → List Int → List Nat → Tb → Option (Int × Tb)) (x1 : Int) (t : Tb) : Option (Int × Tb) := bnd (x_Sl_has fu x1 t) fun r4 t3 => if -2147483648 ≤ r4 ∧ r4 < 2147483648 then if ¬ r4 = 0 then bnd (x_Sl_isEmpty fu x1 t3) fun r11 t10 => if -2147483648 ≤ r11 ∧ r11 < 2147483648 then if r11 = 0 then bnd (x_Gr_isConnected fu t10) fun r18 t17 => if -2147483648 ≤ r18 ∧ r18 < 2147483648 then if ¬ r18 = 0 then bnd (x_Cg_copyChips fu 187 188 t17) fun _ t24 => bnd (x_Sl_copyTo fu x1 189 t24) fun _ t29 => bnd (x_Fi_toRecurrent fu 188 t29) fun _ t34 => bnd (x_Fi_toRecurrent fu 189 t34) fun _ t39 => bnd (x_Cg_isEqual fu 188 189 t39) fun r45 t44 => if -2147483648 ≤ r45 ∧ r45 < 2147483648 then if r45 = 0 then some (0, t44) else some (1, t44) else none else some ((-10003), t17) else none else some ((-10004), t10) else none else some ((-10001), t3) else none
def x_Cg_isSameClass (fu : Nat) (x1 : Int) (t : Tb) : Option (Int × Tb) := xb_Cg_isSameClass_e fu (fun _ _ _ _ => none) x1 t
set_option maxRecDepth 20000 in
theorem xt_Cg_isSameClass_e {fu : Nat} {rec : Nat → List Int → List Nat → Tb → Option (Int × Tb)} {o : Int × Tb} {Q : Int → Sto → Prop} (hQ : Q o.1 (tof o.2)) {x1 : Int} {t : Tb} (h0 : xb_Cg_isSameClass_e fu rec x1 t = some o) : K_Cg_isSameClass x1 (tof t) Q :=
  e_Cg_isSameClass (xr_call h0 (fun _ _ hc => xs_Sl_has hc ⟨rfl, rfl⟩) fun r4 t3 h1 => xr_and h1 fun _ h2 => xr_ite h2 (fun z y => y z) (fun h3 => xr_call h3 (fun _ _ hc => xs_Sl_isEmpty hc ⟨rfl, rfl⟩) fun r11 t10 h5 => xr_and h5 fun _ h6 => xr_ite h6 (fun z => z) (fun h7 => xr_call h7 (fun _ _ hc => xs_Gr_isConnected hc ⟨rfl, rfl⟩) fun r18 t17 h9 => xr_and h9 fun _ h10 => xr_ite h10 (fun z y => y z) (fun h11 => xr_callV h11 (fun _ _ hc => xs_Cg_copyChips hc rfl) fun _ t24 h13 => xr_callV h13 (fun _ _ hc => xs_Sl_copyTo hc rfl) fun _ t29 h14 => xr_callV h14 (fun _ _ hc => xs_Fi_toRecurrent hc rfl) fun _ t34 h15 => xr_callV h15 (fun _ _ hc => xs_Fi_toRecurrent hc rfl) fun _ t39 h16 => xr_call h16 (fun _ _ hc => xs_Cg_isEqual hc ⟨rfl, rfl⟩) fun r45 t44 h17 => xr_and h17 fun _ h18 => xr_ite h18 (fun z => z) (fun h19 => xr_leaf h19 hQ) (fun h20 => xr_leaf h20 hQ)) (fun h12 => xr_leaf h12 hQ)) (fun h8 => xr_leaf h8 hQ)) (fun h4 => xr_leaf h4 hQ))
theorem xs_Cg_isSameClass {fu : Nat} {x1 : Int} {t : Tb} {r : Int} {t' : Tb} {Q : Int → Sto → Prop} (h : x_Cg_isSameClass fu x1 t = some (r, t')) (hQ : Q r (tof t')) : K_Cg_isSameClass x1 (tof t) Q := xt_Cg_isSameClass_e (o := (r, t')) hQ h
def xb_Sl_put_e (fu : Nat) (rec : Nat → List Int → List Nat → Tb → Option (Int × Tb)) (x1 : Int) (k2 : Nat) (t : Tb) : Option (Int × Tb) := if arb SC k2 1 8 = true then bnd (x_Sl_has fu x1 t) fun r4 t3 => if -2147483648 ≤ r4 ∧ r4 < 2147483648 then if r4 = 0 then some (0, t3) else if 0 ≤ x1 ∧ x1 < 3 then bnd (x_Cg_copyChips fu k2 (34 + Int.toNat x1) t3) fun _ t11 => if 0 ≤ x1 ∧ x1 < 3 then upB t11 32 (Int.toNat x1) 1 fun t15 => some (0, t15) else none else none else none else none
def x_Sl_put (fu : Nat) (x1 : Int) (k2 : Nat) (t : Tb) : Option (Int × Tb) := xb_Sl_put_e fu (fun _ _ _ _ => none) x1 k2 t
set_option maxRecDepth 20000 in
theorem xt_Sl_put_e {fu : Nat} {rec : Nat → List Int → List Nat → Tb → Option (Int × Tb)} {o : Int × Tb} {Q : Sto → Prop} (hQ : Q (tof o.2)) {x1 : Int} {k2 : Nat} {t : Tb} (h0 : xb_Sl_put_e fu rec x1 k2 t = some o) : K_Sl_put x1 k2 (tof t) Q := by
  unfold xb_Sl_put_e at h0
  obtain ⟨a0, h0⟩ := xr_and h0 (R := _ = some o) (fun _ z => z)
  exact e_Sl_put (arb_ar a0) (xr_call h0 (fun _ _ hc => xs_Sl_has hc ⟨rfl, rfl⟩) fun r4 t3 h1 => xr_and h1 fun _ h2 => xr_ite h2 (fun z => z) (fun h3 => xr_leafV h3 hQ) (fun h4 => xr_and h4 fun _ h5 => xr_callV h5 (fun _ _ hc => xs_Cg_copyChips hc rfl) fun _ t11 h6 => xr_and h6 fun _ h7 => xr_up h7 fun t15 h8 => xr_leafV h8 hQ))
theorem xs_Sl_put {fu : Nat} {x1 : Int} {k2 : Nat} {t : Tb} {r : Int} {t' : Tb} {Q : Sto → Prop} (h : x_Sl_put fu x1 k2 t = some (r, t')) (hQ : Q (tof t')) : K_Sl_put x1 k2 (tof t) Q := xt_Sl_put_e (o := (r, t')) hQ h
def xb_Cg_keep_e (fu : Nat) (rec : Nat → List Int → List Nat → Tb → Option (Int × Tb)) (x1 : Int) (t : Tb) : Option (Int × Tb) := bnd (x_Sl_has fu x1 t) fun r4 t3 => if -2147483648 ≤ r4 ∧ r4 < 2147483648 then if ¬ r4 = 0 then bnd (x_Sl_isEmpty fu x1 t3) fun r11 t10 => if -2147483648 ≤ r11 ∧ r11 < 2147483648 then if r11 = 0 then bnd (x_Sl_put fu x1 187 t10) fun _ t17 => some (0, t17) else bnd (x_Sl_put fu x1 187 t10) fun _ t22 => some (1, t22) else none else some ((-10001), t3) else none
def x_Cg_keep (fu : Nat) (x1 : Int) (t : Tb) : Option (Int × Tb) := xb_Cg_keep_e fu (fun _ _ _ _ => none) x1 t
set_option maxRecDepth 20000 in
theorem xt_Cg_keep_e {fu : Nat} {rec : Nat → List Int → List Nat → Tb → Option (Int × Tb)} {o : Int × Tb} {Q : Int → Sto → Prop} (hQ : Q o.1 (tof o.2)) {x1 : Int} {t : Tb} (h0 : xb_Cg_keep_e fu rec x1 t = some o) : K_Cg_keep x1 (tof t) Q :=
  e_Cg_keep (xr_call h0 (fun _ _ hc => xs_Sl_has hc ⟨rfl, rfl⟩) fun r4 t3 h1 => xr_and h1 fun _ h2 => xr_ite h2 (fun z y => y z) (fun h3 => xr_call h3 (fun _ _ hc => xs_Sl_isEmpty hc ⟨rfl, rfl⟩) fun r11 t10 h5 => xr_and h5 fun _ h6 => xr_ite h6 (fun z => z) (fun h7 => xr_callV h7 (fun _ _ hc => xs_Sl_put hc rfl) fun _ t17 h9 => xr_leaf h9 hQ) (fun h8 => xr_callV h8 (fun _ _ hc => xs_Sl_put hc rfl) fun _ t22 h10 => xr_leaf h10 hQ)) (fun h4 => xr_leaf h4 hQ))
theorem xs_Cg_keep {fu : Nat} {x1 : Int} {t : Tb} {r : Int} {t' : Tb} {Q : Int → Sto → Prop} (h : x_Cg_keep fu x1 t = some (r, t')) (hQ : Q r (tof t')) : K_Cg_keep x1 (tof t) Q := xt_Cg_keep_e (o := (r, t')) hQ h
def xj_Cg_kind_e_J17 (fu : Nat) (rec : Nat → List Int → List Nat → Tb → Option (Int × Tb)) (t12 : Tb) (v16 : Int) : Option (Int × Tb) := bnd (x_Gr_isConnected fu t12) fun r23 t22 => if -2147483648 ≤ r23 ∧ r23 < 2147483648 then if r23 = 0 then some (v16, t22) else bnd (x_Bu_allBurnBySecondRule fu 187 t22) fun r30 t29 => if -2147483648 ≤ r30 ∧ r30 < 2147483648 then if r30 = 0 then some (v16, t29) else some ((v16 + 4), t29) else none else none
def xj_Cg_kind_e_J7 (fu : Nat) (rec : Nat → List Int → List Nat → Tb → Option (Int × Tb)) (t3 : Tb) (v6 : Int) : Option (Int × Tb) := bnd (x_Cg_isRecurrent fu t3) fun r13 t12 => if -2147483648 ≤ r13 ∧ r13 < 2147483648 then if r13 = 0 then xj_Cg_kind_e_J17 fu rec t12 v6 else xj_Cg_kind_e_J17 fu rec t12 (v6 + 2) else none
def xb_Cg_kind_e (fu : Nat) (rec : Nat → List Int → List Nat → Tb → Option (Int × Tb)) (t : Tb) : Option (Int × Tb) := bnd (x_Fi_isStable fu 187 t) fun r4 t3 => if -2147483648 ≤ r4 ∧ r4 < 2147483648 then if r4 = 0 then xj_Cg_kind_e_J7 fu rec t3 0 else xj_Cg_kind_e_J7 fu rec t3 1 else none
def x_Cg_kind (fu : Nat) (t : Tb) : Option (Int × Tb) := xb_Cg_kind_e fu (fun _ _ _ _ => none) t
set_option maxRecDepth 20000 in
theorem xt_Cg_kind_e {fu : Nat} {rec : Nat → List Int → List Nat → Tb → Option (Int × Tb)} {o : Int × Tb} {Q : Int → Sto → Prop} (hQ : Q o.1 (tof o.2)) {t : Tb} (h0 : xb_Cg_kind_e fu rec t = some o) : K_Cg_kind (tof t) Q :=
  e_Cg_kind (xr_call h0 (fun _ _ hc => xs_Fi_isStable hc ⟨rfl, rfl⟩) fun r4 t3 h1 => ⟨fun v6 => xj_Cg_kind_e_J7 fu rec t3 v6 = some o, fun v6 h2 => xr_call h2 (fun _ _ hc => xs_Cg_isRecurrent hc ⟨rfl, rfl⟩) fun r13 t12 h4 => ⟨fun v16 => xj_Cg_kind_e_J17 fu rec t12 v16 = some o, fun v16 h5 => xr_call h5 (fun _ _ hc => xs_Gr_isConnected hc ⟨rfl, rfl⟩) fun r23 t22 h7 => xr_and h7 fun _ h8 => xr_ite h8 (fun z => z) (fun h9 => xr_leaf h9 hQ) (fun h10 => xr_call h10 (fun _ _ hc => xs_Bu_allBurnBySecondRule hc ⟨rfl, rfl⟩) fun r30 t29 h11 => xr_and h11 fun _ h12 => xr_ite h12 (fun z => z) (fun h13 => xr_leaf h13 hQ) (fun h14 => xr_leaf h14 hQ)), xr_and h4 fun _ h15 => xr_ite h15 (fun z => z) (fun h16 => h16) (fun h17 => h17)⟩, xr_and h1 fun _ h18 => xr_ite h18 (fun z => z) (fun h19 => h19) (fun h20 => h20)⟩)
theorem xs_Cg_kind {fu : Nat} {t : Tb} {r : Int} {t' : Tb} {Q : Int → Sto → Prop} (h : x_Cg_kind fu t = some (r, t')) (hQ : Q r (tof t')) : K_Cg_kind (tof t) Q := xt_Cg_kind_e (o := (r, t')) hQ h
def xb_Gr_edgesAwayFromSink_e (fu : Nat) (rec : Nat → List Int → List Nat → Tb → Option (Int × Tb)) (t : Tb) : Option (Int × Tb) := bnd (x_Gr_degreeOf fu ((tof t) 1 2) t) fun r4 t3 => some ((((tof t) 1 1) - r4), t3)
def x_Gr_edgesAwayFromSink (fu : Nat) (t : Tb) : Option (Int × Tb) := xb_Gr_edgesAwayFromSink_e fu (fun _ _ _ _ => none) t
set_option maxRecDepth 20000 in
theorem xt_Gr_edgesAwayFromSink_e {fu : Nat} {rec : Nat → List Int → List Nat → Tb → Option (Int × Tb)} {o : Int × Tb} {Q : Int → Sto → Prop} (hQ : Q o.1 (tof o.2)) {t : Tb} (h0 : xb_Gr_edgesAwayFromSink_e fu rec t = some o) : K_Gr_edgesAwayFromSink (tof t) Q :=
  e_Gr_edgesAwayFromSink (xr_call h0 (fun _ _ hc => xs_Gr_degreeOf hc ⟨rfl, rfl⟩) fun r4 t3 h1 => xr_leaf h1 hQ)
theorem xs_Gr_edgesAwayFromSink {fu : Nat} {t : Tb} {r : Int} {t' : Tb} {Q : Int → Sto → Prop} (h : x_Gr_edgesAwayFromSink fu t = some (r, t')) (hQ : Q r (tof t')) : K_Gr_edgesAwayFromSink (tof t) Q := xt_Gr_edgesAwayFromSink_e (o := (r, t')) hQ h
def xb_Cg_level_e (fu : Nat) (rec : Nat → List Int → List Nat → Tb → Option (Int × Tb)) (t : Tb) : Option (Int × Tb) := bnd (x_Cg_isRecurrent fu t) fun r4 t3 => if -2147483648 ≤ r4 ∧ r4 < 2147483648 then if ¬ r4 = 0 then bnd (x_Cg_sumOf fu 187 t3) fun r11 t10 => bnd (x_Gr_edgesAwayFromSink fu t10) fun r16 t15 => some ((r11 - r16), t15) else some ((-10004), t3) else none
def x_Cg_level (fu : Nat) (t : Tb) : Option (Int × Tb) := xb_Cg_level_e fu (fun _ _ _ _ => none) t
set_option maxRecDepth 20000 in
theorem xt_Cg_level_e {fu : Nat} {rec : Nat → List Int → List Nat → Tb → Option (Int × Tb)} {o : Int × Tb} {Q : Int → Sto → Prop} (hQ : Q o.1 (tof o.2)) {t : Tb} (h0 : xb_Cg_level_e fu rec t = some o) : K_Cg_level (tof t) Q :=
  e_Cg_level (xr_call h0 (fun _ _ hc => xs_Cg_isRecurrent hc ⟨rfl, rfl⟩) fun r4 t3 h1 => xr_and h1 fun _ h2 => xr_ite h2 (fun z y => y z) (fun h3 => xr_call h3 (fun _ _ hc => xs_Cg_sumOf hc ⟨rfl, rfl⟩) fun r11 t10 h5 => xr_call h5 (fun _ _ hc => xs_Gr_edgesAwayFromSink hc ⟨rfl, rfl⟩) fun r16 t15 h6 => xr_leaf h6 hQ) (fun h4 => xr_leaf h4 hQ))
theorem xs_Cg_level {fu : Nat} {t : Tb} {r : Int} {t' : Tb} {Q : Int → Sto → Prop} (h : x_Cg_level fu t = some (r, t')) (hQ : Q r (tof t')) : K_Cg_level (tof t) Q := xt_Cg_level_e (o := (r, t')) hQ h
def xb_Le_countEdgesInside_12 (fu : Nat) (rec : Nat → List Int → List Nat → Tb → Option (Int × Tb)) (x1 : Int) (x2 : Int) (t : Tb) : Option (Int × Tb) := if (-2147483648 ≤ x2 ∧ x2 < 2147483648) ∧ -2147483648 ≤ x1 ∧ x1 < 2147483648 then if x1 ≤ x2 then some (0, t) else if -2147483648 ≤ x2 ∧ x2 < 2147483648 then if 256 ≤ x2 then some (0, t) else if 0 ≤ x2 ∧ x2 < 256 then upB t 56 (Int.toNat x2) 0 fun t6 => rec 33 [x1, x2, 0] [] t6 else none else none else none
def xb_Le_countEdgesInside_33 (fu : Nat) (rec : Nat → List Int → List Nat → Tb → Option (Int × Tb)) (x1 : Int) (x2 : Int) (x3 : Int) (t : Tb) : Option (Int × Tb) := if (-2147483648 ≤ x3 ∧ x3 < 2147483648) ∧ -2147483648 ≤ ((tof t) 1 1) ∧ ((tof t) 1 1) < 2147483648 then if ((tof t) 1 1) ≤ x3 then rec 12 [x1, (x2 + 1)] [] t else if 0 ≤ x2 ∧ x2 < 256 then if 0 ≤ x3 ∧ x3 < 20 then if 0 ≤ x3 ∧ x3 < 20 then if 0 ≤ x2 ∧ x2 < 256 then upB t 56 (Int.toNat x2) (((tof t) 56 (Int.toNat x2)) + (iand (iand (ishr x2 ((tof t) 2 (Int.toNat x3))) (ishr x2 ((tof t) 3 (Int.toNat x3)))) 1)) fun t13 => rec 33 [x1, x2, (x3 + 1)] [] t13 else none else none else none else none else none
def xb_Le_countEdgesInside_e (fu : Nat) (rec : Nat → List Int → List Nat → Tb → Option (Int × Tb)) (t : Tb) : Option (Int × Tb) := rec 12 [(ishl 1 ((tof t) 1 0)), 0] [] t
def xm_Le_countEdgesInside (fu : Nat) : Nat → Nat → List Int → List Nat → Tb → Option (Int × Tb)
  | 0, _, _, _, _ => none
  | n + 1, pc, a, ks, t => if pc = 12 then xb_Le_countEdgesInside_12 fu (xm_Le_countEdgesInside fu n) (a.getD 0 0) (a.getD 1 0) t else if pc = 33 then xb_Le_countEdgesInside_33 fu (xm_Le_countEdgesInside fu n) (a.getD 0 0) (a.getD 1 0) (a.getD 2 0) t else none
def x_Le_countEdgesInside (fu : Nat) (t : Tb) : Option (Int × Tb) := xb_Le_countEdgesInside_e fu (xm_Le_countEdgesInside fu fu) t
set_option maxRecDepth 20000 in
theorem xt_Le_countEdgesInside_12 {fu : Nat} {rec : Nat → List Int → List Nat → Tb → Option (Int × Tb)} {o : Int × Tb} {Q : Sto → Prop} (hQ : Q (tof o.2)) (hr_12 : ∀ (x1 : Int) (x2 : Int) (t : Tb), rec 12 [x1, x2] [] t = some o → H_Le_countEdgesInside_12 Q x1 x2 (tof t)) (hr_33 : ∀ (x1 : Int) (x2 : Int) (x3 : Int) (t : Tb), rec 33 [x1, x2, x3] [] t = some o → H_Le_countEdgesInside_33 Q x1 x2 x3 (tof t)) {x1 : Int} {x2 : Int} {t : Tb} (h0 : xb_Le_countEdgesInside_12 fu rec x1 x2 t = some o) : H_Le_countEdgesInside_12 Q x1 x2 (tof t) :=
  b_Le_countEdgesInside_12 (xr_and h0 fun _ h1 => xr_ite h1 (fun z y => by omega) (fun h2 => xr_leafV h2 hQ) (fun h3 => xr_and h3 fun _ h4 => xr_ite h4 (fun z y => by omega) (fun h5 => xr_leafV h5 hQ) (fun h6 => xr_and h6 fun _ h7 => xr_up h7 fun t6 h8 => hr_33 _ _ _ _ h8)))
set_option maxRecDepth 20000 in
theorem xt_Le_countEdgesInside_33 {fu : Nat} {rec : Nat → List Int → List Nat → Tb → Option (Int × Tb)} {o : Int × Tb} {Q : Sto → Prop} (hQ : Q (tof o.2)) (hr_12 : ∀ (x1 : Int) (x2 : Int) (t : Tb), rec 12 [x1, x2] [] t = some o → H_Le_countEdgesInside_12 Q x1 x2 (tof t)) (hr_33 : ∀ (x1 : Int) (x2 : Int) (x3 : Int) (t : Tb), rec 33 [x1, x2, x3] [] t = some o → H_Le_countEdgesInside_33 Q x1 x2 x3 (tof t)) {x1 : Int} {x2 : Int} {x3 : Int} {t : Tb} (h0 : xb_Le_countEdgesInside_33 fu rec x1 x2 x3 t = some o) : H_Le_countEdgesInside_33 Q x1 x2 x3 (tof t) :=
  b_Le_countEdgesInside_33 (xr_and h0 fun _ h9 => xr_ite h9 (fun z y => by omega) (fun h10 => hr_12 _ _ _ h10) (fun h11 => xr_and h11 fun _ h12 => xr_and h12 fun _ h13 => xr_and h13 fun _ h14 => xr_and h14 fun _ h15 => xr_up h15 fun t13 h16 => hr_33 _ _ _ _ h16))
set_option maxRecDepth 20000 in
theorem xt_Le_countEdgesInside_e {fu : Nat} {rec : Nat → List Int → List Nat → Tb → Option (Int × Tb)} {o : Int × Tb} {Q : Sto → Prop} (hQ : Q (tof o.2)) (hr_12 : ∀ (x1 : Int) (x2 : Int) (t : Tb), rec 12 [x1, x2] [] t = some o → H_Le_countEdgesInside_12 Q x1 x2 (tof t)) (hr_33 : ∀ (x1 : Int) (x2 : Int) (x3 : Int) (t : Tb), rec 33 [x1, x2, x3] [] t = some o → H_Le_countEdgesInside_33 Q x1 x2 x3 (tof t)) {t : Tb} (h0 : xb_Le_countEdgesInside_e fu rec t = some o) : K_Le_countEdgesInside (tof t) Q :=
  e_Le_countEdgesInside (hr_12 _ _ _ h0)
theorem xl_Le_countEdgesInside {fu : Nat} {o : Int × Tb} {Q : Sto → Prop} (hQ : Q (tof o.2)) : ∀ n : Nat, (∀ (x1 : Int) (x2 : Int) (t : Tb), xm_Le_countEdgesInside fu n 12 [x1, x2] [] t = some o → H_Le_countEdgesInside_12 Q x1 x2 (tof t)) ∧ (∀ (x1 : Int) (x2 : Int) (x3 : Int) (t : Tb), xm_Le_countEdgesInside fu n 33 [x1, x2, x3] [] t = some o → H_Le_countEdgesInside_33 Q x1 x2 x3 (tof t)) := by
  intro n
  induction n with
  | zero => exact ⟨fun _ _ _ h => (nomatch h), fun _ _ _ _ h => (nomatch h)⟩
  | succ n ih =>
    obtain ⟨i12, i33⟩ := ih
    exact ⟨fun _ _ _ h => xt_Le_countEdgesInside_12 (fu := fu) hQ i12 i33 h, fun _ _ _ _ h => xt_Le_countEdgesInside_33 (fu := fu) hQ i12 i33 h⟩
theorem xs_Le_countEdgesInside {fu : Nat} {t : Tb} {r : Int} {t' : Tb} {Q : Sto → Prop} (h : x_Le_countEdgesInside fu t = some (r, t')) (hQ : Q (tof t')) : K_Le_countEdgesInside (tof t) Q := xt_Le_countEdgesInside_e (o := (r, t')) hQ (xl_Le_countEdgesInside hQ fu).1 (xl_Le_countEdgesInside hQ fu).2 h
def xb_Le_divideByYMinusOne_5 (fu : Nat) (rec : Nat → List Int → List Nat → Tb → Option (Int × Tb)) (x1 : Int) (x3 : Int) (t : Tb) : Option (Int × Tb) := if -2147483648 ≤ x3 ∧ x3 < 2147483648 then if x3 < 0 then some (0, t) else if 0 ≤ x3 ∧ x3 < 21 then if 0 ≤ x3 ∧ x3 < 21 then upB t 186 (Int.toNat x3) x1 fun t5 => rec 5 [(x1 + ((tof t) 186 (Int.toNat x3))), (x3 - 1)] [] t5 else none else none else none
def xb_Le_divideByYMinusOne_e (fu : Nat) (rec : Nat → List Int → List Nat → Tb → Option (Int × Tb)) (t : Tb) : Option (Int × Tb) := rec 5 [0, 20] [] t
def xm_Le_divideByYMinusOne (fu : Nat) : Nat → Nat → List Int → List Nat → Tb → Option (Int × Tb)
  | 0, _, _, _, _ => none
  | n + 1, pc, a, ks, t => if pc = 5 then xb_Le_divideByYMinusOne_5 fu (xm_Le_divideByYMinusOne fu n) (a.getD 0 0) (a.getD 1 0) t else none
def x_Le_divideByYMinusOne (fu : Nat) (t : Tb) : Option (Int × Tb) := xb_Le_divideByYMinusOne_e fu (xm_Le_divideByYMinusOne fu fu) t
set_option maxRecDepth 20000 in
theorem xt_Le_divideByYMinusOne_5 {fu : Nat} {rec : Nat → List Int → List Nat → Tb → Option (Int × Tb)} {o : Int × Tb} {Q : Sto → Prop} (hQ : Q (tof o.2)) (hr_5 : ∀ (x1 : Int) (x3 : Int) (t : Tb), rec 5 [x1, x3] [] t = some o → H_Le_divideByYMinusOne_5 Q x1 x3 (tof t)) {x1 : Int} {x3 : Int} {t : Tb} (h0 : xb_Le_divideByYMinusOne_5 fu rec x1 x3 t = some o) : H_Le_divideByYMinusOne_5 Q x1 x3 (tof t) :=
  b_Le_divideByYMinusOne_5 (xr_and h0 fun _ h1 => xr_ite h1 (fun z y => by omega) (fun h2 => xr_leafV h2 hQ) (fun h3 => xr_and h3 fun _ h4 => xr_and h4 fun _ h5 => xr_up h5 fun t5 h6 => hr_5 _ _ _ h6))
set_option maxRecDepth 20000 in
theorem xt_Le_divideByYMinusOne_e {fu : Nat} {rec : Nat → List Int → List Nat → Tb → Option (Int × Tb)} {o : Int × Tb} {Q : Sto → Prop} (hQ : Q (tof o.2)) (hr_5 : ∀ (x1 : Int) (x3 : Int) (t : Tb), rec 5 [x1, x3] [] t = some o → H_Le_divideByYMinusOne_5 Q x1 x3 (tof t)) {t : Tb} (h0 : xb_Le_divideByYMinusOne_e fu rec t = some o) : K_Le_divideByYMinusOne (tof t) Q :=
  e_Le_divideByYMinusOne (hr_5 _ _ _ h0)
theorem xl_Le_divideByYMinusOne {fu : Nat} {o : Int × Tb} {Q : Sto → Prop} (hQ : Q (tof o.2)) : ∀ n : Nat, (∀ (x1 : Int) (x3 : Int) (t : Tb), xm_Le_divideByYMinusOne fu n 5 [x1, x3] [] t = some o → H_Le_divideByYMinusOne_5 Q x1 x3 (tof t)) := by
  intro n
  induction n with
  | zero => exact fun _ _ _ h => (nomatch h)
  | succ n ih =>
    have i5 := ih
    exact fun _ _ _ h => xt_Le_divideByYMinusOne_5 (fu := fu) hQ i5 h
theorem xs_Le_divideByYMinusOne {fu : Nat} {t : Tb} {r : Int} {t' : Tb} {Q : Sto → Prop} (h : x_Le_divideByYMinusOne fu t = some (r, t')) (hQ : Q (tof t')) : K_Le_divideByYMinusOne (tof t) Q := xt_Le_divideByYMinusOne_e (o := (r, t')) hQ (xl_Le_divideByYMinusOne hQ fu) h
def xb_Le_subtractShifted_2 (fu : Nat) (rec : Nat → List Int → List Nat → Tb → Option (Int × Tb)) (k0 : Nat) (k1 : Nat) (x2 : Int) (x3 : Int) (t : Tb) : Option (Int × Tb) := if arb SC k0 2 21 = true then if arb SC k1 2 21 = true then if -2147483648 ≤ x3 ∧ x3 < 2147483648 then if 21 ≤ x3 then some (0, t) else if -2147483648 ≤ (x3 + x2) ∧ (x3 + x2) < 2147483648 then if 21 ≤ (x3 + x2) then some (0, t) else if 0 ≤ (x3 + x2) ∧ (x3 + x2) < 21 then if 0 ≤ x3 ∧ x3 < 21 then if 0 ≤ (x3 + x2) ∧ (x3 + x2) < 21 then upB t k0 (Int.toNat (x3 + x2)) (((tof t) k0 (Int.toNat (x3 + x2))) - ((tof t) k1 (Int.toNat x3))) fun t8 => rec 2 [x2, (x3 + 1)] [k0, k1] t8 else none else none else none else none else none else none else none
def xb_Le_subtractShifted_e (fu : Nat) (rec : Nat → List Int → List Nat → Tb → Option (Int × Tb)) (k0 : Nat) (k1 : Nat) (x2 : Int) (t : Tb) : Option (Int × Tb) := if arb SC k0 2 21 = true then if arb SC k1 2 21 = true then rec 2 [x2, 0] [k0, k1] t else none else none
def xm_Le_subtractShifted (fu : Nat) : Nat → Nat → List Int → List Nat → Tb → Option (Int × Tb)
  | 0, _, _, _, _ => none
  | n + 1, pc, a, ks, t => if pc = 2 then xb_Le_subtractShifted_2 fu (xm_Le_subtractShifted fu n) (ks.getD 0 0) (ks.getD 1 0) (a.getD 0 0) (a.getD 1 0) t else none
def x_Le_subtractShifted (fu : Nat) (k0 : Nat) (k1 : Nat) (x2 : Int) (t : Tb) : Option (Int × Tb) := xb_Le_subtractShifted_e fu (xm_Le_subtractShifted fu fu) k0 k1 x2 t
set_option maxRecDepth 20000 in
theorem xt_Le_subtractShifted_2 {fu : Nat} {rec : Nat → List Int → List Nat → Tb → Option (Int × Tb)} {o : Int × Tb} {Q : Sto → Prop} (hQ : Q (tof o.2)) (hr_2 : ∀ (k0 : Nat) (k1 : Nat) (x2 : Int) (x3 : Int) (t : Tb), rec 2 [x2, x3] [k0, k1] t = some o → H_Le_subtractShifted_2 Q k0 k1 x2 x3 (tof t)) {k0 : Nat} {k1 : Nat} {x2 : Int} {x3 : Int} {t : Tb} (h0 : xb_Le_subtractShifted_2 fu rec k0 k1 x2 x3 t = some o) : H_Le_subtractShifted_2 Q k0 k1 x2 x3 (tof t) := by
  unfold xb_Le_subtractShifted_2 at h0
  obtain ⟨a0, h0⟩ := xr_and h0 (R := _ = some o) (fun _ z => z)
  obtain ⟨a1, h0⟩ := xr_and h0 (R := _ = some o) (fun _ z => z)
  exact b_Le_subtractShifted_2 (arb_ar a0) (arb_ar a1) (xr_and h0 fun _ h1 => xr_ite h1 (fun z y => by omega) (fun h2 => xr_leafV h2 hQ) (fun h3 => xr_and h3 fun _ h4 => xr_ite h4 (fun z y => by omega) (fun h5 => xr_leafV h5 hQ) (fun h6 => xr_and h6 fun _ h7 => xr_and h7 fun _ h8 => xr_and h8 fun _ h9 => xr_up h9 fun t8 h10 => hr_2 _ _ _ _ _ h10)))
set_option maxRecDepth 20000 in
theorem xt_Le_subtractShifted_e {fu : Nat} {rec : Nat → List Int → List Nat → Tb → Option (Int × Tb)} {o : Int × Tb} {Q : Sto → Prop} (hQ : Q (tof o.2)) (hr_2 : ∀ (k0 : Nat) (k1 : Nat) (x2 : Int) (x3 : Int) (t : Tb), rec 2 [x2, x3] [k0, k1] t = some o → H_Le_subtractShifted_2 Q k0 k1 x2 x3 (tof t)) {k0 : Nat} {k1 : Nat} {x2 : Int} {t : Tb} (h0 : xb_Le_subtractShifted_e fu rec k0 k1 x2 t = some o) : K_Le_subtractShifted k0 k1 x2 (tof t) Q := by
  unfold xb_Le_subtractShifted_e at h0
  obtain ⟨a0, h0⟩ := xr_and h0 (R := _ = some o) (fun _ z => z)
  obtain ⟨a1, h0⟩ := xr_and h0 (R := _ = some o) (fun _ z => z)
  exact e_Le_subtractShifted (arb_ar a0) (arb_ar a1) (hr_2 _ _ _ _ _ h0)
theorem xl_Le_subtractShifted {fu : Nat} {o : Int × Tb} {Q : Sto → Prop} (hQ : Q (tof o.2)) : ∀ n : Nat, (∀ (k0 : Nat) (k1 : Nat) (x2 : Int) (x3 : Int) (t : Tb), xm_Le_subtractShifted fu n 2 [x2, x3] [k0, k1] t = some o → H_Le_subtractShifted_2 Q k0 k1 x2 x3 (tof t)) := by
  intro n
  induction n with
  | zero => exact fun _ _ _ _ _ h => (nomatch h)
  | succ n ih =>
    have i2 := ih
    exact fun _ _ _ _ _ h => xt_Le_subtractShifted_2 (fu := fu) hQ i2 h
theorem xs_Le_subtractShifted {fu : Nat} {k0 : Nat} {k1 : Nat} {x2 : Int} {t : Tb} {r : Int} {t' : Tb} {Q : Sto → Prop} (h : x_Le_subtractShifted fu k0 k1 x2 t = some (r, t')) (hQ : Q (tof t')) : K_Le_subtractShifted k0 k1 x2 (tof t) Q := xt_Le_subtractShifted_e (o := (r, t')) hQ (xl_Le_subtractShifted hQ fu) h
def xb_Le_sumConnected_11 (fu : Nat) (rec : Nat → List Int → List Nat → Tb → Option (Int × Tb)) (x1 : Int) (k2 : Nat) (x3 : Int) (t : Tb) : Option (Int × Tb) := if arb SC k2 2 21 = true then if -2147483648 ≤ x3 ∧ x3 < 2147483648 then if 21 ≤ x3 then rec 43 [x1, 1] [k2] t else if 0 ≤ x1 ∧ x1 < 256 then if (-2147483648 ≤ x3 ∧ x3 < 2147483648) ∧ -2147483648 ≤ ((tof t) 56 (Int.toNat x1)) ∧ ((tof t) 56 (Int.toNat x1)) < 2147483648 then if ¬ x3 = ((tof t) 56 (Int.toNat x1)) then if 0 ≤ x3 ∧ x3 < 21 then upB t k2 (Int.toNat x3) 0 fun t9 => rec 11 [x1, (x3 + 1)] [k2] t9 else none else if 0 ≤ x3 ∧ x3 < 21 then upB t k2 (Int.toNat x3) 1 fun t11 => rec 11 [x1, (x3 + 1)] [k2] t11 else none else none else none else none else none
def xb_Le_sumConnected_43 (fu : Nat) (rec : Nat → List Int → List Nat → Tb → Option (Int × Tb)) (x1 : Int) (k2 : Nat) (x3 : Int) (t : Tb) : Option (Int × Tb) := if arb SC k2 2 21 = true then if (-2147483648 ≤ x3 ∧ x3 < 2147483648) ∧ -2147483648 ≤ x1 ∧ x1 < 2147483648 then if x1 ≤ x3 then some (0, t) else if -2147483648 ≤ (iand x3 (ixor x1 (-1))) ∧ (iand x3 (ixor x1 (-1))) < 2147483648 then if ¬ (iand x3 (ixor x1 (-1))) = 0 then rec 43 [x1, (x3 + 2)] [k2] t else if -2147483648 ≤ x3 ∧ x3 < 2147483648 then if 0 ≤ (Int.tdiv x3 2) ∧ (Int.tdiv x3 2) < 128 then if 0 ≤ (iand x1 (ixor x3 (-1))) ∧ (iand x1 (ixor x3 (-1))) < 256 then bnd (x_Le_subtractShifted fu k2 (58 + Int.toNat (Int.tdiv x3 2)) ((tof t) 56 (Int.toNat (iand x1 (ixor x3 (-1))))) t) fun _ t21 => rec 43 [x1, (x3 + 2)] [k2] t21 else none else none else none else none else none else none
def xb_Le_sumConnected_e (fu : Nat) (rec : Nat → List Int → List Nat → Tb → Option (Int × Tb)) (x1 : Int) (t : Tb) : Option (Int × Tb) := if -2147483648 ≤ x1 ∧ x1 < 2147483648 then if 0 ≤ (Int.tdiv x1 2) ∧ (Int.tdiv x1 2) < 128 then rec 11 [x1, 0] [(58 + Int.toNat (Int.tdiv x1 2))] t else none else none
def xm_Le_sumConnected (fu : Nat) : Nat → Nat → List Int → List Nat → Tb → Option (Int × Tb)
  | 0, _, _, _, _ => none
  | n + 1, pc, a, ks, t => if pc = 11 then xb_Le_sumConnected_11 fu (xm_Le_sumConnected fu n) (a.getD 0 0) (ks.getD 0 0) (a.getD 1 0) t else if pc = 43 then xb_Le_sumConnected_43 fu (xm_Le_sumConnected fu n) (a.getD 0 0) (ks.getD 0 0) (a.getD 1 0) t else none
def x_Le_sumConnected (fu : Nat) (x1 : Int) (t : Tb) : Option (Int × Tb) := xb_Le_sumConnected_e fu (xm_Le_sumConnected fu fu) x1 t
set_option maxRecDepth 20000 in
theorem xt_Le_sumConnected_11 {fu : Nat} {rec : Nat → List Int → List Nat → Tb → Option (Int × Tb)} {o : Int × Tb} {Q : Sto → Prop} (hQ : Q (tof o.2)) (hr_11 : ∀ (x1 : Int) (k2 : Nat) (x3 : Int) (t : Tb), rec 11 [x1, x3] [k2] t = some o → H_Le_sumConnected_11 Q x1 k2 x3 (tof t)) (hr_43 : ∀ (x1 : Int) (k2 : Nat) (x3 : Int) (t : Tb), rec 43 [x1, x3] [k2] t = some o → H_Le_sumConnected_43 Q x1 k2 x3 (tof t)) {x1 : Int} {k2 : Nat} {x3 : Int} {t : Tb} (h0 : xb_Le_sumConnected_11 fu rec x1 k2 x3 t = some o) : H_Le_sumConnected_11 Q x1 k2 x3 (tof t) := by
  unfold xb_Le_sumConnected_11 at h0
  obtain ⟨a0, h0⟩ := xr_and h0 (R := _ = some o) (fun _ z => z)
  exact b_Le_sumConnected_11 (arb_ar a0) (xr_and h0 fun _ h1 => xr_ite h1 (fun z y => by omega) (fun h2 => hr_43 _ _ _ _ h2) (fun h3 => xr_and h3 fun _ h4 => xr_and h4 fun _ h5 => xr_ite h5 (fun z y => y z) (fun h6 => xr_and h6 fun _ h8 => xr_up h8 fun t9 h9 => hr_11 _ _ _ _ h9) (fun h7 => xr_and h7 fun _ h10 => xr_up h10 fun t11 h11 => hr_11 _ _ _ _ h11)))
set_option maxRecDepth 20000 in
theorem xt_Le_sumConnected_43 {fu : Nat} {rec : Nat → List Int → List Nat → Tb → Option (Int × Tb)} {o : Int × Tb} {Q : Sto → Prop} (hQ : Q (tof o.2)) (hr_11 : ∀ (x1 : Int) (k2 : Nat) (x3 : Int) (t : Tb), rec 11 [x1, x3] [k2] t = some o → H_Le_sumConnected_11 Q x1 k2 x3 (tof t)) (hr_43 : ∀ (x1 : Int) (k2 : Nat) (x3 : Int) (t : Tb), rec 43 [x1, x3] [k2] t = some o → H_Le_sumConnected_43 Q x1 k2 x3 (tof t)) {x1 : Int} {k2 : Nat} {x3 : Int} {t : Tb} (h0 : xb_Le_sumConnected_43 fu rec x1 k2 x3 t = some o) : H_Le_sumConnected_43 Q x1 k2 x3 (tof t) := by
  unfold xb_Le_sumConnected_43 at h0
  obtain ⟨a0, h0⟩ := xr_and h0 (R := _ = some o) (fun _ z => z)
  exact b_Le_sumConnected_43 (arb_ar a0) (xr_and h0 fun _ h12 => xr_ite h12 (fun z y => by omega) (fun h13 => xr_leafV h13 hQ) (fun h14 => xr_and h14 fun _ h15 => xr_ite h15 (fun z y => y z) (fun h16 => hr_43 _ _ _ _ h16) (fun h17 => xr_and h17 fun _ h18 => xr_and h18 fun _ h19 => xr_and h19 fun _ h20 => xr_callV h20 (fun _ _ hc => xs_Le_subtractShifted hc rfl) fun _ t21 h21 => hr_43 _ _ _ _ h21)))
set_option maxRecDepth 20000 in
theorem xt_Le_sumConnected_e {fu : Nat} {rec : Nat → List Int → List Nat → Tb → Option (Int × Tb)} {o : Int × Tb} {Q : Sto → Prop} (hQ : Q (tof o.2)) (hr_11 : ∀ (x1 : Int) (k2 : Nat) (x3 : Int) (t : Tb), rec 11 [x1, x3] [k2] t = some o → H_Le_sumConnected_11 Q x1 k2 x3 (tof t)) (hr_43 : ∀ (x1 : Int) (k2 : Nat) (x3 : Int) (t : Tb), rec 43 [x1, x3] [k2] t = some o → H_Le_sumConnected_43 Q x1 k2 x3 (tof t)) {x1 : Int} {t : Tb} (h0 : xb_Le_sumConnected_e fu rec x1 t = some o) : K_Le_sumConnected x1 (tof t) Q :=
  e_Le_sumConnected (xr_and h0 fun _ h22 => xr_and h22 fun _ h23 => hr_11 _ _ _ _ h23)
theorem xl_Le_sumConnected {fu : Nat} {o : Int × Tb} {Q : Sto → Prop} (hQ : Q (tof o.2)) : ∀ n : Nat, (∀ (x1 : Int) (k2 : Nat) (x3 : Int) (t : Tb), xm_Le_sumConnected fu n 11 [x1, x3] [k2] t = some o → H_Le_sumConnected_11 Q x1 k2 x3 (tof t)) ∧ (∀ (x1 : Int) (k2 : Nat) (x3 : Int) (t : Tb), xm_Le_sumConnected fu n 43 [x1, x3] [k2] t = some o → H_Le_sumConnected_43 Q x1 k2 x3 (tof t)) := by
  intro n
  induction n with
  | zero => exact ⟨fun _ _ _ _ h => (nomatch h), fun _ _ _ _ h => (nomatch h)⟩
  | succ n ih =>
    obtain ⟨i11, i43⟩ := ih
    exact ⟨fun _ _ _ _ h => xt_Le_sumConnected_11 (fu := fu) hQ i11 i43 h, fun _ _ _ _ h => xt_Le_sumConnected_43 (fu := fu) hQ i11 i43 h⟩
theorem xs_Le_sumConnected {fu : Nat} {x1 : Int} {t : Tb} {r : Int} {t' : Tb} {Q : Sto → Prop} (h : x_Le_sumConnected fu x1 t = some (r, t')) (hQ : Q (tof t')) : K_Le_sumConnected x1 (tof t) Q := xt_Le_sumConnected_e (o := (r, t')) hQ (xl_Le_sumConnected hQ fu).1 (xl_Le_sumConnected hQ fu).2 h
def xb_Le_countAt_28 (fu : Nat) (rec : Nat → List Int → List Nat → Tb → Option (Int × Tb)) (x1 : Int) (x2 : Int) (x3 : Int) (t : Tb) : Option (Int × Tb) := if (-2147483648 ≤ x3 ∧ x3 < 2147483648) ∧ -2147483648 ≤ x2 ∧ x2 < 2147483648 then if x2 ≤ x3 then if -2147483648 ≤ (x2 - 1) ∧ (x2 - 1) < 2147483648 then rec 60 [x1, (Int.tdiv (x2 - 1) 2), 0] [] t else none else if -2147483648 ≤ x3 ∧ x3 < 2147483648 then if 256 ≤ x3 then if -2147483648 ≤ (x2 - 1) ∧ (x2 - 1) < 2147483648 then rec 60 [x1, (Int.tdiv (x2 - 1) 2), 0] [] t else none else bnd (x_Le_sumConnected fu x3 t) fun _ t18 => rec 28 [x1, x2, (x3 + 2)] [] t18 else none else none
def xb_Le_countAt_60 (fu : Nat) (rec : Nat → List Int → List Nat → Tb → Option (Int × Tb)) (x1 : Int) (x3 : Int) (x4 : Int) (t : Tb) : Option (Int × Tb) := if -2147483648 ≤ x4 ∧ x4 < 2147483648 then if 21 ≤ x4 then rec 92 [x1, 1] [] t else if 0 ≤ x3 ∧ x3 < 128 then if 0 ≤ x4 ∧ x4 < 21 then if 0 ≤ x4 ∧ x4 < 21 then upB t 186 (Int.toNat x4) ((tof t) (58 + Int.toNat x3) (Int.toNat x4)) fun t26 => rec 60 [x1, x3, (x4 + 1)] [] t26 else none else none else none else none
def xb_Le_countAt_92 (fu : Nat) (rec : Nat → List Int → List Nat → Tb → Option (Int × Tb)) (x1 : Int) (x4 : Int) (t : Tb) : Option (Int × Tb) := if (-2147483648 ≤ x4 ∧ x4 < 2147483648) ∧ -2147483648 ≤ ((tof t) 1 0) ∧ ((tof t) 1 0) < 2147483648 then if ((tof t) 1 0) ≤ x4 then if 0 ≤ x1 ∧ x1 < 21 then some (((tof t) 186 (Int.toNat x1)), t) else none else bnd (x_Le_divideByYMinusOne fu t) fun _ t32 => rec 92 [x1, (x4 + 1)] [] t32 else none
def xb_Le_countAt_e (fu : Nat) (rec : Nat → List Int → List Nat → Tb → Option (Int × Tb)) (x1 : Int) (t : Tb) : Option (Int × Tb) := if -2147483648 ≤ x1 ∧ x1 < 2147483648 then if x1 < 0 then some (0, t) else if -2147483648 ≤ x1 ∧ x1 < 2147483648 then if x1 < 21 then bnd (x_Le_countEdgesInside fu t) fun _ t7 => rec 28 [x1, (ishl 1 ((tof t7) 1 0)), 1] [] t7 else some (0, t) else none else none
def xm_Le_countAt (fu : Nat) : Nat → Nat → List Int → List Nat → Tb → Option (Int × Tb)
  | 0, _, _, _, _ => none
  | n + 1, pc, a, ks, t => if pc = 28 then xb_Le_countAt_28 fu (xm_Le_countAt fu n) (a.getD 0 0) (a.getD 1 0) (a.getD 2 0) t else if pc = 60 then xb_Le_countAt_60 fu (xm_Le_countAt fu n) (a.getD 0 0) (a.getD 1 0) (a.getD 2 0) t else if pc = 92 then xb_Le_countAt_92 fu (xm_Le_countAt fu n) (a.getD 0 0) (a.getD 1 0) t else none
def x_Le_countAt (fu : Nat) (x1 : Int) (t : Tb) : Option (Int × Tb) := xb_Le_countAt_e fu (xm_Le_countAt fu fu) x1 t
set_option maxRecDepth 20000 in
theorem xt_Le_countAt_28 {fu : Nat} {rec : Nat → List Int → List Nat → Tb → Option (Int × Tb)} {o : Int × Tb} {Q : Int → Sto → Prop} (hQ : Q o.1 (tof o.2)) (hr_28 : ∀ (x1 : Int) (x2 : Int) (x3 : Int) (t : Tb), rec 28 [x1, x2, x3] [] t = some o → H_Le_countAt_28 Q x1 x2 x3 (tof t)) (hr_60 : ∀ (x1 : Int) (x3 : Int) (x4 : Int) (t : Tb), rec 60 [x1, x3, x4] [] t = some o → H_Le_countAt_60 Q x1 x3 x4 (tof t)) (hr_92 : ∀ (x1 : Int) (x4 : Int) (t : Tb), rec 92 [x1, x4] [] t = some o → H_Le_countAt_92 Q x1 x4 (tof t)) {x1 : Int} {x2 : Int} {x3 : Int} {t : Tb} (h0 : xb_Le_countAt_28 fu rec x1 x2 x3 t = some o) : H_Le_countAt_28 Q x1 x2 x3 (tof t) :=
  b_Le_countAt_28 (xr_and h0 fun _ h1 => xr_ite h1 (fun z y => by omega) (fun h2 => xr_and h2 fun _ h4 => hr_60 _ _ _ _ h4) (fun h3 => xr_and h3 fun _ h5 => xr_ite h5 (fun z y => by omega) (fun h6 => xr_and h6 fun _ h8 => hr_60 _ _ _ _ h8) (fun h7 => xr_callV h7 (fun _ _ hc => xs_Le_sumConnected hc rfl) fun _ t18 h9 => hr_28 _ _ _ _ h9)))
set_option maxRecDepth 20000 in
theorem xt_Le_countAt_60 {fu : Nat} {rec : Nat → List Int → List Nat → Tb → Option (Int × Tb)} {o : Int × Tb} {Q : Int → Sto → Prop} (hQ : Q o.1 (tof o.2)) (hr_28 : ∀ (x1 : Int) (x2 : Int) (x3 : Int) (t : Tb), rec 28 [x1, x2, x3] [] t = some o → H_Le_countAt_28 Q x1 x2 x3 (tof t)) (hr_60 : ∀ (x1 : Int) (x3 : Int) (x4 : Int) (t : Tb), rec 60 [x1, x3, x4] [] t = some o → H_Le_countAt_60 Q x1 x3 x4 (tof t)) (hr_92 : ∀ (x1 : Int) (x4 : Int) (t : Tb), rec 92 [x1, x4] [] t = some o → H_Le_countAt_92 Q x1 x4 (tof t)) {x1 : Int} {x3 : Int} {x4 : Int} {t : Tb} (h0 : xb_Le_countAt_60 fu rec x1 x3 x4 t = some o) : H_Le_countAt_60 Q x1 x3 x4 (tof t) :=
  b_Le_countAt_60 (xr_and h0 fun _ h10 => xr_ite h10 (fun z y => by omega) (fun h11 => hr_92 _ _ _ h11) (fun h12 => xr_and h12 fun _ h13 => xr_and h13 fun _ h14 => xr_and h14 fun _ h15 => xr_up h15 fun t26 h16 => hr_60 _ _ _ _ h16))
set_option maxRecDepth 20000 in
theorem xt_Le_countAt_92 {fu : Nat} {rec : Nat → List Int → List Nat → Tb → Option (Int × Tb)} {o : Int × Tb} {Q : Int → Sto → Prop} (hQ : Q o.1 (tof o.2)) (hr_28 : ∀ (x1 : Int) (x2 : Int) (x3 : Int) (t : Tb), rec 28 [x1, x2, x3] [] t = some o → H_Le_countAt_28 Q x1 x2 x3 (tof t)) (hr_60 : ∀ (x1 : Int) (x3 : Int) (x4 : Int) (t : Tb), rec 60 [x1, x3, x4] [] t = some o → H_Le_countAt_60 Q x1 x3 x4 (tof t)) (hr_92 : ∀ (x1 : Int) (x4 : Int) (t : Tb), rec 92 [x1, x4] [] t = some o → H_Le_countAt_92 Q x1 x4 (tof t)) {x1 : Int} {x4 : Int} {t : Tb} (h0 : xb_Le_countAt_92 fu rec x1 x4 t = some o) : H_Le_countAt_92 Q x1 x4 (tof t) :=
  b_Le_countAt_92 (xr_and h0 fun _ h17 => xr_ite h17 (fun z y => by omega) (fun h18 => xr_and h18 fun _ h20 => xr_leaf h20 hQ) (fun h19 => xr_callV h19 (fun _ _ hc => xs_Le_divideByYMinusOne hc rfl) fun _ t32 h21 => hr_92 _ _ _ h21))
set_option maxRecDepth 20000 in
theorem xt_Le_countAt_e {fu : Nat} {rec : Nat → List Int → List Nat → Tb → Option (Int × Tb)} {o : Int × Tb} {Q : Int → Sto → Prop} (hQ : Q o.1 (tof o.2)) (hr_28 : ∀ (x1 : Int) (x2 : Int) (x3 : Int) (t : Tb), rec 28 [x1, x2, x3] [] t = some o → H_Le_countAt_28 Q x1 x2 x3 (tof t)) (hr_60 : ∀ (x1 : Int) (x3 : Int) (x4 : Int) (t : Tb), rec 60 [x1, x3, x4] [] t = some o → H_Le_countAt_60 Q x1 x3 x4 (tof t)) (hr_92 : ∀ (x1 : Int) (x4 : Int) (t : Tb), rec 92 [x1, x4] [] t = some o → H_Le_countAt_92 Q x1 x4 (tof t)) {x1 : Int} {t : Tb} (h0 : xb_Le_countAt_e fu rec x1 t = some o) : K_Le_countAt x1 (tof t) Q :=
  e_Le_countAt (xr_and h0 fun _ h22 => xr_ite h22 (fun z y => by omega) (fun h23 => xr_leaf h23 hQ) (fun h24 => xr_and h24 fun _ h25 => xr_ite h25 (fun z y => by omega) (fun h26 => xr_callV h26 (fun _ _ hc => xs_Le_countEdgesInside hc rfl) fun _ t7 h28 => hr_28 _ _ _ _ h28) (fun h27 => xr_leaf h27 hQ)))
theorem xl_Le_countAt {fu : Nat} {o : Int × Tb} {Q : Int → Sto → Prop} (hQ : Q o.1 (tof o.2)) : ∀ n : Nat, (∀ (x1 : Int) (x2 : Int) (x3 : Int) (t : Tb), xm_Le_countAt fu n 28 [x1, x2, x3] [] t = some o → H_Le_countAt_28 Q x1 x2 x3 (tof t)) ∧ (∀ (x1 : Int) (x3 : Int) (x4 : Int) (t : Tb), xm_Le_countAt fu n 60 [x1, x3, x4] [] t = some o → H_Le_countAt_60 Q x1 x3 x4 (tof t)) ∧ (∀ (x1 : Int) (x4 : Int) (t : Tb), xm_Le_countAt fu n 92 [x1, x4] [] t = some o → H_Le_countAt_92 Q x1 x4 (tof t)) := by
  intro n
  induction n with
  | zero => exact ⟨fun _ _ _ _ h => (nomatch h), fun _ _ _ _ h => (nomatch h), fun _ _ _ h => (nomatch h)⟩
  | succ n ih =>
    obtain ⟨i28, i60, i92⟩ := ih
    exact ⟨fun _ _ _ _ h => xt_Le_countAt_28 (fu := fu) hQ i28 i60 i92 h, fun _ _ _ _ h => xt_Le_countAt_60 (fu := fu) hQ i28 i60 i92 h, fun _ _ _ h => xt_Le_countAt_92 (fu := fu) hQ i28 i60 i92 h⟩
theorem xs_Le_countAt {fu : Nat} {x1 : Int} {t : Tb} {r : Int} {t' : Tb} {Q : Int → Sto → Prop} (h : x_Le_countAt fu x1 t = some (r, t')) (hQ : Q r (tof t')) : K_Le_countAt x1 (tof t) Q := xt_Le_countAt_e (o := (r, t')) hQ (xl_Le_countAt hQ fu).1 (xl_Le_countAt hQ fu).2.1 (xl_Le_countAt hQ fu).2.2 h
def xb_Cg_levelCount_e (fu : Nat) (rec : Nat → List Int → List Nat → Tb → Option (Int × Tb)) (x1 : Int) (t : Tb) : Option (Int × Tb) := if -2147483648 ≤ x1 ∧ x1 < 2147483648 then if 0 ≤ x1 then bnd (x_Gr_isConnected fu t) fun r6 t5 => if -2147483648 ≤ r6 ∧ r6 < 2147483648 then if ¬ r6 = 0 then bnd (x_Le_countAt fu x1 t5) fun r13 t12 => some (r13, t12) else some ((-10003), t5) else none else some ((-10002), t) else none
def x_Cg_levelCount (fu : Nat) (x1 : Int) (t : Tb) : Option (Int × Tb) := xb_Cg_levelCount_e fu (fun _ _ _ _ => none) x1 t
set_option maxRecDepth 20000 in
theorem xt_Cg_levelCount_e {fu : Nat} {rec : Nat → List Int → List Nat → Tb → Option (Int × Tb)} {o : Int × Tb} {Q : Int → Sto → Prop} (hQ : Q o.1 (tof o.2)) {x1 : Int} {t : Tb} (h0 : xb_Cg_levelCount_e fu rec x1 t = some o) : K_Cg_levelCount x1 (tof t) Q :=
  e_Cg_levelCount (xr_and h0 fun _ h1 => xr_ite h1 (fun z y => by omega) (fun h2 => xr_call h2 (fun _ _ hc => xs_Gr_isConnected hc ⟨rfl, rfl⟩) fun r6 t5 h4 => xr_and h4 fun _ h5 => xr_ite h5 (fun z y => y z) (fun h6 => xr_call h6 (fun _ _ hc => xs_Le_countAt hc ⟨rfl, rfl⟩) fun r13 t12 h8 => xr_leaf h8 hQ) (fun h7 => xr_leaf h7 hQ)) (fun h3 => xr_leaf h3 hQ))
theorem xs_Cg_levelCount {fu : Nat} {x1 : Int} {t : Tb} {r : Int} {t' : Tb} {Q : Int → Sto → Prop} (h : x_Cg_levelCount fu x1 t = some (r, t')) (hQ : Q r (tof t')) : K_Cg_levelCount x1 (tof t) Q := xt_Cg_levelCount_e (o := (r, t')) hQ h
def xb_Cg_load_e (fu : Nat) (rec : Nat → List Int → List Nat → Tb → Option (Int × Tb)) (x1 : Int) (t : Tb) : Option (Int × Tb) := bnd (x_Sl_has fu x1 t) fun r4 t3 => if -2147483648 ≤ r4 ∧ r4 < 2147483648 then if ¬ r4 = 0 then bnd (x_Sl_isEmpty fu x1 t3) fun r11 t10 => if -2147483648 ≤ r11 ∧ r11 < 2147483648 then if r11 = 0 then bnd (x_Hi_record fu 187 t10) fun _ t17 => bnd (x_Sl_copyTo fu x1 187 t17) fun _ t22 => bnd (x_Cg_sumOf fu 187 t22) fun r28 t27 => some (r28, t27) else some ((-10004), t10) else none else some ((-10001), t3) else none
def x_Cg_load (fu : Nat) (x1 : Int) (t : Tb) : Option (Int × Tb) := xb_Cg_load_e fu (fun _ _ _ _ => none) x1 t
set_option maxRecDepth 20000 in
theorem xt_Cg_load_e {fu : Nat} {rec : Nat → List Int → List Nat → Tb → Option (Int × Tb)} {o : Int × Tb} {Q : Int → Sto → Prop} (hQ : Q o.1 (tof o.2)) {x1 : Int} {t : Tb} (h0 : xb_Cg_load_e fu rec x1 t = some o) : K_Cg_load x1 (tof t) Q :=
  e_Cg_load (xr_call h0 (fun _ _ hc => xs_Sl_has hc ⟨rfl, rfl⟩) fun r4 t3 h1 => xr_and h1 fun _ h2 => xr_ite h2 (fun z y => y z) (fun h3 => xr_call h3 (fun _ _ hc => xs_Sl_isEmpty hc ⟨rfl, rfl⟩) fun r11 t10 h5 => xr_and h5 fun _ h6 => xr_ite h6 (fun z => z) (fun h7 => xr_callV h7 (fun _ _ hc => xs_Hi_record hc rfl) fun _ t17 h9 => xr_callV h9 (fun _ _ hc => xs_Sl_copyTo hc rfl) fun _ t22 h10 => xr_call h10 (fun _ _ hc => xs_Cg_sumOf hc ⟨rfl, rfl⟩) fun r28 t27 h11 => xr_leaf h11 hQ) (fun h8 => xr_leaf h8 hQ)) (fun h4 => xr_leaf h4 hQ))
theorem xs_Cg_load {fu : Nat} {x1 : Int} {t : Tb} {r : Int} {t' : Tb} {Q : Int → Sto → Prop} (h : x_Cg_load fu x1 t = some (r, t')) (hQ : Q r (tof t')) : K_Cg_load x1 (tof t) Q := xt_Cg_load_e (o := (r, t')) hQ h
def xb_Cg_makeRecurrent_e (fu : Nat) (rec : Nat → List Int → List Nat → Tb → Option (Int × Tb)) (t : Tb) : Option (Int × Tb) := bnd (x_Gr_isConnected fu t) fun r4 t3 => if -2147483648 ≤ r4 ∧ r4 < 2147483648 then if ¬ r4 = 0 then bnd (x_Hi_record fu 187 t3) fun _ t10 => bnd (x_Cg_copyChips fu 187 188 t10) fun _ t15 => bnd (x_Fi_toRecurrent fu 187 t15) fun _ t20 => bnd (x_Cg_isEqual fu 187 188 t20) fun r26 t25 => if -2147483648 ≤ r26 ∧ r26 < 2147483648 then if r26 = 0 then some (1, t25) else some (0, t25) else none else some ((-10003), t3) else none
def x_Cg_makeRecurrent (fu : Nat) (t : Tb) : Option (Int × Tb) := xb_Cg_makeRecurrent_e fu (fun _ _ _ _ => none) t
set_option maxRecDepth 20000 in
theorem xt_Cg_makeRecurrent_e {fu : Nat} {rec : Nat → List Int → List Nat → Tb → Option (Int × Tb)} {o : Int × Tb} {Q : Int → Sto → Prop} (hQ : Q o.1 (tof o.2)) {t : Tb} (h0 : xb_Cg_makeRecurrent_e fu rec t = some o) : K_Cg_makeRecurrent (tof t) Q :=
  e_Cg_makeRecurrent (xr_call h0 (fun _ _ hc => xs_Gr_isConnected hc ⟨rfl, rfl⟩) fun r4 t3 h1 => xr_and h1 fun _ h2 => xr_ite h2 (fun z y => y z) (fun h3 => xr_callV h3 (fun _ _ hc => xs_Hi_record hc rfl) fun _ t10 h5 => xr_callV h5 (fun _ _ hc => xs_Cg_copyChips hc rfl) fun _ t15 h6 => xr_callV h6 (fun _ _ hc => xs_Fi_toRecurrent hc rfl) fun _ t20 h7 => xr_call h7 (fun _ _ hc => xs_Cg_isEqual hc ⟨rfl, rfl⟩) fun r26 t25 h8 => xr_and h8 fun _ h9 => xr_ite h9 (fun z => z) (fun h10 => xr_leaf h10 hQ) (fun h11 => xr_leaf h11 hQ)) (fun h4 => xr_leaf h4 hQ))
theorem xs_Cg_makeRecurrent {fu : Nat} {t : Tb} {r : Int} {t' : Tb} {Q : Int → Sto → Prop} (h : x_Cg_makeRecurrent fu t = some (r, t')) (hQ : Q r (tof t')) : K_Cg_makeRecurrent (tof t) Q := xt_Cg_makeRecurrent_e (o := (r, t')) hQ h
def xb_Ma_orderOf_6 (fu : Nat) (rec : Nat → List Int → List Nat → Tb → Option (Int × Tb)) (k1 : Nat) (x2 : Int) (t : Tb) : Option (Int × Tb) := if arb SC k1 1 8 = true then if (-2147483648 ≤ x2 ∧ x2 < 2147483648) ∧ -2147483648 ≤ ((tof t) 42 4) ∧ ((tof t) 42 4) < 2147483648 then if ((tof t) 42 4) ≤ x2 then bnd (x_Ma_eliminate fu t) fun r11 t10 => rec 46 [r11, r11, 0] [] t10 else if 0 ≤ x2 ∧ x2 < 8 then if 0 ≤ x2 ∧ x2 < 8 then if -2147483648 ≤ ((tof t) k1 (Int.toNat x2)) ∧ ((tof t) k1 (Int.toNat x2)) < 2147483648 then if 0 ≤ ((tof t) 42 4) ∧ ((tof t) 42 4) < 9 then upB t (45 + Int.toNat x2) (Int.toNat ((tof t) 42 4)) ((tof t) k1 (Int.toNat x2)) fun t17 => rec 6 [(x2 + 1)] [k1] t17 else none else none else none else none else none else none
def xb_Ma_orderOf_46 (fu : Nat) (rec : Nat → List Int → List Nat → Tb → Option (Int × Tb)) (x2 : Int) (x4 : Int) (x6 : Int) (t : Tb) : Option (Int × Tb) := if (-2147483648 ≤ x6 ∧ x6 < 2147483648) ∧ -2147483648 ≤ ((tof t) 42 4) ∧ ((tof t) 42 4) < 2147483648 then if ((tof t) 42 4) ≤ x6 then if -9223372036854775808 ≤ x4 ∧ x4 < 9223372036854775808 then if ¬ x4 = 0 then if ((-9223372036854775808 ≤ x2 ∧ x2 < 9223372036854775808) ∧ -9223372036854775808 ≤ x4 ∧ x4 < 9223372036854775808) ∧ ¬ x4 = 0 then some ((Int.tdiv x2 x4), t) else none else some (0, t) else none else if 0 ≤ x6 ∧ x6 < 8 then if 0 ≤ ((tof t) 42 4) ∧ ((tof t) 42 4) < 9 then bnd (x_Ma_commonDivisor fu x4 ((tof t) (45 + Int.toNat x6) (Int.toNat ((tof t) 42 4))) t) fun r28 t27 => rec 46 [x2, r28, (x6 + 1)] [] t27 else none else none else none
def xb_Ma_orderOf_e (fu : Nat) (rec : Nat → List Int → List Nat → Tb → Option (Int × Tb)) (k1 : Nat) (t : Tb) : Option (Int × Tb) := if arb SC k1 1 8 = true then bnd (x_Ma_fillWhole fu t) fun _ t3 => rec 6 [0] [k1] t3 else none
def xm_Ma_orderOf (fu : Nat) : Nat → Nat → List Int → List Nat → Tb → Option (Int × Tb)
  | 0, _, _, _, _ => none
  | n + 1, pc, a, ks, t => if pc = 6 then xb_Ma_orderOf_6 fu (xm_Ma_orderOf fu n) (ks.getD 0 0) (a.getD 0 0) t else if pc = 46 then xb_Ma_orderOf_46 fu (xm_Ma_orderOf fu n) (a.getD 0 0) (a.getD 1 0) (a.getD 2 0) t else none
def x_Ma_orderOf (fu : Nat) (k1 : Nat) (t : Tb) : Option (Int × Tb) := xb_Ma_orderOf_e fu (xm_Ma_orderOf fu fu) k1 t
set_option maxRecDepth 20000 in
theorem xt_Ma_orderOf_6 {fu : Nat} {rec : Nat → List Int → List Nat → Tb → Option (Int × Tb)} {o : Int × Tb} {Q : Int → Sto → Prop} (hQ : Q o.1 (tof o.2)) (hr_6 : ∀ (k1 : Nat) (x2 : Int) (t : Tb), rec 6 [x2] [k1] t = some o → H_Ma_orderOf_6 Q k1 x2 (tof t)) (hr_46 : ∀ (x2 : Int) (x4 : Int) (x6 : Int) (t : Tb), rec 46 [x2, x4, x6] [] t = some o → H_Ma_orderOf_46 Q x2 x4 x6 (tof t)) {k1 : Nat} {x2 : Int} {t : Tb} (h0 : xb_Ma_orderOf_6 fu rec k1 x2 t = some o) : H_Ma_orderOf_6 Q k1 x2 (tof t) := by
  unfold xb_Ma_orderOf_6 at h0
  obtain ⟨a0, h0⟩ := xr_and h0 (R := _ = some o) (fun _ z => z)
  exact b_Ma_orderOf_6 (arb_ar a0) (xr_and h0 fun _ h1 => xr_ite h1 (fun z y => by omega) (fun h2 => xr_call h2 (fun _ _ hc => xs_Ma_eliminate hc ⟨rfl, rfl⟩) fun r11 t10 h4 => hr_46 _ _ _ _ h4) (fun h3 => xr_and h3 fun _ h5 => xr_and h5 fun _ h6 => xr_and h6 fun _ h7 => xr_and h7 fun _ h8 => xr_up h8 fun t17 h9 => hr_6 _ _ _ h9))
set_option maxRecDepth 20000 in
theorem xt_Ma_orderOf_46 {fu : Nat} {rec : Nat → List Int → List Nat → Tb → Option (Int × Tb)} {o : Int × Tb} {Q : Int → Sto → Prop} (hQ : Q o.1 (tof o.2)) (hr_6 : ∀ (k1 : Nat) (x2 : Int) (t : Tb), rec 6 [x2] [k1] t = some o → H_Ma_orderOf_6 Q k1 x2 (tof t)) (hr_46 : ∀ (x2 : Int) (x4 : Int) (x6 : Int) (t : Tb), rec 46 [x2, x4, x6] [] t = some o → H_Ma_orderOf_46 Q x2 x4 x6 (tof t)) {x2 : Int} {x4 : Int} {x6 : Int} {t : Tb} (h0 : xb_Ma_orderOf_46 fu rec x2 x4 x6 t = some o) : H_Ma_orderOf_46 Q x2 x4 x6 (tof t) :=
  b_Ma_orderOf_46 (xr_and h0 fun _ h10 => xr_ite h10 (fun z y => by omega) (fun h11 => xr_and h11 fun _ h13 => xr_ite h13 (fun z y => y z) (fun h14 => xr_and h14 fun _ h16 => xr_leaf h16 hQ) (fun h15 => xr_leaf h15 hQ)) (fun h12 => xr_and h12 fun _ h17 => xr_and h17 fun _ h18 => xr_call h18 (fun _ _ hc => xs_Ma_commonDivisor hc ⟨rfl, rfl⟩) fun r28 t27 h19 => hr_46 _ _ _ _ h19))
set_option maxRecDepth 20000 in
theorem xt_Ma_orderOf_e {fu : Nat} {rec : Nat → List Int → List Nat → Tb → Option (Int × Tb)} {o : Int × Tb} {Q : Int → Sto → Prop} (hQ : Q o.1 (tof o.2)) (hr_6 : ∀ (k1 : Nat) (x2 : Int) (t : Tb), rec 6 [x2] [k1] t = some o → H_Ma_orderOf_6 Q k1 x2 (tof t)) (hr_46 : ∀ (x2 : Int) (x4 : Int) (x6 : Int) (t : Tb), rec 46 [x2, x4, x6] [] t = some o → H_Ma_orderOf_46 Q x2 x4 x6 (tof t)) {k1 : Nat} {t : Tb} (h0 : xb_Ma_orderOf_e fu rec k1 t = some o) : K_Ma_orderOf k1 (tof t) Q := by
  unfold xb_Ma_orderOf_e at h0
  obtain ⟨a0, h0⟩ := xr_and h0 (R := _ = some o) (fun _ z => z)
  exact e_Ma_orderOf (arb_ar a0) (xr_callV h0 (fun _ _ hc => xs_Ma_fillWhole hc rfl) fun _ t3 h20 => hr_6 _ _ _ h20)
theorem xl_Ma_orderOf {fu : Nat} {o : Int × Tb} {Q : Int → Sto → Prop} (hQ : Q o.1 (tof o.2)) : ∀ n : Nat, (∀ (k1 : Nat) (x2 : Int) (t : Tb), xm_Ma_orderOf fu n 6 [x2] [k1] t = some o → H_Ma_orderOf_6 Q k1 x2 (tof t)) ∧ (∀ (x2 : Int) (x4 : Int) (x6 : Int) (t : Tb), xm_Ma_orderOf fu n 46 [x2, x4, x6] [] t = some o → H_Ma_orderOf_46 Q x2 x4 x6 (tof t)) := by
  intro n
  induction n with
  | zero => exact ⟨fun _ _ _ h => (nomatch h), fun _ _ _ _ h => (nomatch h)⟩
  | succ n ih =>
    obtain ⟨i6, i46⟩ := ih
    exact ⟨fun _ _ _ h => xt_Ma_orderOf_6 (fu := fu) hQ i6 i46 h, fun _ _ _ _ h => xt_Ma_orderOf_46 (fu := fu) hQ i6 i46 h⟩
theorem xs_Ma_orderOf {fu : Nat} {k1 : Nat} {t : Tb} {r : Int} {t' : Tb} {Q : Int → Sto → Prop} (h : x_Ma_orderOf fu k1 t = some (r, t')) (hQ : Q r (tof t')) : K_Ma_orderOf k1 (tof t) Q := xt_Ma_orderOf_e (o := (r, t')) hQ (xl_Ma_orderOf hQ fu).1 (xl_Ma_orderOf hQ fu).2 h
def xb_Cg_order_e (fu : Nat) (rec : Nat → List Int → List Nat → Tb → Option (Int × Tb)) (t : Tb) : Option (Int × Tb) := bnd (x_Gr_isConnected fu t) fun r4 t3 => if -2147483648 ≤ r4 ∧ r4 < 2147483648 then if ¬ r4 = 0 then bnd (x_Ma_orderOf fu 187 t3) fun r11 t10 => some (r11, t10) else some ((-10003), t3) else none
def x_Cg_order (fu : Nat) (t : Tb) : Option (Int × Tb) := xb_Cg_order_e fu (fun _ _ _ _ => none) t
set_option maxRecDepth 20000 in
theorem xt_Cg_order_e {fu : Nat} {rec : Nat → List Int → List Nat → Tb → Option (Int × Tb)} {o : Int × Tb} {Q : Int → Sto → Prop} (hQ : Q o.1 (tof o.2)) {t : Tb} (h0 : xb_Cg_order_e fu rec t = some o) : K_Cg_order (tof t) Q :=
  e_Cg_order (xr_call h0 (fun _ _ hc => xs_Gr_isConnected hc ⟨rfl, rfl⟩) fun r4 t3 h1 => xr_and h1 fun _ h2 => xr_ite h2 (fun z y => y z) (fun h3 => xr_call h3 (fun _ _ hc => xs_Ma_orderOf hc ⟨rfl, rfl⟩) fun r11 t10 h5 => xr_leaf h5 hQ) (fun h4 => xr_leaf h4 hQ))
theorem xs_Cg_order {fu : Nat} {t : Tb} {r : Int} {t' : Tb} {Q : Int → Sto → Prop} (h : x_Cg_order fu t = some (r, t')) (hQ : Q r (tof t')) : K_Cg_order (tof t) Q := xt_Cg_order_e (o := (r, t')) hQ h
def xb_Gr_clear_17 (fu : Nat) (rec : Nat → List Int → List Nat → Tb → Option (Int × Tb)) (x2 : Int) (t : Tb) : Option (Int × Tb) := if -2147483648 ≤ x2 ∧ x2 < 2147483648 then if 8 ≤ x2 then some (0, t) else if 0 ≤ x2 ∧ x2 < 8 then upB t 13 (Int.toNat x2) 0 fun t7 => rec 32 [x2, 0] [] t7 else none else none
def xb_Gr_clear_32 (fu : Nat) (rec : Nat → List Int → List Nat → Tb → Option (Int × Tb)) (x2 : Int) (x3 : Int) (t : Tb) : Option (Int × Tb) := if -2147483648 ≤ x3 ∧ x3 < 2147483648 then if 8 ≤ x3 then rec 17 [(x2 + 1)] [] t else if 0 ≤ x2 ∧ x2 < 8 then if 0 ≤ x3 ∧ x3 < 8 then upB t (5 + Int.toNat x2) (Int.toNat x3) 0 fun t12 => rec 32 [x2, (x3 + 1)] [] t12 else none else none else none
def xb_Gr_clear_e (fu : Nat) (rec : Nat → List Int → List Nat → Tb → Option (Int × Tb)) (x1 : Int) (t : Tb) : Option (Int × Tb) := upB t 1 0 x1 fun t1 => upB t1 1 1 0 fun t2 => upB t2 1 2 0 fun t3 => rec 17 [0] [] t3
def xm_Gr_clear (fu : Nat) : Nat → Nat → List Int → List Nat → Tb → Option (Int × Tb)
  | 0, _, _, _, _ => none
  | n + 1, pc, a, ks, t => if pc = 17 then xb_Gr_clear_17 fu (xm_Gr_clear fu n) (a.getD 0 0) t else if pc = 32 then xb_Gr_clear_32 fu (xm_Gr_clear fu n) (a.getD 0 0) (a.getD 1 0) t else none
def x_Gr_clear (fu : Nat) (x1 : Int) (t : Tb) : Option (Int × Tb) := xb_Gr_clear_e fu (xm_Gr_clear fu fu) x1 t
set_option maxRecDepth 20000 in
theorem xt_Gr_clear_17 {fu : Nat} {rec : Nat → List Int → List Nat → Tb → Option (Int × Tb)} {o : Int × Tb} {Q : Sto → Prop} (hQ : Q (tof o.2)) (hr_17 : ∀ (x2 : Int) (t : Tb), rec 17 [x2] [] t = some o → H_Gr_clear_17 Q x2 (tof t)) (hr_32 : ∀ (x2 : Int) (x3 : Int) (t : Tb), rec 32 [x2, x3] [] t = some o → H_Gr_clear_32 Q x2 x3 (tof t)) {x2 : Int} {t : Tb} (h0 : xb_Gr_clear_17 fu rec x2 t = some o) : H_Gr_clear_17 Q x2 (tof t) :=
  b_Gr_clear_17 (xr_and h0 fun _ h1 => xr_ite h1 (fun z y => by omega) (fun h2 => xr_leafV h2 hQ) (fun h3 => xr_and h3 fun _ h4 => xr_up h4 fun t7 h5 => hr_32 _ _ _ h5))
set_option maxRecDepth 20000 in
theorem xt_Gr_clear_32 {fu : Nat} {rec : Nat → List Int → List Nat → Tb → Option (Int × Tb)} {o : Int × Tb} {Q : Sto → Prop} (hQ : Q (tof o.2)) (hr_17 : ∀ (x2 : Int) (t : Tb), rec 17 [x2] [] t = some o → H_Gr_clear_17 Q x2 (tof t)) (hr_32 : ∀ (x2 : Int) (x3 : Int) (t : Tb), rec 32 [x2, x3] [] t = some o → H_Gr_clear_32 Q x2 x3 (tof t)) {x2 : Int} {x3 : Int} {t : Tb} (h0 : xb_Gr_clear_32 fu rec x2 x3 t = some o) : H_Gr_clear_32 Q x2 x3 (tof t) :=
  b_Gr_clear_32 (xr_and h0 fun _ h6 => xr_ite h6 (fun z y => by omega) (fun h7 => hr_17 _ _ h7) (fun h8 => xr_and h8 fun _ h9 => xr_and h9 fun _ h10 => xr_up h10 fun t12 h11 => hr_32 _ _ _ h11))
set_option maxRecDepth 20000 in
theorem xt_Gr_clear_e {fu : Nat} {rec : Nat → List Int → List Nat → Tb → Option (Int × Tb)} {o : Int × Tb} {Q : Sto → Prop} (hQ : Q (tof o.2)) (hr_17 : ∀ (x2 : Int) (t : Tb), rec 17 [x2] [] t = some o → H_Gr_clear_17 Q x2 (tof t)) (hr_32 : ∀ (x2 : Int) (x3 : Int) (t : Tb), rec 32 [x2, x3] [] t = some o → H_Gr_clear_32 Q x2 x3 (tof t)) {x1 : Int} {t : Tb} (h0 : xb_Gr_clear_e fu rec x1 t = some o) : K_Gr_clear x1 (tof t) Q :=
  e_Gr_clear (xr_up h0 fun t1 h12 => xr_up h12 fun t2 h13 => xr_up h13 fun t3 h14 => hr_17 _ _ h14)
theorem xl_Gr_clear {fu : Nat} {o : Int × Tb} {Q : Sto → Prop} (hQ : Q (tof o.2)) : ∀ n : Nat, (∀ (x2 : Int) (t : Tb), xm_Gr_clear fu n 17 [x2] [] t = some o → H_Gr_clear_17 Q x2 (tof t)) ∧ (∀ (x2 : Int) (x3 : Int) (t : Tb), xm_Gr_clear fu n 32 [x2, x3] [] t = some o → H_Gr_clear_32 Q x2 x3 (tof t)) := by
  intro n
  induction n with
  | zero => exact ⟨fun _ _ h => (nomatch h), fun _ _ _ h => (nomatch h)⟩
  | succ n ih =>
    obtain ⟨i17, i32⟩ := ih
    exact ⟨fun _ _ h => xt_Gr_clear_17 (fu := fu) hQ i17 i32 h, fun _ _ _ h => xt_Gr_clear_32 (fu := fu) hQ i17 i32 h⟩
theorem xs_Gr_clear {fu : Nat} {x1 : Int} {t : Tb} {r : Int} {t' : Tb} {Q : Sto → Prop} (h : x_Gr_clear fu x1 t = some (r, t')) (hQ : Q (tof t')) : K_Gr_clear x1 (tof t) Q := xt_Gr_clear_e (o := (r, t')) hQ (xl_Gr_clear hQ fu).1 (xl_Gr_clear hQ fu).2 h
def xb_Cg_startAnew_e (fu : Nat) (rec : Nat → List Int → List Nat → Tb → Option (Int × Tb)) (x1 : Int) (t : Tb) : Option (Int × Tb) := bnd (x_Gr_clear fu x1 t) fun _ t3 => bnd (x_Cg_clearChips fu 187 t3) fun _ t8 => bnd (x_Cg_forgetStates fu t8) fun _ t13 => some (0, t13)
def x_Cg_startAnew (fu : Nat) (x1 : Int) (t : Tb) : Option (Int × Tb) := xb_Cg_startAnew_e fu (fun _ _ _ _ => none) x1 t
set_option maxRecDepth 20000 in
theorem xt_Cg_startAnew_e {fu : Nat} {rec : Nat → List Int → List Nat → Tb → Option (Int × Tb)} {o : Int × Tb} {Q : Sto → Prop} (hQ : Q (tof o.2)) {x1 : Int} {t : Tb} (h0 : xb_Cg_startAnew_e fu rec x1 t = some o) : K_Cg_startAnew x1 (tof t) Q :=
  e_Cg_startAnew (xr_callV h0 (fun _ _ hc => xs_Gr_clear hc rfl) fun _ t3 h1 => xr_callV h1 (fun _ _ hc => xs_Cg_clearChips hc rfl) fun _ t8 h2 => xr_callV h2 (fun _ _ hc => xs_Cg_forgetStates hc rfl) fun _ t13 h3 => xr_leafV h3 hQ)
theorem xs_Cg_startAnew {fu : Nat} {x1 : Int} {t : Tb} {r : Int} {t' : Tb} {Q : Sto → Prop} (h : x_Cg_startAnew fu x1 t = some (r, t')) (hQ : Q (tof t')) : K_Cg_startAnew x1 (tof t) Q := xt_Cg_startAnew_e (o := (r, t')) hQ h
def xb_Sh_drawPath_2 (fu : Nat) (rec : Nat → List Int → List Nat → Tb → Option (Int × Tb)) (x2 : Int) (x3 : Int) (t : Tb) : Option (Int × Tb) := if (-2147483648 ≤ x3 ∧ x3 < 2147483648) ∧ -2147483648 ≤ x2 ∧ x2 < 2147483648 then if x2 ≤ x3 then some (0, t) else bnd (x_Gr_append fu x3 (x3 + 1) t) fun _ t5 => rec 2 [x2, (x3 + 1)] [] t5 else none
def xb_Sh_drawPath_e (fu : Nat) (rec : Nat → List Int → List Nat → Tb → Option (Int × Tb)) (x1 : Int) (x2 : Int) (t : Tb) : Option (Int × Tb) := rec 2 [x2, x1] [] t
def xm_Sh_drawPath (fu : Nat) : Nat → Nat → List Int → List Nat → Tb → Option (Int × Tb)
  | 0, _, _, _, _ => none
  | n + 1, pc, a, ks, t => if pc = 2 then xb_Sh_drawPath_2 fu (xm_Sh_drawPath fu n) (a.getD 0 0) (a.getD 1 0) t else none
def x_Sh_drawPath (fu : Nat) (x1 : Int) (x2 : Int) (t : Tb) : Option (Int × Tb) := xb_Sh_drawPath_e fu (xm_Sh_drawPath fu fu) x1 x2 t
set_option maxRecDepth 20000 in
theorem xt_Sh_drawPath_2 {fu : Nat} {rec : Nat → List Int → List Nat → Tb → Option (Int × Tb)} {o : Int × Tb} {Q : Sto → Prop} (hQ : Q (tof o.2)) (hr_2 : ∀ (x2 : Int) (x3 : Int) (t : Tb), rec 2 [x2, x3] [] t = some o → H_Sh_drawPath_2 Q x2 x3 (tof t)) {x2 : Int} {x3 : Int} {t : Tb} (h0 : xb_Sh_drawPath_2 fu rec x2 x3 t = some o) : H_Sh_drawPath_2 Q x2 x3 (tof t) :=
  b_Sh_drawPath_2 (xr_and h0 fun _ h1 => xr_ite h1 (fun z y => by omega) (fun h2 => xr_leafV h2 hQ) (fun h3 => xr_callV h3 (fun _ _ hc => xs_Gr_append hc rfl) fun _ t5 h4 => hr_2 _ _ _ h4))
set_option maxRecDepth 20000 in
theorem xt_Sh_drawPath_e {fu : Nat} {rec : Nat → List Int → List Nat → Tb → Option (Int × Tb)} {o : Int × Tb} {Q : Sto → Prop} (hQ : Q (tof o.2)) (hr_2 : ∀ (x2 : Int) (x3 : Int) (t : Tb), rec 2 [x2, x3] [] t = some o → H_Sh_drawPath_2 Q x2 x3 (tof t)) {x1 : Int} {x2 : Int} {t : Tb} (h0 : xb_Sh_drawPath_e fu rec x1 x2 t = some o) : K_Sh_drawPath x1 x2 (tof t) Q :=
  e_Sh_drawPath (hr_2 _ _ _ h0)
theorem xl_Sh_drawPath {fu : Nat} {o : Int × Tb} {Q : Sto → Prop} (hQ : Q (tof o.2)) : ∀ n : Nat, (∀ (x2 : Int) (x3 : Int) (t : Tb), xm_Sh_drawPath fu n 2 [x2, x3] [] t = some o → H_Sh_drawPath_2 Q x2 x3 (tof t)) := by
  intro n
  induction n with
  | zero => exact fun _ _ _ h => (nomatch h)
  | succ n ih =>
    have i2 := ih
    exact fun _ _ _ h => xt_Sh_drawPath_2 (fu := fu) hQ i2 h
theorem xs_Sh_drawPath {fu : Nat} {x1 : Int} {x2 : Int} {t : Tb} {r : Int} {t' : Tb} {Q : Sto → Prop} (h : x_Sh_drawPath fu x1 x2 t = some (r, t')) (hQ : Q (tof t')) : K_Sh_drawPath x1 x2 (tof t) Q := xt_Sh_drawPath_e (o := (r, t')) hQ (xl_Sh_drawPath hQ fu) h
def xb_Sh_drawRays_4 (fu : Nat) (rec : Nat → List Int → List Nat → Tb → Option (Int × Tb)) (x1 : Int) (x2 : Int) (x3 : Int) (t : Tb) : Option (Int × Tb) := if (-2147483648 ≤ x3 ∧ x3 < 2147483648) ∧ -2147483648 ≤ x2 ∧ x2 < 2147483648 then if x2 ≤ x3 then some (0, t) else bnd (x_Gr_append fu x1 x3 t) fun _ t5 => rec 4 [x1, x2, (x3 + 1)] [] t5 else none
def xb_Sh_drawRays_e (fu : Nat) (rec : Nat → List Int → List Nat → Tb → Option (Int × Tb)) (x1 : Int) (x2 : Int) (t : Tb) : Option (Int × Tb) := rec 4 [x1, x2, (x1 + 1)] [] t
def xm_Sh_drawRays (fu : Nat) : Nat → Nat → List Int → List Nat → Tb → Option (Int × Tb)
  | 0, _, _, _, _ => none
  | n + 1, pc, a, ks, t => if pc = 4 then xb_Sh_drawRays_4 fu (xm_Sh_drawRays fu n) (a.getD 0 0) (a.getD 1 0) (a.getD 2 0) t else none
def x_Sh_drawRays (fu : Nat) (x1 : Int) (x2 : Int) (t : Tb) : Option (Int × Tb) := xb_Sh_drawRays_e fu (xm_Sh_drawRays fu fu) x1 x2 t
set_option maxRecDepth 20000 in
theorem xt_Sh_drawRays_4 {fu : Nat} {rec : Nat → List Int → List Nat → Tb → Option (Int × Tb)} {o : Int × Tb} {Q : Sto → Prop} (hQ : Q (tof o.2)) (hr_4 : ∀ (x1 : Int) (x2 : Int) (x3 : Int) (t : Tb), rec 4 [x1, x2, x3] [] t = some o → H_Sh_drawRays_4 Q x1 x2 x3 (tof t)) {x1 : Int} {x2 : Int} {x3 : Int} {t : Tb} (h0 : xb_Sh_drawRays_4 fu rec x1 x2 x3 t = some o) : H_Sh_drawRays_4 Q x1 x2 x3 (tof t) :=
  b_Sh_drawRays_4 (xr_and h0 fun _ h1 => xr_ite h1 (fun z y => by omega) (fun h2 => xr_leafV h2 hQ) (fun h3 => xr_callV h3 (fun _ _ hc => xs_Gr_append hc rfl) fun _ t5 h4 => hr_4 _ _ _ _ h4))
set_option maxRecDepth 20000 in
theorem xt_Sh_drawRays_e {fu : Nat} {rec : Nat → List Int → List Nat → Tb → Option (Int × Tb)} {o : Int × Tb} {Q : Sto → Prop} (hQ : Q (tof o.2)) (hr_4 : ∀ (x1 : Int) (x2 : Int) (x3 : Int) (t : Tb), rec 4 [x1, x2, x3] [] t = some o → H_Sh_drawRays_4 Q x1 x2 x3 (tof t)) {x1 : Int} {x2 : Int} {t : Tb} (h0 : xb_Sh_drawRays_e fu rec x1 x2 t = some o) : K_Sh_drawRays x1 x2 (tof t) Q :=
  e_Sh_drawRays (hr_4 _ _ _ _ h0)
theorem xl_Sh_drawRays {fu : Nat} {o : Int × Tb} {Q : Sto → Prop} (hQ : Q (tof o.2)) : ∀ n : Nat, (∀ (x1 : Int) (x2 : Int) (x3 : Int) (t : Tb), xm_Sh_drawRays fu n 4 [x1, x2, x3] [] t = some o → H_Sh_drawRays_4 Q x1 x2 x3 (tof t)) := by
  intro n
  induction n with
  | zero => exact fun _ _ _ _ h => (nomatch h)
  | succ n ih =>
    have i4 := ih
    exact fun _ _ _ _ h => xt_Sh_drawRays_4 (fu := fu) hQ i4 h
theorem xs_Sh_drawRays {fu : Nat} {x1 : Int} {x2 : Int} {t : Tb} {r : Int} {t' : Tb} {Q : Sto → Prop} (h : x_Sh_drawRays fu x1 x2 t = some (r, t')) (hQ : Q (tof t')) : K_Sh_drawRays x1 x2 (tof t) Q := xt_Sh_drawRays_e (o := (r, t')) hQ (xl_Sh_drawRays hQ fu) h
def xb_Sh_draw_68 (fu : Nat) (rec : Nat → List Int → List Nat → Tb → Option (Int × Tb)) (x2 : Int) (x3 : Int) (t : Tb) : Option (Int × Tb) := if (-2147483648 ≤ x3 ∧ x3 < 2147483648) ∧ -2147483648 ≤ x2 ∧ x2 < 2147483648 then if x2 ≤ x3 then some (0, t) else bnd (x_Sh_drawRays fu x3 x2 t) fun _ t48 => rec 68 [x2, (x3 + 1)] [] t48 else none
def xb_Sh_draw_e (fu : Nat) (rec : Nat → List Int → List Nat → Tb → Option (Int × Tb)) (x1 : Int) (x2 : Int) (t : Tb) : Option (Int × Tb) := if -2147483648 ≤ x1 ∧ x1 < 2147483648 then if x1 = 0 then bnd (x_Sh_drawPath fu 0 (x2 - 1) t) fun _ t4 => some (0, t4) else if x1 = 1 then bnd (x_Sh_drawPath fu 0 (x2 - 1) t) fun _ t9 => bnd (x_Gr_append fu (x2 - 1) 0 t9) fun _ t14 => some (0, t14) else if x1 = 2 then rec 68 [x2, 0] [] t else if x1 = 3 then bnd (x_Sh_drawRays fu 0 x2 t) fun _ t19 => some (0, t19) else if x1 = 4 then bnd (x_Sh_drawRays fu 0 x2 t) fun _ t24 => bnd (x_Sh_drawPath fu 1 (x2 - 1) t24) fun _ t29 => bnd (x_Gr_append fu (x2 - 1) 1 t29) fun _ t34 => some (0, t34) else some (0, t) else none
def xm_Sh_draw (fu : Nat) : Nat → Nat → List Int → List Nat → Tb → Option (Int × Tb)
  | 0, _, _, _, _ => none
  | n + 1, pc, a, ks, t => if pc = 68 then xb_Sh_draw_68 fu (xm_Sh_draw fu n) (a.getD 0 0) (a.getD 1 0) t else none
def x_Sh_draw (fu : Nat) (x1 : Int) (x2 : Int) (t : Tb) : Option (Int × Tb) := xb_Sh_draw_e fu (xm_Sh_draw fu fu) x1 x2 t
set_option maxRecDepth 20000 in
theorem xt_Sh_draw_68 {fu : Nat} {rec : Nat → List Int → List Nat → Tb → Option (Int × Tb)} {o : Int × Tb} {Q : Sto → Prop} (hQ : Q (tof o.2)) (hr_68 : ∀ (x2 : Int) (x3 : Int) (t : Tb), rec 68 [x2, x3] [] t = some o → H_Sh_draw_68 Q x2 x3 (tof t)) {x2 : Int} {x3 : Int} {t : Tb} (h0 : xb_Sh_draw_68 fu rec x2 x3 t = some o) : H_Sh_draw_68 Q x2 x3 (tof t) :=
  b_Sh_draw_68 (xr_and h0 fun _ h1 => xr_ite h1 (fun z y => by omega) (fun h2 => xr_leafV h2 hQ) (fun h3 => xr_callV h3 (fun _ _ hc => xs_Sh_drawRays hc rfl) fun _ t48 h4 => hr_68 _ _ _ h4))
set_option maxRecDepth 20000 in
theorem xt_Sh_draw_e {fu : Nat} {rec : Nat → List Int → List Nat → Tb → Option (Int × Tb)} {o : Int × Tb} {Q : Sto → Prop} (hQ : Q (tof o.2)) (hr_68 : ∀ (x2 : Int) (x3 : Int) (t : Tb), rec 68 [x2, x3] [] t = some o → H_Sh_draw_68 Q x2 x3 (tof t)) {x1 : Int} {x2 : Int} {t : Tb} (h0 : xb_Sh_draw_e fu rec x1 x2 t = some o) : K_Sh_draw x1 x2 (tof t) Q :=
  e_Sh_draw (xr_and h0 fun _ h5 => xr_sw h5 (fun h6 => ⟨fun y => absurd y (by omega), fun y => absurd y (by omega), fun y => absurd y (by omega), fun y => absurd y (by omega), fun y => absurd y (by omega)⟩) (fun h7 => xr_callV h7 (fun _ _ hc => xs_Sh_drawPath hc rfl) fun _ t4 h9 => xr_leafV h9 hQ) (fun _ h8 => xr_sw h8 (fun h10 => ⟨fun y => absurd y (by omega), fun y => absurd y (by omega), fun y => absurd y (by omega), fun y => absurd y (by omega)⟩) (fun h11 => xr_callV h11 (fun _ _ hc => xs_Sh_drawPath hc rfl) fun _ t9 h13 => xr_callV h13 (fun _ _ hc => xs_Gr_append hc rfl) fun _ t14 h14 => xr_leafV h14 hQ) (fun _ h12 => xr_sw h12 (fun h15 => ⟨fun y => absurd y (by omega), fun y => absurd y (by omega), fun y => absurd y (by omega)⟩) (fun h16 => hr_68 _ _ _ h16) (fun _ h17 => xr_sw h17 (fun h18 => ⟨fun y => absurd y (by omega), fun y => absurd y (by omega)⟩) (fun h19 => xr_callV h19 (fun _ _ hc => xs_Sh_drawRays hc rfl) fun _ t19 h21 => xr_leafV h21 hQ) (fun _ h20 => xr_sw h20 (fun h22 => fun y => absurd y (by omega)) (fun h23 => xr_callV h23 (fun _ _ hc => xs_Sh_drawRays hc rfl) fun _ t24 h25 => xr_callV h25 (fun _ _ hc => xs_Sh_drawPath hc rfl) fun _ t29 h26 => xr_callV h26 (fun _ _ hc => xs_Gr_append hc rfl) fun _ t34 h27 => xr_leafV h27 hQ) (fun _ h24 => fun _ => xr_leafV h24 hQ))))))
theorem xl_Sh_draw {fu : Nat} {o : Int × Tb} {Q : Sto → Prop} (hQ : Q (tof o.2)) : ∀ n : Nat, (∀ (x2 : Int) (x3 : Int) (t : Tb), xm_Sh_draw fu n 68 [x2, x3] [] t = some o → H_Sh_draw_68 Q x2 x3 (tof t)) := by
  intro n
  induction n with
  | zero => exact fun _ _ _ h => (nomatch h)
  | succ n ih =>
    have i68 := ih
    exact fun _ _ _ h => xt_Sh_draw_68 (fu := fu) hQ i68 h
theorem xs_Sh_draw {fu : Nat} {x1 : Int} {x2 : Int} {t : Tb} {r : Int} {t' : Tb} {Q : Sto → Prop} (h : x_Sh_draw fu x1 x2 t = some (r, t')) (hQ : Q (tof t')) : K_Sh_draw x1 x2 (tof t) Q := xt_Sh_draw_e (o := (r, t')) hQ (xl_Sh_draw hQ fu) h
def xb_Tx_lastDigit_e (fu : Nat) (rec : Nat → List Int → List Nat → Tb → Option (Int × Tb)) (t : Tb) : Option (Int × Tb) := if -2147483648 ≤ ((tof t) 15 0) ∧ ((tof t) 15 0) < 2147483648 then if ((tof t) 15 0) < 1 then some ((-1), t) else if -2147483648 ≤ ((tof t) 15 0) ∧ ((tof t) 15 0) < 2147483648 then if ((tof t) 15 0) ≤ 12 then if 0 ≤ (((tof t) 15 0) - 1) ∧ (((tof t) 15 0) - 1) < 12 then if -2147483648 ≤ ((tof t) 16 (Int.toNat (((tof t) 15 0) - 1))) ∧ ((tof t) 16 (Int.toNat (((tof t) 15 0) - 1))) < 2147483648 then if ((tof t) 16 (Int.toNat (((tof t) 15 0) - 1))) < 48 then some ((-1), t) else if -2147483648 ≤ ((tof t) 16 (Int.toNat (((tof t) 15 0) - 1))) ∧ ((tof t) 16 (Int.toNat (((tof t) 15 0) - 1))) < 2147483648 then if 57 < ((tof t) 16 (Int.toNat (((tof t) 15 0) - 1))) then some ((-1), t) else some ((((tof t) 16 (Int.toNat (((tof t) 15 0) - 1))) - 48), t) else none else none else none else some ((-1), t) else none else none
def x_Tx_lastDigit (fu : Nat) (t : Tb) : Option (Int × Tb) := xb_Tx_lastDigit_e fu (fun _ _ _ _ => none) t
set_option maxRecDepth 20000 in
theorem xt_Tx_lastDigit_e {fu : Nat} {rec : Nat → List Int → List Nat → Tb → Option (Int × Tb)} {o : Int × Tb} {Q : Int → Sto → Prop} (hQ : Q o.1 (tof o.2)) {t : Tb} (h0 : xb_Tx_lastDigit_e fu rec t = some o) : K_Tx_lastDigit (tof t) Q :=
  e_Tx_lastDigit (xr_and h0 fun _ h1 => xr_ite h1 (fun z y => by omega) (fun h2 => xr_leaf h2 hQ) (fun h3 => xr_and h3 fun _ h4 => xr_ite h4 (fun z y => by omega) (fun h5 => xr_and h5 fun _ h7 => xr_and h7 fun _ h8 => xr_ite h8 (fun z y => by omega) (fun h9 => xr_leaf h9 hQ) (fun h10 => xr_and h10 fun _ h11 => xr_ite h11 (fun z y => by omega) (fun h12 => xr_leaf h12 hQ) (fun h13 => xr_leaf h13 hQ))) (fun h6 => xr_leaf h6 hQ)))
theorem xs_Tx_lastDigit {fu : Nat} {t : Tb} {r : Int} {t' : Tb} {Q : Int → Sto → Prop} (h : x_Tx_lastDigit fu t = some (r, t')) (hQ : Q r (tof t')) : K_Tx_lastDigit (tof t) Q := xt_Tx_lastDigit_e (o := (r, t')) hQ h
def xb_Cg_reduce_e (fu : Nat) (rec : Nat → List Int → List Nat → Tb → Option (Int × Tb)) (t : Tb) : Option (Int × Tb) := bnd (x_Gr_isConnected fu t) fun r4 t3 => if -2147483648 ≤ r4 ∧ r4 < 2147483648 then if ¬ r4 = 0 then bnd (x_Hi_record fu 187 t3) fun _ t10 => bnd (x_Fi_settle fu 187 t10) fun r16 t15 => bnd (x_Fi_fireSets fu 187 t15) fun r21 t20 => some (r21, t20) else some ((-10003), t3) else none
def x_Cg_reduce (fu : Nat) (t : Tb) : Option (Int × Tb) := xb_Cg_reduce_e fu (fun _ _ _ _ => none) t
set_option maxRecDepth 20000 in
theorem xt_Cg_reduce_e {fu : Nat} {rec : Nat → List Int → List Nat → Tb → Option (Int × Tb)} {o : Int × Tb} {Q : Int → Sto → Prop} (hQ : Q o.1 (tof o.2)) {t : Tb} (h0 : xb_Cg_reduce_e fu rec t = some o) : K_Cg_reduce (tof t) Q :=
  e_Cg_reduce (xr_call h0 (fun _ _ hc => xs_Gr_isConnected hc ⟨rfl, rfl⟩) fun r4 t3 h1 => xr_and h1 fun _ h2 => xr_ite h2 (fun z y => y z) (fun h3 => xr_callV h3 (fun _ _ hc => xs_Hi_record hc rfl) fun _ t10 h5 => xr_call h5 (fun _ _ hc => xs_Fi_settle hc ⟨rfl, rfl⟩) fun r16 t15 h6 => xr_call h6 (fun _ _ hc => xs_Fi_fireSets hc ⟨rfl, rfl⟩) fun r21 t20 h7 => xr_leaf h7 hQ) (fun h4 => xr_leaf h4 hQ))
theorem xs_Cg_reduce {fu : Nat} {t : Tb} {r : Int} {t' : Tb} {Q : Int → Sto → Prop} (h : x_Cg_reduce fu t = some (r, t')) (hQ : Q r (tof t')) : K_Cg_reduce (tof t) Q := xt_Cg_reduce_e (o := (r, t')) hQ h
def xb_Gr_drop_28 (fu : Nat) (rec : Nat → List Int → List Nat → Tb → Option (Int × Tb)) (x2 : Int) (t : Tb) : Option (Int × Tb) := if (-2147483648 ≤ (x2 + 1) ∧ (x2 + 1) < 2147483648) ∧ -2147483648 ≤ ((tof t) 1 1) ∧ ((tof t) 1 1) < 2147483648 then if ((tof t) 1 1) ≤ (x2 + 1) then upB t 1 1 (((tof t) 1 1) - 1) fun t17 => some (0, t17) else if 0 ≤ (x2 + 1) ∧ (x2 + 1) < 20 then if 0 ≤ x2 ∧ x2 < 20 then upB t 2 (Int.toNat x2) ((tof t) 2 (Int.toNat (x2 + 1))) fun t20 => if 0 ≤ (x2 + 1) ∧ (x2 + 1) < 20 then if 0 ≤ x2 ∧ x2 < 20 then upB t20 3 (Int.toNat x2) ((tof t20) 3 (Int.toNat (x2 + 1))) fun t23 => rec 28 [(x2 + 1)] [] t23 else none else none else none else none else none
def xb_Gr_drop_e (fu : Nat) (rec : Nat → List Int → List Nat → Tb → Option (Int × Tb)) (x1 : Int) (t : Tb) : Option (Int × Tb) := bnd (x_Gr_hasEdge fu x1 t) fun r4 t3 => if -2147483648 ≤ r4 ∧ r4 < 2147483648 then if ¬ r4 = 0 then if 0 ≤ x1 ∧ x1 < 20 then if 0 ≤ x1 ∧ x1 < 20 then bnd (x_Gr_countJoining fu ((tof t3) 2 (Int.toNat x1)) ((tof t3) 3 (Int.toNat x1)) (-1) t3) fun _ t12 => rec 28 [x1] [] t12 else none else none else some (0, t3) else none
def xm_Gr_drop (fu : Nat) : Nat → Nat → List Int → List Nat → Tb → Option (Int × Tb)
  | 0, _, _, _, _ => none
  | n + 1, pc, a, ks, t => if pc = 28 then xb_Gr_drop_28 fu (xm_Gr_drop fu n) (a.getD 0 0) t else none
def x_Gr_drop (fu : Nat) (x1 : Int) (t : Tb) : Option (Int × Tb) := xb_Gr_drop_e fu (xm_Gr_drop fu fu) x1 t
set_option maxRecDepth 20000 in
theorem xt_Gr_drop_28 {fu : Nat} {rec : Nat → List Int → List Nat → Tb → Option (Int × Tb)} {o : Int × Tb} {Q : Sto → Prop} (hQ : Q (tof o.2)) (hr_28 : ∀ (x2 : Int) (t : Tb), rec 28 [x2] [] t = some o → H_Gr_drop_28 Q x2 (tof t)) {x2 : Int} {t : Tb} (h0 : xb_Gr_drop_28 fu rec x2 t = some o) : H_Gr_drop_28 Q x2 (tof t) :=
  b_Gr_drop_28 (xr_and h0 fun _ h1 => xr_ite h1 (fun z y => by omega) (fun h2 => xr_up h2 fun t17 h4 => xr_leafV h4 hQ) (fun h3 => xr_and h3 fun _ h5 => xr_and h5 fun _ h6 => xr_up h6 fun t20 h7 => xr_and h7 fun _ h8 => xr_and h8 fun _ h9 => xr_up h9 fun t23 h10 => hr_28 _ _ h10))
set_option maxRecDepth 20000 in
theorem xt_Gr_drop_e {fu : Nat} {rec : Nat → List Int → List Nat → Tb → Option (Int × Tb)} {o : Int × Tb} {Q : Sto → Prop} (hQ : Q (tof o.2)) (hr_28 : ∀ (x2 : Int) (t : Tb), rec 28 [x2] [] t = some o → H_Gr_drop_28 Q x2 (tof t)) {x1 : Int} {t : Tb} (h0 : xb_Gr_drop_e fu rec x1 t = some o) : K_Gr_drop x1 (tof t) Q :=
  e_Gr_drop (xr_call h0 (fun _ _ hc => xs_Gr_hasEdge hc ⟨rfl, rfl⟩) fun r4 t3 h11 => xr_and h11 fun _ h12 => xr_ite h12 (fun z y => y z) (fun h13 => xr_and h13 fun _ h15 => xr_and h15 fun _ h16 => xr_callV h16 (fun _ _ hc => xs_Gr_countJoining hc rfl) fun _ t12 h17 => hr_28 _ _ h17) (fun h14 => xr_leafV h14 hQ))
theorem xl_Gr_drop {fu : Nat} {o : Int × Tb} {Q : Sto → Prop} (hQ : Q (tof o.2)) : ∀ n : Nat, (∀ (x2 : Int) (t : Tb), xm_Gr_drop fu n 28 [x2] [] t = some o → H_Gr_drop_28 Q x2 (tof t)) := by
  intro n
  induction n with
  | zero => exact fun _ _ h => (nomatch h)
  | succ n ih =>
    have i28 := ih
    exact fun _ _ h => xt_Gr_drop_28 (fu := fu) hQ i28 h
theorem xs_Gr_drop {fu : Nat} {x1 : Int} {t : Tb} {r : Int} {t' : Tb} {Q : Sto → Prop} (h : x_Gr_drop fu x1 t = some (r, t')) (hQ : Q (tof t')) : K_Gr_drop x1 (tof t) Q := xt_Gr_drop_e (o := (r, t')) hQ (xl_Gr_drop hQ fu) h
def xb_Cg_removeEdge_e (fu : Nat) (rec : Nat → List Int → List Nat → Tb → Option (Int × Tb)) (x1 : Int) (t : Tb) : Option (Int × Tb) := bnd (x_Gr_hasEdge fu x1 t) fun r4 t3 => if -2147483648 ≤ r4 ∧ r4 < 2147483648 then if ¬ r4 = 0 then bnd (x_Gr_drop fu x1 t3) fun _ t10 => bnd (x_Cg_forgetStates fu t10) fun _ t15 => some (((tof t15) 1 1), t15) else some ((-10001), t3) else none
def x_Cg_removeEdge (fu : Nat) (x1 : Int) (t : Tb) : Option (Int × Tb) := xb_Cg_removeEdge_e fu (fun _ _ _ _ => none) x1 t
set_option maxRecDepth 20000 in
theorem xt_Cg_removeEdge_e {fu : Nat} {rec : Nat → List Int → List Nat → Tb → Option (Int × Tb)} {o : Int × Tb} {Q : Int → Sto → Prop} (hQ : Q o.1 (tof o.2)) {x1 : Int} {t : Tb} (h0 : xb_Cg_removeEdge_e fu rec x1 t = some o) : K_Cg_removeEdge x1 (tof t) Q :=
  e_Cg_removeEdge (xr_call h0 (fun _ _ hc => xs_Gr_hasEdge hc ⟨rfl, rfl⟩) fun r4 t3 h1 => xr_and h1 fun _ h2 => xr_ite h2 (fun z y => y z) (fun h3 => xr_callV h3 (fun _ _ hc => xs_Gr_drop hc rfl) fun _ t10 h5 => xr_callV h5 (fun _ _ hc => xs_Cg_forgetStates hc rfl) fun _ t15 h6 => xr_leaf h6 hQ) (fun h4 => xr_leaf h4 hQ))
theorem xs_Cg_removeEdge {fu : Nat} {x1 : Int} {t : Tb} {r : Int} {t' : Tb} {Q : Int → Sto → Prop} (h : x_Cg_removeEdge fu x1 t = some (r, t')) (hQ : Q r (tof t')) : K_Cg_removeEdge x1 (tof t) Q := xt_Cg_removeEdge_e (o := (r, t')) hQ h
def xb_Cg_reset_e (fu : Nat) (rec : Nat → List Int → List Nat → Tb → Option (Int × Tb)) (x1 : Int) (t : Tb) : Option (Int × Tb) := if -2147483648 ≤ x1 ∧ x1 < 2147483648 then if x1 < 2 then some ((-10002), t) else if -2147483648 ≤ x1 ∧ x1 < 2147483648 then if x1 ≤ 8 then bnd (x_Cg_startAnew fu x1 t) fun _ t7 => some (((tof t) 1 0), t7) else some ((-10002), t) else none else none
def x_Cg_reset (fu : Nat) (x1 : Int) (t : Tb) : Option (Int × Tb) := xb_Cg_reset_e fu (fun _ _ _ _ => none) x1 t
set_option maxRecDepth 20000 in
theorem xt_Cg_reset_e {fu : Nat} {rec : Nat → List Int → List Nat → Tb → Option (Int × Tb)} {o : Int × Tb} {Q : Int → Sto → Prop} (hQ : Q o.1 (tof o.2)) {x1 : Int} {t : Tb} (h0 : xb_Cg_reset_e fu rec x1 t = some o) : K_Cg_reset x1 (tof t) Q :=
  e_Cg_reset (xr_and h0 fun _ h1 => xr_ite h1 (fun z y => by omega) (fun h2 => xr_leaf h2 hQ) (fun h3 => xr_and h3 fun _ h4 => xr_ite h4 (fun z y => by omega) (fun h5 => xr_callV h5 (fun _ _ hc => xs_Cg_startAnew hc rfl) fun _ t7 h7 => xr_leaf h7 hQ) (fun h6 => xr_leaf h6 hQ)))
theorem xs_Cg_reset {fu : Nat} {x1 : Int} {t : Tb} {r : Int} {t' : Tb} {Q : Int → Sto → Prop} (h : x_Cg_reset fu x1 t = some (r, t')) (hQ : Q r (tof t')) : K_Cg_reset x1 (tof t) Q := xt_Cg_reset_e (o := (r, t')) hQ h
def xb_Cg_setChips_e (fu : Nat) (rec : Nat → List Int → List Nat → Tb → Option (Int × Tb)) (x1 : Int) (x2 : Int) (t : Tb) : Option (Int × Tb) := bnd (x_Gr_hasChipsAt fu x1 t) fun r4 t3 => if -2147483648 ≤ r4 ∧ r4 < 2147483648 then if ¬ r4 = 0 then if -2147483648 ≤ x2 ∧ x2 < 2147483648 then if x2 < 0 then some ((-10002), t3) else if -2147483648 ≤ x2 ∧ x2 < 2147483648 then if x2 ≤ 1000 then bnd (x_Hi_record fu 187 t3) fun _ t14 => if 0 ≤ x1 ∧ x1 < 8 then if 0 ≤ x1 ∧ x1 < 8 then upB t14 187 (Int.toNat x1) x2 fun t19 => some (((tof t14) 187 (Int.toNat x1)), t19) else none else none else some ((-10002), t3) else none else none else some ((-10001), t3) else none
def x_Cg_setChips (fu : Nat) (x1 : Int) (x2 : Int) (t : Tb) : Option (Int × Tb) := xb_Cg_setChips_e fu (fun _ _ _ _ => none) x1 x2 t
set_option maxRecDepth 20000 in
theorem xt_Cg_setChips_e {fu : Nat} {rec : Nat → List Int → List Nat → Tb → Option (Int × Tb)} {o : Int × Tb} {Q : Int → Sto → Prop} (hQ : Q o.1 (tof o.2)) {x1 : Int} {x2 : Int} {t : Tb} (h0 : xb_Cg_setChips_e fu rec x1 x2 t = some o) : K_Cg_setChips x1 x2 (tof t) Q :=
  e_Cg_setChips (xr_call h0 (fun _ _ hc => xs_Gr_hasChipsAt hc ⟨rfl, rfl⟩) fun r4 t3 h1 => xr_and h1 fun _ h2 => xr_ite h2 (fun z y => y z) (fun h3 => xr_and h3 fun _ h5 => xr_ite h5 (fun z y => by omega) (fun h6 => xr_leaf h6 hQ) (fun h7 => xr_and h7 fun _ h8 => xr_ite h8 (fun z y => by omega) (fun h9 => xr_callV h9 (fun _ _ hc => xs_Hi_record hc rfl) fun _ t14 h11 => xr_and h11 fun _ h12 => xr_and h12 fun _ h13 => xr_up h13 fun t19 h14 => xr_leaf h14 hQ) (fun h10 => xr_leaf h10 hQ))) (fun h4 => xr_leaf h4 hQ))
theorem xs_Cg_setChips {fu : Nat} {x1 : Int} {x2 : Int} {t : Tb} {r : Int} {t' : Tb} {Q : Int → Sto → Prop} (h : x_Cg_setChips fu x1 x2 t = some (r, t')) (hQ : Q r (tof t')) : K_Cg_setChips x1 x2 (tof t) Q := xt_Cg_setChips_e (o := (r, t')) hQ h
def xb_Cg_setSink_e (fu : Nat) (rec : Nat → List Int → List Nat → Tb → Option (Int × Tb)) (x1 : Int) (t : Tb) : Option (Int × Tb) := bnd (x_Gr_hasNode fu x1 t) fun r4 t3 => if -2147483648 ≤ r4 ∧ r4 < 2147483648 then if ¬ r4 = 0 then if (-2147483648 ≤ x1 ∧ x1 < 2147483648) ∧ -2147483648 ≤ ((tof t3) 1 2) ∧ ((tof t3) 1 2) < 2147483648 then if x1 = ((tof t3) 1 2) then some (((tof t3) 1 2), t3) else upB t3 1 2 x1 fun t10 => if 0 ≤ x1 ∧ x1 < 8 then upB t10 187 (Int.toNat x1) 0 fun t12 => bnd (x_Cg_forgetStates fu t12) fun _ t15 => some (((tof t3) 1 2), t15) else none else none else some ((-10001), t3) else none
def x_Cg_setSink (fu : Nat) (x1 : Int) (t : Tb) : Option (Int × Tb) := xb_Cg_setSink_e fu (fun _ _ _ _ => none) x1 t
set_option maxRecDepth 20000 in
theorem xt_Cg_setSink_e {fu : Nat} {rec : Nat → List Int → List Nat → Tb → Option (Int × Tb)} {o : Int × Tb} {Q : Int → Sto → Prop} (hQ : Q o.1 (tof o.2)) {x1 : Int} {t : Tb} (h0 : xb_Cg_setSink_e fu rec x1 t = some o) : K_Cg_setSink x1 (tof t) Q :=
  e_Cg_setSink (xr_call h0 (fun _ _ hc => xs_Gr_hasNode hc ⟨rfl, rfl⟩) fun r4 t3 h1 => xr_and h1 fun _ h2 => xr_ite h2 (fun z y => y z) (fun h3 => xr_and h3 fun _ h5 => xr_ite h5 (fun z => z) (fun h6 => xr_leaf h6 hQ) (fun h7 => xr_up h7 fun t10 h8 => xr_and h8 fun _ h9 => xr_up h9 fun t12 h10 => xr_callV h10 (fun _ _ hc => xs_Cg_forgetStates hc rfl) fun _ t15 h11 => xr_leaf h11 hQ)) (fun h4 => xr_leaf h4 hQ))
theorem xs_Cg_setSink {fu : Nat} {x1 : Int} {t : Tb} {r : Int} {t' : Tb} {Q : Int → Sto → Prop} (h : x_Cg_setSink fu x1 t = some (r, t')) (hQ : Q r (tof t')) : K_Cg_setSink x1 (tof t) Q := xt_Cg_setSink_e (o := (r, t')) hQ h
def xb_Cg_stabilize_e (fu : Nat) (rec : Nat → List Int → List Nat → Tb → Option (Int × Tb)) (t : Tb) : Option (Int × Tb) := bnd (x_Gr_isConnected fu t) fun r4 t3 => if -2147483648 ≤ r4 ∧ r4 < 2147483648 then if ¬ r4 = 0 then bnd (x_Hi_record fu 187 t3) fun _ t10 => bnd (x_Fi_settle fu 187 t10) fun r16 t15 => some (r16, t15) else some ((-10003), t3) else none
def x_Cg_stabilize (fu : Nat) (t : Tb) : Option (Int × Tb) := xb_Cg_stabilize_e fu (fun _ _ _ _ => none) t
set_option maxRecDepth 20000 in
theorem xt_Cg_stabilize_e {fu : Nat} {rec : Nat → List Int → List Nat → Tb → Option (Int × Tb)} {o : Int × Tb} {Q : Int → Sto → Prop} (hQ : Q o.1 (tof o.2)) {t : Tb} (h0 : xb_Cg_stabilize_e fu rec t = some o) : K_Cg_stabilize (tof t) Q :=
  e_Cg_stabilize (xr_call h0 (fun _ _ hc => xs_Gr_isConnected hc ⟨rfl, rfl⟩) fun r4 t3 h1 => xr_and h1 fun _ h2 => xr_ite h2 (fun z y => y z) (fun h3 => xr_callV h3 (fun _ _ hc => xs_Hi_record hc rfl) fun _ t10 h5 => xr_call h5 (fun _ _ hc => xs_Fi_settle hc ⟨rfl, rfl⟩) fun r16 t15 h6 => xr_leaf h6 hQ) (fun h4 => xr_leaf h4 hQ))
theorem xs_Cg_stabilize {fu : Nat} {t : Tb} {r : Int} {t' : Tb} {Q : Int → Sto → Prop} (h : x_Cg_stabilize fu t = some (r, t')) (hQ : Q r (tof t')) : K_Cg_stabilize (tof t) Q := xt_Cg_stabilize_e (o := (r, t')) hQ h
def xb_JI_bitCount_e (fu : Nat) (rec : Nat → List Int → List Nat → Tb → Option (Int × Tb)) (x0 : Int) (t : Tb) : Option (Int × Tb) := some ((iand (((iand (((iand (x0 - (iand (iushr x0 1) 1431655765)) 858993459) + (iand (iushr (x0 - (iand (iushr x0 1) 1431655765)) 2) 858993459)) + (iushr ((iand (x0 - (iand (iushr x0 1) 1431655765)) 858993459) + (iand (iushr (x0 - (iand (iushr x0 1) 1431655765)) 2) 858993459)) 4)) 252645135) + (iushr (iand (((iand (x0 - (iand (iushr x0 1) 1431655765)) 858993459) + (iand (iushr (x0 - (iand (iushr x0 1) 1431655765)) 2) 858993459)) + (iushr ((iand (x0 - (iand (iushr x0 1) 1431655765)) 858993459) + (iand (iushr (x0 - (iand (iushr x0 1) 1431655765)) 2) 858993459)) 4)) 252645135) 8)) + (iushr ((iand (((iand (x0 - (iand (iushr x0 1) 1431655765)) 858993459) + (iand (iushr (x0 - (iand (iushr x0 1) 1431655765)) 2) 858993459)) + (iushr ((iand (x0 - (iand (iushr x0 1) 1431655765)) 858993459) + (iand (iushr (x0 - (iand (iushr x0 1) 1431655765)) 2) 858993459)) 4)) 252645135) + (iushr (iand (((iand (x0 - (iand (iushr x0 1) 1431655765)) 858993459) + (iand (iushr (x0 - (iand (iushr x0 1) 1431655765)) 2) 858993459)) + (iushr ((iand (x0 - (iand (iushr x0 1) 1431655765)) 858993459) + (iand (iushr (x0 - (iand (iushr x0 1) 1431655765)) 2) 858993459)) 4)) 252645135) 8)) 16)) 63), t)
def x_JI_bitCount (fu : Nat) (x0 : Int) (t : Tb) : Option (Int × Tb) := xb_JI_bitCount_e fu (fun _ _ _ _ => none) x0 t
set_option maxRecDepth 20000 in
theorem xt_JI_bitCount_e {fu : Nat} {rec : Nat → List Int → List Nat → Tb → Option (Int × Tb)} {o : Int × Tb} {Q : Int → Sto → Prop} (hQ : Q o.1 (tof o.2)) {x0 : Int} {t : Tb} (h0 : xb_JI_bitCount_e fu rec x0 t = some o) : K_JI_bitCount x0 (tof t) Q :=
  e_JI_bitCount (xr_leaf h0 hQ)
theorem xs_JI_bitCount {fu : Nat} {x0 : Int} {t : Tb} {r : Int} {t' : Tb} {Q : Int → Sto → Prop} (h : x_JI_bitCount fu x0 t = some (r, t')) (hQ : Q r (tof t')) : K_JI_bitCount x0 (tof t) Q := xt_JI_bitCount_e (o := (r, t')) hQ h
def xb_Gr_isSpanningTree_e (fu : Nat) (rec : Nat → List Int → List Nat → Tb → Option (Int × Tb)) (x1 : Int) (t : Tb) : Option (Int × Tb) := if -2147483648 ≤ x1 ∧ x1 < 2147483648 then if x1 < 0 then some (0, t) else bnd (x_Gr_allEdges fu t) fun r6 t5 => if -2147483648 ≤ (iand x1 (ixor r6 (-1))) ∧ (iand x1 (ixor r6 (-1))) < 2147483648 then if ¬ (iand x1 (ixor r6 (-1))) = 0 then some (0, t5) else bnd (x_JI_bitCount fu x1 t5) fun r13 t12 => if (-2147483648 ≤ r13 ∧ r13 < 2147483648) ∧ -2147483648 ≤ (((tof t12) 1 0) - 1) ∧ (((tof t12) 1 0) - 1) < 2147483648 then if ¬ r13 = (((tof t12) 1 0) - 1) then some (0, t12) else bnd (x_Gr_findParts fu x1 t12) fun r20 t19 => if -2147483648 ≤ r20 ∧ r20 < 2147483648 then if ¬ r20 = 1 then some (0, t19) else some (1, t19) else none else none else none else none
def x_Gr_isSpanningTree (fu : Nat) (x1 : Int) (t : Tb) : Option (Int × Tb) := xb_Gr_isSpanningTree_e fu (fun _ _ _ _ => none) x1 t
set_option maxRecDepth 20000 in
theorem xt_Gr_isSpanningTree_e {fu : Nat} {rec : Nat → List Int → List Nat → Tb → Option (Int × Tb)} {o : Int × Tb} {Q : Int → Sto → Prop} (hQ : Q o.1 (tof o.2)) {x1 : Int} {t : Tb} (h0 : xb_Gr_isSpanningTree_e fu rec x1 t = some o) : K_Gr_isSpanningTree x1 (tof t) Q :=
  e_Gr_isSpanningTree (xr_and h0 fun _ h1 => xr_ite h1 (fun z y => by omega) (fun h2 => xr_leaf h2 hQ) (fun h3 => xr_call h3 (fun _ _ hc => xs_Gr_allEdges hc ⟨rfl, rfl⟩) fun r6 t5 h4 => xr_and h4 fun _ h5 => xr_ite h5 (fun z y => y z) (fun h6 => xr_leaf h6 hQ) (fun h7 => xr_call h7 (fun _ _ hc => xs_JI_bitCount hc ⟨rfl, rfl⟩) fun r13 t12 h8 => xr_and h8 fun _ h9 => xr_ite h9 (fun z y => y z) (fun h10 => xr_leaf h10 hQ) (fun h11 => xr_call h11 (fun _ _ hc => xs_Gr_findParts hc ⟨rfl, rfl⟩) fun r20 t19 h12 => xr_and h12 fun _ h13 => xr_ite h13 (fun z y => y z) (fun h14 => xr_leaf h14 hQ) (fun h15 => xr_leaf h15 hQ)))))
theorem xs_Gr_isSpanningTree {fu : Nat} {x1 : Int} {t : Tb} {r : Int} {t' : Tb} {Q : Int → Sto → Prop} (h : x_Gr_isSpanningTree fu x1 t = some (r, t')) (hQ : Q r (tof t')) : K_Gr_isSpanningTree x1 (tof t) Q := xt_Gr_isSpanningTree_e (o := (r, t')) hQ h
def xb_Tr_isIn_e (fu : Nat) (rec : Nat → List Int → List Nat → Tb → Option (Int × Tb)) (x0 : Int) (x1 : Int) (t : Tb) : Option (Int × Tb) := if -2147483648 ≤ (iand (ishr x0 x1) 1) ∧ (iand (ishr x0 x1) 1) < 2147483648 then if (iand (ishr x0 x1) 1) = 0 then some (0, t) else some (1, t) else none
def x_Tr_isIn (fu : Nat) (x0 : Int) (x1 : Int) (t : Tb) : Option (Int × Tb) := xb_Tr_isIn_e fu (fun _ _ _ _ => none) x0 x1 t
set_option maxRecDepth 20000 in
theorem xt_Tr_isIn_e {fu : Nat} {rec : Nat → List Int → List Nat → Tb → Option (Int × Tb)} {o : Int × Tb} {Q : Int → Sto → Prop} (hQ : Q o.1 (tof o.2)) {x0 : Int} {x1 : Int} {t : Tb} (h0 : xb_Tr_isIn_e fu rec x0 x1 t = some o) : K_Tr_isIn x0 x1 (tof t) Q :=
  e_Tr_isIn (xr_and h0 fun _ h1 => xr_ite h1 (fun z => z) (fun h2 => xr_leaf h2 hQ) (fun h3 => xr_leaf h3 hQ))
theorem xs_Tr_isIn {fu : Nat} {x0 : Int} {x1 : Int} {t : Tb} {r : Int} {t' : Tb} {Q : Int → Sto → Prop} (h : x_Tr_isIn fu x0 x1 t = some (r, t')) (hQ : Q r (tof t')) : K_Tr_isIn x0 x1 (tof t) Q := xt_Tr_isIn_e (o := (r, t')) hQ h
def xj_Tr_lowestBorderEdge_2_J16 (fu : Nat) (rec : Nat → List Int → List Nat → Tb → Option (Int × Tb)) (x1 : Int) (x2 : Int) (x3 : Int) (t12 : Tb) (v15 : Int) : Option (Int × Tb) := if -2147483648 ≤ v15 ∧ v15 < 2147483648 then if v15 = 0 then rec 2 [x1, x2, (x3 + 1)] [] t12 else bnd (x_Tr_isIn fu x2 x3 t12) fun r24 t23 => if -2147483648 ≤ r24 ∧ r24 < 2147483648 then if ¬ r24 = 0 then rec 2 [x1, x2, (x3 + 1)] [] t23 else some (x3, t23) else none else none
def xb_Tr_lowestBorderEdge_2 (fu : Nat) (rec : Nat → List Int → List Nat → Tb → Option (Int × Tb)) (x1 : Int) (x2 : Int) (x3 : Int) (t : Tb) : Option (Int × Tb) := if (-2147483648 ≤ x3 ∧ x3 < 2147483648) ∧ -2147483648 ≤ ((tof t) 1 1) ∧ ((tof t) 1 1) < 2147483648 then if ((tof t) 1 1) ≤ x3 then some ((-1), t) else if 0 ≤ x3 ∧ x3 < 20 then bnd (x_Tr_isIn fu x1 ((tof t) 2 (Int.toNat x3)) t) fun r7 t6 => if 0 ≤ x3 ∧ x3 < 20 then bnd (x_Tr_isIn fu x1 ((tof t6) 3 (Int.toNat x3)) t6) fun r13 t12 => if (-2147483648 ≤ r7 ∧ r7 < 2147483648) ∧ -2147483648 ≤ r13 ∧ r13 < 2147483648 then if r7 = r13 then xj_Tr_lowestBorderEdge_2_J16 fu rec x1 x2 x3 t12 0 else xj_Tr_lowestBorderEdge_2_J16 fu rec x1 x2 x3 t12 1 else none else none else none else none
def xb_Tr_lowestBorderEdge_e (fu : Nat) (rec : Nat → List Int → List Nat → Tb → Option (Int × Tb)) (x1 : Int) (x2 : Int) (t : Tb) : Option (Int × Tb) := rec 2 [x1, x2, 0] [] t
def xm_Tr_lowestBorderEdge (fu : Nat) : Nat → Nat → List Int → List Nat → Tb → Option (Int × Tb)
  | 0, _, _, _, _ => none
  | n + 1, pc, a, ks, t => if pc = 2 then xb_Tr_lowestBorderEdge_2 fu (xm_Tr_lowestBorderEdge fu n) (a.getD 0 0) (a.getD 1 0) (a.getD 2 0) t else none
def x_Tr_lowestBorderEdge (fu : Nat) (x1 : Int) (x2 : Int) (t : Tb) : Option (Int × Tb) := xb_Tr_lowestBorderEdge_e fu (xm_Tr_lowestBorderEdge fu fu) x1 x2 t
set_option maxRecDepth 20000 in
theorem xt_Tr_lowestBorderEdge_2 {fu : Nat} {rec : Nat → List Int → List Nat → Tb → Option (Int × Tb)} {o : Int × Tb} {Q : Int → Sto → Prop} (hQ : Q o.1 (tof o.2)) (hr_2 : ∀ (x1 : Int) (x2 : Int) (x3 : Int) (t : Tb), rec 2 [x1, x2, x3] [] t = some o → H_Tr_lowestBorderEdge_2 Q x1 x2 x3 (tof t)) {x1 : Int} {x2 : Int} {x3 : Int} {t : Tb} (h0 : xb_Tr_lowestBorderEdge_2 fu rec x1 x2 x3 t = some o) : H_Tr_lowestBorderEdge_2 Q x1 x2 x3 (tof t) :=
  b_Tr_lowestBorderEdge_2 (xr_and h0 fun _ h1 => xr_ite h1 (fun z y => by omega) (fun h2 => xr_leaf h2 hQ) (fun h3 => xr_and h3 fun _ h4 => xr_call h4 (fun _ _ hc => xs_Tr_isIn hc ⟨rfl, rfl⟩) fun r7 t6 h5 => xr_and h5 fun _ h6 => xr_call h6 (fun _ _ hc => xs_Tr_isIn hc ⟨rfl, rfl⟩) fun r13 t12 h7 => ⟨fun v15 => xj_Tr_lowestBorderEdge_2_J16 fu rec x1 x2 x3 t12 v15 = some o, fun v15 h8 => xr_and h8 fun _ h10 => xr_ite h10 (fun z => z) (fun h11 => hr_2 _ _ _ _ h11) (fun h12 => xr_call h12 (fun _ _ hc => xs_Tr_isIn hc ⟨rfl, rfl⟩) fun r24 t23 h13 => xr_and h13 fun _ h14 => xr_ite h14 (fun z y => y z) (fun h15 => hr_2 _ _ _ _ h15) (fun h16 => xr_leaf h16 hQ)), xr_and h7 fun _ h17 => xr_ite h17 (fun z => z) (fun h18 => h18) (fun h19 => h19)⟩))
set_option maxRecDepth 20000 in
theorem xt_Tr_lowestBorderEdge_e {fu : Nat} {rec : Nat → List Int → List Nat → Tb → Option (Int × Tb)} {o : Int × Tb} {Q : Int → Sto → Prop} (hQ : Q o.1 (tof o.2)) (hr_2 : ∀ (x1 : Int) (x2 : Int) (x3 : Int) (t : Tb), rec 2 [x1, x2, x3] [] t = some o → H_Tr_lowestBorderEdge_2 Q x1 x2 x3 (tof t)) {x1 : Int} {x2 : Int} {t : Tb} (h0 : xb_Tr_lowestBorderEdge_e fu rec x1 x2 t = some o) : K_Tr_lowestBorderEdge x1 x2 (tof t) Q :=
  e_Tr_lowestBorderEdge (hr_2 _ _ _ _ h0)
theorem xl_Tr_lowestBorderEdge {fu : Nat} {o : Int × Tb} {Q : Int → Sto → Prop} (hQ : Q o.1 (tof o.2)) : ∀ n : Nat, (∀ (x1 : Int) (x2 : Int) (x3 : Int) (t : Tb), xm_Tr_lowestBorderEdge fu n 2 [x1, x2, x3] [] t = some o → H_Tr_lowestBorderEdge_2 Q x1 x2 x3 (tof t)) := by
  intro n
  induction n with
  | zero => exact fun _ _ _ _ h => (nomatch h)
  | succ n ih =>
    have i2 := ih
    exact fun _ _ _ _ h => xt_Tr_lowestBorderEdge_2 (fu := fu) hQ i2 h
theorem xs_Tr_lowestBorderEdge {fu : Nat} {x1 : Int} {x2 : Int} {t : Tb} {r : Int} {t' : Tb} {Q : Int → Sto → Prop} (h : x_Tr_lowestBorderEdge fu x1 x2 t = some (r, t')) (hQ : Q r (tof t')) : K_Tr_lowestBorderEdge x1 x2 (tof t) Q := xt_Tr_lowestBorderEdge_e (o := (r, t')) hQ (xl_Tr_lowestBorderEdge hQ fu) h
def xb_Tr_unmarkedEnd_e (fu : Nat) (rec : Nat → List Int → List Nat → Tb → Option (Int × Tb)) (x1 : Int) (x2 : Int) (t : Tb) : Option (Int × Tb) := if 0 ≤ x1 ∧ x1 < 20 then bnd (x_Tr_isIn fu x2 ((tof t) 2 (Int.toNat x1)) t) fun r5 t4 => if -2147483648 ≤ r5 ∧ r5 < 2147483648 then if r5 = 0 then if 0 ≤ x1 ∧ x1 < 20 then some (((tof t4) 2 (Int.toNat x1)), t4) else none else if 0 ≤ x1 ∧ x1 < 20 then some (((tof t4) 3 (Int.toNat x1)), t4) else none else none else none
def x_Tr_unmarkedEnd (fu : Nat) (x1 : Int) (x2 : Int) (t : Tb) : Option (Int × Tb) := xb_Tr_unmarkedEnd_e fu (fun _ _ _ _ => none) x1 x2 t
set_option maxRecDepth 20000 in
theorem xt_Tr_unmarkedEnd_e {fu : Nat} {rec : Nat → List Int → List Nat → Tb → Option (Int × Tb)} {o : Int × Tb} {Q : Int → Sto → Prop} (hQ : Q o.1 (tof o.2)) {x1 : Int} {x2 : Int} {t : Tb} (h0 : xb_Tr_unmarkedEnd_e fu rec x1 x2 t = some o) : K_Tr_unmarkedEnd x1 x2 (tof t) Q :=
  e_Tr_unmarkedEnd (xr_and h0 fun _ h1 => xr_call h1 (fun _ _ hc => xs_Tr_isIn hc ⟨rfl, rfl⟩) fun r5 t4 h2 => xr_and h2 fun _ h3 => xr_ite h3 (fun z => z) (fun h4 => xr_and h4 fun _ h6 => xr_leaf h6 hQ) (fun h5 => xr_and h5 fun _ h7 => xr_leaf h7 hQ))
theorem xs_Tr_unmarkedEnd {fu : Nat} {x1 : Int} {x2 : Int} {t : Tb} {r : Int} {t' : Tb} {Q : Int → Sto → Prop} (h : x_Tr_unmarkedEnd fu x1 x2 t = some (r, t')) (hQ : Q r (tof t')) : K_Tr_unmarkedEnd x1 x2 (tof t) Q := xt_Tr_unmarkedEnd_e (o := (r, t')) hQ h
def xb_Tr_toStateOf_23 (fu : Nat) (rec : Nat → List Int → List Nat → Tb → Option (Int × Tb)) (x1 : Int) (k2 : Nat) (x3 : Int) (x4 : Int) (x5 : Int) (t : Tb) : Option (Int × Tb) := if arb SC k2 1 8 = true then if (-2147483648 ≤ x5 ∧ x5 < 2147483648) ∧ -2147483648 ≤ ((tof t) 1 1) ∧ ((tof t) 1 1) < 2147483648 then if ((tof t) 1 1) ≤ x5 then some (0, t) else bnd (x_Tr_lowestBorderEdge fu x4 x3 t) fun r11 t10 => bnd (x_Gr_hasEdge fu r11 t10) fun r16 t15 => if -2147483648 ≤ r16 ∧ r16 < 2147483648 then if ¬ r16 = 0 then bnd (x_Tr_unmarkedEnd fu r11 x4 t15) fun r23 t22 => if 0 ≤ r23 ∧ r23 < 8 then if 0 ≤ r23 ∧ r23 < 8 then upB t22 54 (Int.toNat r23) (((tof t22) 54 (Int.toNat r23)) + 1) fun t27 => if -2147483648 ≤ (iand (ishr x1 r11) 1) ∧ (iand (ishr x1 r11) 1) < 2147483648 then if (iand (ishr x1 r11) 1) = 0 then rec 23 [x1, (ior x3 (ishl 1 r11)), x4, (x5 + 1)] [k2] t27 else bnd (x_Gr_degreeOf fu r23 t27) fun r33 t32 => if 0 ≤ r23 ∧ r23 < 8 then if 0 ≤ r23 ∧ r23 < 8 then upB t32 k2 (Int.toNat r23) (r33 - ((tof t32) 54 (Int.toNat r23))) fun t37 => rec 23 [x1, (ior x3 (ishl 1 r11)), (ior x4 (ishl 1 r23)), (x5 + 1)] [k2] t37 else none else none else none else none else none else some (0, t15) else none else none else none
def xb_Tr_toStateOf_e (fu : Nat) (rec : Nat → List Int → List Nat → Tb → Option (Int × Tb)) (x1 : Int) (k2 : Nat) (t : Tb) : Option (Int × Tb) := if arb SC k2 1 8 = true then bnd (x_Cg_clearChips fu 54 t) fun _ t3 => rec 23 [x1, 0, (ishl 1 ((tof t3) 1 2)), 0] [k2] t3 else none
def xm_Tr_toStateOf (fu : Nat) : Nat → Nat → List Int → List Nat → Tb → Option (Int × Tb)
  | 0, _, _, _, _ => none
  | n + 1, pc, a, ks, t => if pc = 23 then xb_Tr_toStateOf_23 fu (xm_Tr_toStateOf fu n) (a.getD 0 0) (ks.getD 0 0) (a.getD 1 0) (a.getD 2 0) (a.getD 3 0) t else none
def x_Tr_toStateOf (fu : Nat) (x1 : Int) (k2 : Nat) (t : Tb) : Option (Int × Tb) := xb_Tr_toStateOf_e fu (xm_Tr_toStateOf fu fu) x1 k2 t
set_option maxRecDepth 20000 in
theorem xt_Tr_toStateOf_23 {fu : Nat} {rec : Nat → List Int → List Nat → Tb → Option (Int × Tb)} {o : Int × Tb} {Q : Sto → Prop} (hQ : Q (tof o.2)) (hr_23 : ∀ (x1 : Int) (k2 : Nat) (x3 : Int) (x4 : Int) (x5 : Int) (t : Tb), rec 23 [x1, x3, x4, x5] [k2] t = some o → H_Tr_toStateOf_23 Q x1 k2 x3 x4 x5 (tof t)) {x1 : Int} {k2 : Nat} {x3 : Int} {x4 : Int} {x5 : Int} {t : Tb} (h0 : xb_Tr_toStateOf_23 fu rec x1 k2 x3 x4 x5 t = some o) : H_Tr_toStateOf_23 Q x1 k2 x3 x4 x5 (tof t) := by
  unfold xb_Tr_toStateOf_23 at h0
  obtain ⟨a0, h0⟩ := xr_and h0 (R := _ = some o) (fun _ z => z)
  exact b_Tr_toStateOf_23 (arb_ar a0) (xr_and h0 fun _ h1 => xr_ite h1 (fun z y => by omega) (fun h2 => xr_leafV h2 hQ) (fun h3 => xr_call h3 (fun _ _ hc => xs_Tr_lowestBorderEdge hc ⟨rfl, rfl⟩) fun r11 t10 h4 => xr_call h4 (fun _ _ hc => xs_Gr_hasEdge hc ⟨rfl, rfl⟩) fun r16 t15 h5 => xr_and h5 fun _ h6 => xr_ite h6 (fun z y => y z) (fun h7 => xr_call h7 (fun _ _ hc => xs_Tr_unmarkedEnd hc ⟨rfl, rfl⟩) fun r23 t22 h9 => xr_and h9 fun _ h10 => xr_and h10 fun _ h11 => xr_up h11 fun t27 h12 => xr_and h12 fun _ h13 => xr_ite h13 (fun z => z) (fun h14 => hr_23 _ _ _ _ _ _ h14) (fun h15 => xr_call h15 (fun _ _ hc => xs_Gr_degreeOf hc ⟨rfl, rfl⟩) fun r33 t32 h16 => xr_and h16 fun _ h17 => xr_and h17 fun _ h18 => xr_up h18 fun t37 h19 => hr_23 _ _ _ _ _ _ h19)) (fun h8 => xr_leafV h8 hQ)))
set_option maxRecDepth 20000 in
theorem xt_Tr_toStateOf_e {fu : Nat} {rec : Nat → List Int → List Nat → Tb → Option (Int × Tb)} {o : Int × Tb} {Q : Sto → Prop} (hQ : Q (tof o.2)) (hr_23 : ∀ (x1 : Int) (k2 : Nat) (x3 : Int) (x4 : Int) (x5 : Int) (t : Tb), rec 23 [x1, x3, x4, x5] [k2] t = some o → H_Tr_toStateOf_23 Q x1 k2 x3 x4 x5 (tof t)) {x1 : Int} {k2 : Nat} {t : Tb} (h0 : xb_Tr_toStateOf_e fu rec x1 k2 t = some o) : K_Tr_toStateOf x1 k2 (tof t) Q := by
  unfold xb_Tr_toStateOf_e at h0
  obtain ⟨a0, h0⟩ := xr_and h0 (R := _ = some o) (fun _ z => z)
  exact e_Tr_toStateOf (arb_ar a0) (xr_callV h0 (fun _ _ hc => xs_Cg_clearChips hc rfl) fun _ t3 h20 => hr_23 _ _ _ _ _ _ h20)
theorem xl_Tr_toStateOf {fu : Nat} {o : Int × Tb} {Q : Sto → Prop} (hQ : Q (tof o.2)) : ∀ n : Nat, (∀ (x1 : Int) (k2 : Nat) (x3 : Int) (x4 : Int) (x5 : Int) (t : Tb), xm_Tr_toStateOf fu n 23 [x1, x3, x4, x5] [k2] t = some o → H_Tr_toStateOf_23 Q x1 k2 x3 x4 x5 (tof t)) := by
  intro n
  induction n with
  | zero => exact fun _ _ _ _ _ _ h => (nomatch h)
  | succ n ih =>
    have i23 := ih
    exact fun _ _ _ _ _ _ h => xt_Tr_toStateOf_23 (fu := fu) hQ i23 h
theorem xs_Tr_toStateOf {fu : Nat} {x1 : Int} {k2 : Nat} {t : Tb} {r : Int} {t' : Tb} {Q : Sto → Prop} (h : x_Tr_toStateOf fu x1 k2 t = some (r, t')) (hQ : Q (tof t')) : K_Tr_toStateOf x1 k2 (tof t) Q := xt_Tr_toStateOf_e (o := (r, t')) hQ (xl_Tr_toStateOf hQ fu) h
def xb_Cg_takeTree_e (fu : Nat) (rec : Nat → List Int → List Nat → Tb → Option (Int × Tb)) (x1 : Int) (t : Tb) : Option (Int × Tb) := bnd (x_Gr_isSpanningTree fu x1 t) fun r4 t3 => if -2147483648 ≤ r4 ∧ r4 < 2147483648 then if ¬ r4 = 0 then bnd (x_Hi_record fu 187 t3) fun _ t10 => bnd (x_Tr_toStateOf fu x1 187 t10) fun _ t15 => bnd (x_Cg_sumOf fu 187 t15) fun r21 t20 => some (r21, t20) else some ((-10002), t3) else none
def x_Cg_takeTree (fu : Nat) (x1 : Int) (t : Tb) : Option (Int × Tb) := xb_Cg_takeTree_e fu (fun _ _ _ _ => none) x1 t
set_option maxRecDepth 20000 in
theorem xt_Cg_takeTree_e {fu : Nat} {rec : Nat → List Int → List Nat → Tb → Option (Int × Tb)} {o : Int × Tb} {Q : Int → Sto → Prop} (hQ : Q o.1 (tof o.2)) {x1 : Int} {t : Tb} (h0 : xb_Cg_takeTree_e fu rec x1 t = some o) : K_Cg_takeTree x1 (tof t) Q :=
  e_Cg_takeTree (xr_call h0 (fun _ _ hc => xs_Gr_isSpanningTree hc ⟨rfl, rfl⟩) fun r4 t3 h1 => xr_and h1 fun _ h2 => xr_ite h2 (fun z y => y z) (fun h3 => xr_callV h3 (fun _ _ hc => xs_Hi_record hc rfl) fun _ t10 h5 => xr_callV h5 (fun _ _ hc => xs_Tr_toStateOf hc rfl) fun _ t15 h6 => xr_call h6 (fun _ _ hc => xs_Cg_sumOf hc ⟨rfl, rfl⟩) fun r21 t20 h7 => xr_leaf h7 hQ) (fun h4 => xr_leaf h4 hQ))
theorem xs_Cg_takeTree {fu : Nat} {x1 : Int} {t : Tb} {r : Int} {t' : Tb} {Q : Int → Sto → Prop} (h : x_Cg_takeTree fu x1 t = some (r, t')) (hQ : Q r (tof t')) : K_Cg_takeTree x1 (tof t) Q := xt_Cg_takeTree_e (o := (r, t')) hQ h
def xb_Tr_treeOf_25 (fu : Nat) (rec : Nat → List Int → List Nat → Tb → Option (Int × Tb)) (k1 : Nat) (x2 : Int) (x3 : Int) (x4 : Int) (x5 : Int) (t : Tb) : Option (Int × Tb) := if arb SC k1 1 8 = true then if (-2147483648 ≤ x5 ∧ x5 < 2147483648) ∧ -2147483648 ≤ ((tof t) 1 1) ∧ ((tof t) 1 1) < 2147483648 then if ((tof t) 1 1) ≤ x5 then some (x2, t) else bnd (x_Tr_lowestBorderEdge fu x4 x3 t) fun r11 t10 => bnd (x_Gr_hasEdge fu r11 t10) fun r16 t15 => if -2147483648 ≤ r16 ∧ r16 < 2147483648 then if ¬ r16 = 0 then bnd (x_Tr_unmarkedEnd fu r11 x4 t15) fun r23 t22 => if 0 ≤ r23 ∧ r23 < 8 then if 0 ≤ r23 ∧ r23 < 8 then upB t22 54 (Int.toNat r23) (((tof t22) 54 (Int.toNat r23)) + 1) fun t27 => if 0 ≤ r23 ∧ r23 < 8 then bnd (x_Gr_degreeOf fu r23 t27) fun r32 t31 => if 0 ≤ r23 ∧ r23 < 8 then if (-2147483648 ≤ ((tof t27) 54 (Int.toNat r23)) ∧ ((tof t27) 54 (Int.toNat r23)) < 2147483648) ∧ -2147483648 ≤ ((r32 - 1) - ((tof t31) k1 (Int.toNat r23))) ∧ ((r32 - 1) - ((tof t31) k1 (Int.toNat r23))) < 2147483648 then if ((tof t27) 54 (Int.toNat r23)) ≤ ((r32 - 1) - ((tof t31) k1 (Int.toNat r23))) then rec 25 [x2, (ior x3 (ishl 1 r11)), x4, (x5 + 1)] [k1] t31 else rec 25 [(ior x2 (ishl 1 r11)), (ior x3 (ishl 1 r11)), (ior x4 (ishl 1 r23)), (x5 + 1)] [k1] t31 else none else none else none else none else none else some (x2, t15) else none else none else none
def xb_Tr_treeOf_e (fu : Nat) (rec : Nat → List Int → List Nat → Tb → Option (Int × Tb)) (k1 : Nat) (t : Tb) : Option (Int × Tb) := if arb SC k1 1 8 = true then bnd (x_Cg_clearChips fu 54 t) fun _ t3 => rec 25 [0, 0, (ishl 1 ((tof t3) 1 2)), 0] [k1] t3 else none
def xm_Tr_treeOf (fu : Nat) : Nat → Nat → List Int → List Nat → Tb → Option (Int × Tb)
  | 0, _, _, _, _ => none
  | n + 1, pc, a, ks, t => if pc = 25 then xb_Tr_treeOf_25 fu (xm_Tr_treeOf fu n) (ks.getD 0 0) (a.getD 0 0) (a.getD 1 0) (a.getD 2 0) (a.getD 3 0) t else none
def x_Tr_treeOf (fu : Nat) (k1 : Nat) (t : Tb) : Option (Int × Tb) := xb_Tr_treeOf_e fu (xm_Tr_treeOf fu fu) k1 t
set_option maxRecDepth 20000 in
theorem xt_Tr_treeOf_25 {fu : Nat} {rec : Nat → List Int → List Nat → Tb → Option (Int × Tb)} {o : Int × Tb} {Q : Int → Sto → Prop} (hQ : Q o.1 (tof o.2)) (hr_25 : ∀ (k1 : Nat) (x2 : Int) (x3 : Int) (x4 : Int) (x5 : Int) (t : Tb), rec 25 [x2, x3, x4, x5] [k1] t = some o → H_Tr_treeOf_25 Q k1 x2 x3 x4 x5 (tof t)) {k1 : Nat} {x2 : Int} {x3 : Int} {x4 : Int} {x5 : Int} {t : Tb} (h0 : xb_Tr_treeOf_25 fu rec k1 x2 x3 x4 x5 t = some o) : H_Tr_treeOf_25 Q k1 x2 x3 x4 x5 (tof t) := by
  unfold xb_Tr_treeOf_25 at h0
  obtain ⟨a0, h0⟩ := xr_and h0 (R := _ = some o) (fun _ z => z)
  exact b_Tr_treeOf_25 (arb_ar a0) (xr_and h0 fun _ h1 => xr_ite h1 (fun z y => by omega) (fun h2 => xr_leaf h2 hQ) (fun h3 => xr_call h3 (fun _ _ hc => xs_Tr_lowestBorderEdge hc ⟨rfl, rfl⟩) fun r11 t10 h4 => xr_call h4 (fun _ _ hc => xs_Gr_hasEdge hc ⟨rfl, rfl⟩) fun r16 t15 h5 => xr_and h5 fun _ h6 => xr_ite h6 (fun z y => y z) (fun h7 => xr_call h7 (fun _ _ hc => xs_Tr_unmarkedEnd hc ⟨rfl, rfl⟩) fun r23 t22 h9 => xr_and h9 fun _ h10 => xr_and h10 fun _ h11 => xr_up h11 fun t27 h12 => xr_and h12 fun _ h13 => xr_call h13 (fun _ _ hc => xs_Gr_degreeOf hc ⟨rfl, rfl⟩) fun r32 t31 h14 => xr_and h14 fun _ h15 => xr_and h15 fun _ h16 => xr_ite h16 (fun z y => by omega) (fun h17 => hr_25 _ _ _ _ _ _ h17) (fun h18 => hr_25 _ _ _ _ _ _ h18)) (fun h8 => xr_leaf h8 hQ)))
set_option maxRecDepth 20000 in
theorem xt_Tr_treeOf_e {fu : Nat} {rec : Nat → List Int → List Nat → Tb → Option (Int × Tb)} {o : Int × Tb} {Q : Int → Sto → Prop} (hQ : Q o.1 (tof o.2)) (hr_25 : ∀ (k1 : Nat) (x2 : Int) (x3 : Int) (x4 : Int) (x5 : Int) (t : Tb), rec 25 [x2, x3, x4, x5] [k1] t = some o → H_Tr_treeOf_25 Q k1 x2 x3 x4 x5 (tof t)) {k1 : Nat} {t : Tb} (h0 : xb_Tr_treeOf_e fu rec k1 t = some o) : K_Tr_treeOf k1 (tof t) Q := by
  unfold xb_Tr_treeOf_e at h0
  obtain ⟨a0, h0⟩ := xr_and h0 (R := _ = some o) (fun _ z => z)
  exact e_Tr_treeOf (arb_ar a0) (xr_callV h0 (fun _ _ hc => xs_Cg_clearChips hc rfl) fun _ t3 h19 => hr_25 _ _ _ _ _ _ h19)
theorem xl_Tr_treeOf {fu : Nat} {o : Int × Tb} {Q : Int → Sto → Prop} (hQ : Q o.1 (tof o.2)) : ∀ n : Nat, (∀ (k1 : Nat) (x2 : Int) (x3 : Int) (x4 : Int) (x5 : Int) (t : Tb), xm_Tr_treeOf fu n 25 [x2, x3, x4, x5] [k1] t = some o → H_Tr_treeOf_25 Q k1 x2 x3 x4 x5 (tof t)) := by
  intro n
  induction n with
  | zero => exact fun _ _ _ _ _ _ h => (nomatch h)
  | succ n ih =>
    have i25 := ih
    exact fun _ _ _ _ _ _ h => xt_Tr_treeOf_25 (fu := fu) hQ i25 h
theorem xs_Tr_treeOf {fu : Nat} {k1 : Nat} {t : Tb} {r : Int} {t' : Tb} {Q : Int → Sto → Prop} (h : x_Tr_treeOf fu k1 t = some (r, t')) (hQ : Q r (tof t')) : K_Tr_treeOf k1 (tof t) Q := xt_Tr_treeOf_e (o := (r, t')) hQ (xl_Tr_treeOf hQ fu) h
def xb_Cg_tree_e (fu : Nat) (rec : Nat → List Int → List Nat → Tb → Option (Int × Tb)) (t : Tb) : Option (Int × Tb) := bnd (x_Cg_isRecurrent fu t) fun r4 t3 => if -2147483648 ≤ r4 ∧ r4 < 2147483648 then if ¬ r4 = 0 then bnd (x_Tr_treeOf fu 187 t3) fun r11 t10 => some (r11, t10) else some ((-10004), t3) else none
def x_Cg_tree (fu : Nat) (t : Tb) : Option (Int × Tb) := xb_Cg_tree_e fu (fun _ _ _ _ => none) t
set_option maxRecDepth 20000 in
theorem xt_Cg_tree_e {fu : Nat} {rec : Nat → List Int → List Nat → Tb → Option (Int × Tb)} {o : Int × Tb} {Q : Int → Sto → Prop} (hQ : Q o.1 (tof o.2)) {t : Tb} (h0 : xb_Cg_tree_e fu rec t = some o) : K_Cg_tree (tof t) Q :=
  e_Cg_tree (xr_call h0 (fun _ _ hc => xs_Cg_isRecurrent hc ⟨rfl, rfl⟩) fun r4 t3 h1 => xr_and h1 fun _ h2 => xr_ite h2 (fun z y => y z) (fun h3 => xr_call h3 (fun _ _ hc => xs_Tr_treeOf hc ⟨rfl, rfl⟩) fun r11 t10 h5 => xr_leaf h5 hQ) (fun h4 => xr_leaf h4 hQ))
theorem xs_Cg_tree {fu : Nat} {t : Tb} {r : Int} {t' : Tb} {Q : Int → Sto → Prop} (h : x_Cg_tree fu t = some (r, t')) (hQ : Q r (tof t')) : K_Cg_tree (tof t) Q := xt_Cg_tree_e (o := (r, t')) hQ h
def xb_Tr_count_e (fu : Nat) (rec : Nat → List Int → List Nat → Tb → Option (Int × Tb)) (x1 : Int) (x2 : Int) (t : Tb) : Option (Int × Tb) := bnd (x_Gr_findParts fu x1 t) fun r4 t3 => bnd (x_Ma_fill fu x2 t3) fun _ t8 => bnd (x_Ma_eliminate fu t8) fun r14 t13 => some (r14, t13)
def x_Tr_count (fu : Nat) (x1 : Int) (x2 : Int) (t : Tb) : Option (Int × Tb) := xb_Tr_count_e fu (fun _ _ _ _ => none) x1 x2 t
set_option maxRecDepth 20000 in
theorem xt_Tr_count_e {fu : Nat} {rec : Nat → List Int → List Nat → Tb → Option (Int × Tb)} {o : Int × Tb} {Q : Int → Sto → Prop} (hQ : Q o.1 (tof o.2)) {x1 : Int} {x2 : Int} {t : Tb} (h0 : xb_Tr_count_e fu rec x1 x2 t = some o) : K_Tr_count x1 x2 (tof t) Q :=
  e_Tr_count (xr_call h0 (fun _ _ hc => xs_Gr_findParts hc ⟨rfl, rfl⟩) fun r4 t3 h1 => xr_callV h1 (fun _ _ hc => xs_Ma_fill hc rfl) fun _ t8 h2 => xr_call h2 (fun _ _ hc => xs_Ma_eliminate hc ⟨rfl, rfl⟩) fun r14 t13 h3 => xr_leaf h3 hQ)
theorem xs_Tr_count {fu : Nat} {x1 : Int} {x2 : Int} {t : Tb} {r : Int} {t' : Tb} {Q : Int → Sto → Prop} (h : x_Tr_count fu x1 x2 t = some (r, t')) (hQ : Q r (tof t')) : K_Tr_count x1 x2 (tof t) Q := xt_Tr_count_e (o := (r, t')) hQ h
def xb_Tr_treeNumbered_20 (fu : Nat) (rec : Nat → List Int → List Nat → Tb → Option (Int × Tb)) (x2 : Int) (x4 : Int) (x5 : Int) (x6 : Int) (t : Tb) : Option (Int × Tb) := if -2147483648 ≤ x6 ∧ x6 < 2147483648 then if x6 < 0 then some (x4, t) else bnd (x_Tr_count fu x4 (ior x5 (ishl 1 x6)) t) fun r7 t6 => if (-9223372036854775808 ≤ x2 ∧ x2 < 9223372036854775808) ∧ -9223372036854775808 ≤ r7 ∧ r7 < 9223372036854775808 then if r7 ≤ x2 then rec 20 [(x2 - r7), (ior x4 (ishl 1 x6)), x5, (x6 - 1)] [] t6 else rec 20 [x2, x4, (ior x5 (ishl 1 x6)), (x6 - 1)] [] t6 else none else none
def xb_Tr_treeNumbered_e (fu : Nat) (rec : Nat → List Int → List Nat → Tb → Option (Int × Tb)) (x1 : Int) (t : Tb) : Option (Int × Tb) := if -2147483648 ≤ x1 ∧ x1 < 2147483648 then rec 20 [x1, 0, 0, (((tof t) 1 1) - 1)] [] t else none
def xm_Tr_treeNumbered (fu : Nat) : Nat → Nat → List Int → List Nat → Tb → Option (Int × Tb)
  | 0, _, _, _, _ => none
  | n + 1, pc, a, ks, t => if pc = 20 then xb_Tr_treeNumbered_20 fu (xm_Tr_treeNumbered fu n) (a.getD 0 0) (a.getD 1 0) (a.getD 2 0) (a.getD 3 0) t else none
def x_Tr_treeNumbered (fu : Nat) (x1 : Int) (t : Tb) : Option (Int × Tb) := xb_Tr_treeNumbered_e fu (xm_Tr_treeNumbered fu fu) x1 t
set_option maxRecDepth 20000 in
theorem xt_Tr_treeNumbered_20 {fu : Nat} {rec : Nat → List Int → List Nat → Tb → Option (Int × Tb)} {o : Int × Tb} {Q : Int → Sto → Prop} (hQ : Q o.1 (tof o.2)) (hr_20 : ∀ (x2 : Int) (x4 : Int) (x5 : Int) (x6 : Int) (t : Tb), rec 20 [x2, x4, x5, x6] [] t = some o → H_Tr_treeNumbered_20 Q x2 x4 x5 x6 (tof t)) {x2 : Int} {x4 : Int} {x5 : Int} {x6 : Int} {t : Tb} (h0 : xb_Tr_treeNumbered_20 fu rec x2 x4 x5 x6 t = some o) : H_Tr_treeNumbered_20 Q x2 x4 x5 x6 (tof t) :=
  b_Tr_treeNumbered_20 (xr_and h0 fun _ h1 => xr_ite h1 (fun z y => by omega) (fun h2 => xr_leaf h2 hQ) (fun h3 => xr_call h3 (fun _ _ hc => xs_Tr_count hc ⟨rfl, rfl⟩) fun r7 t6 h4 => xr_and h4 fun _ h5 => xr_ite h5 (fun z y => by omega) (fun h6 => hr_20 _ _ _ _ _ h6) (fun h7 => hr_20 _ _ _ _ _ h7)))
set_option maxRecDepth 20000 in
theorem xt_Tr_treeNumbered_e {fu : Nat} {rec : Nat → List Int → List Nat → Tb → Option (Int × Tb)} {o : Int × Tb} {Q : Int → Sto → Prop} (hQ : Q o.1 (tof o.2)) (hr_20 : ∀ (x2 : Int) (x4 : Int) (x5 : Int) (x6 : Int) (t : Tb), rec 20 [x2, x4, x5, x6] [] t = some o → H_Tr_treeNumbered_20 Q x2 x4 x5 x6 (tof t)) {x1 : Int} {t : Tb} (h0 : xb_Tr_treeNumbered_e fu rec x1 t = some o) : K_Tr_treeNumbered x1 (tof t) Q :=
  e_Tr_treeNumbered (xr_and h0 fun _ h8 => hr_20 _ _ _ _ _ h8)
theorem xl_Tr_treeNumbered {fu : Nat} {o : Int × Tb} {Q : Int → Sto → Prop} (hQ : Q o.1 (tof o.2)) : ∀ n : Nat, (∀ (x2 : Int) (x4 : Int) (x5 : Int) (x6 : Int) (t : Tb), xm_Tr_treeNumbered fu n 20 [x2, x4, x5, x6] [] t = some o → H_Tr_treeNumbered_20 Q x2 x4 x5 x6 (tof t)) := by
  intro n
  induction n with
  | zero => exact fun _ _ _ _ _ h => (nomatch h)
  | succ n ih =>
    have i20 := ih
    exact fun _ _ _ _ _ h => xt_Tr_treeNumbered_20 (fu := fu) hQ i20 h
theorem xs_Tr_treeNumbered {fu : Nat} {x1 : Int} {t : Tb} {r : Int} {t' : Tb} {Q : Int → Sto → Prop} (h : x_Tr_treeNumbered fu x1 t = some (r, t')) (hQ : Q r (tof t')) : K_Tr_treeNumbered x1 (tof t) Q := xt_Tr_treeNumbered_e (o := (r, t')) hQ (xl_Tr_treeNumbered hQ fu) h
def xb_Cg_treeAt_e (fu : Nat) (rec : Nat → List Int → List Nat → Tb → Option (Int × Tb)) (x1 : Int) (t : Tb) : Option (Int × Tb) := if -2147483648 ≤ x1 ∧ x1 < 2147483648 then if 0 ≤ x1 then if -2147483648 ≤ x1 ∧ x1 < 2147483648 then bnd (x_Tr_count fu 0 0 t) fun r7 t6 => if (-9223372036854775808 ≤ x1 ∧ x1 < 9223372036854775808) ∧ -9223372036854775808 ≤ r7 ∧ r7 < 9223372036854775808 then if x1 < r7 then bnd (x_Tr_treeNumbered fu x1 t6) fun r14 t13 => some (r14, t13) else some ((-10007), t6) else none else none else some ((-10002), t) else none
def x_Cg_treeAt (fu : Nat) (x1 : Int) (t : Tb) : Option (Int × Tb) := xb_Cg_treeAt_e fu (fun _ _ _ _ => none) x1 t
set_option maxRecDepth 20000 in
theorem xt_Cg_treeAt_e {fu : Nat} {rec : Nat → List Int → List Nat → Tb → Option (Int × Tb)} {o : Int × Tb} {Q : Int → Sto → Prop} (hQ : Q o.1 (tof o.2)) {x1 : Int} {t : Tb} (h0 : xb_Cg_treeAt_e fu rec x1 t = some o) : K_Cg_treeAt x1 (tof t) Q :=
  e_Cg_treeAt (xr_and h0 fun _ h1 => xr_ite h1 (fun z y => by omega) (fun h2 => xr_and h2 fun _ h4 => xr_call h4 (fun _ _ hc => xs_Tr_count hc ⟨rfl, rfl⟩) fun r7 t6 h5 => xr_and h5 fun _ h6 => xr_ite h6 (fun z y => by omega) (fun h7 => xr_call h7 (fun _ _ hc => xs_Tr_treeNumbered hc ⟨rfl, rfl⟩) fun r14 t13 h9 => xr_leaf h9 hQ) (fun h8 => xr_leaf h8 hQ)) (fun h3 => xr_leaf h3 hQ))
theorem xs_Cg_treeAt {fu : Nat} {x1 : Int} {t : Tb} {r : Int} {t' : Tb} {Q : Int → Sto → Prop} (h : x_Cg_treeAt fu x1 t = some (r, t')) (hQ : Q r (tof t')) : K_Cg_treeAt x1 (tof t) Q := xt_Cg_treeAt_e (o := (r, t')) hQ h
def xb_Cg_treeCount_e (fu : Nat) (rec : Nat → List Int → List Nat → Tb → Option (Int × Tb)) (t : Tb) : Option (Int × Tb) := bnd (x_Tr_count fu 0 0 t) fun r4 t3 => some (r4, t3)
def x_Cg_treeCount (fu : Nat) (t : Tb) : Option (Int × Tb) := xb_Cg_treeCount_e fu (fun _ _ _ _ => none) t
set_option maxRecDepth 20000 in
theorem xt_Cg_treeCount_e {fu : Nat} {rec : Nat → List Int → List Nat → Tb → Option (Int × Tb)} {o : Int × Tb} {Q : Int → Sto → Prop} (hQ : Q o.1 (tof o.2)) {t : Tb} (h0 : xb_Cg_treeCount_e fu rec t = some o) : K_Cg_treeCount (tof t) Q :=
  e_Cg_treeCount (xr_call h0 (fun _ _ hc => xs_Tr_count hc ⟨rfl, rfl⟩) fun r4 t3 h1 => xr_leaf h1 hQ)
theorem xs_Cg_treeCount {fu : Nat} {t : Tb} {r : Int} {t' : Tb} {Q : Int → Sto → Prop} (h : x_Cg_treeCount fu t = some (r, t')) (hQ : Q r (tof t')) : K_Cg_treeCount (tof t) Q := xt_Cg_treeCount_e (o := (r, t')) hQ h
def xb_Tx_append_e (fu : Nat) (rec : Nat → List Int → List Nat → Tb → Option (Int × Tb)) (x1 : Int) (t : Tb) : Option (Int × Tb) := if -2147483648 ≤ ((tof t) 15 0) ∧ ((tof t) 15 0) < 2147483648 then if ((tof t) 15 0) < 0 then some (0, t) else if -2147483648 ≤ ((tof t) 15 0) ∧ ((tof t) 15 0) < 2147483648 then if 12 ≤ ((tof t) 15 0) then some (0, t) else if 0 ≤ ((tof t) 15 0) ∧ ((tof t) 15 0) < 12 then if 0 ≤ x1 ∧ x1 < 65536 then upB t 16 (Int.toNat ((tof t) 15 0)) x1 fun t6 => upB t6 15 0 (((tof t6) 15 0) + 1) fun t8 => some (0, t8) else none else none else none else none
def x_Tx_append (fu : Nat) (x1 : Int) (t : Tb) : Option (Int × Tb) := xb_Tx_append_e fu (fun _ _ _ _ => none) x1 t
set_option maxRecDepth 20000 in
theorem xt_Tx_append_e {fu : Nat} {rec : Nat → List Int → List Nat → Tb → Option (Int × Tb)} {o : Int × Tb} {Q : Sto → Prop} (hQ : Q (tof o.2)) {x1 : Int} {t : Tb} (h0 : xb_Tx_append_e fu rec x1 t = some o) : K_Tx_append x1 (tof t) Q :=
  e_Tx_append (xr_and h0 fun _ h1 => xr_ite h1 (fun z y => by omega) (fun h2 => xr_leafV h2 hQ) (fun h3 => xr_and h3 fun _ h4 => xr_ite h4 (fun z y => by omega) (fun h5 => xr_leafV h5 hQ) (fun h6 => xr_and h6 fun _ h7 => xr_and h7 fun _ h8 => xr_up h8 fun t6 h9 => xr_up h9 fun t8 h10 => xr_leafV h10 hQ)))
theorem xs_Tx_append {fu : Nat} {x1 : Int} {t : Tb} {r : Int} {t' : Tb} {Q : Sto → Prop} (h : x_Tx_append fu x1 t = some (r, t')) (hQ : Q (tof t')) : K_Tx_append x1 (tof t) Q := xt_Tx_append_e (o := (r, t')) hQ h
def xb_Cg_type_e (fu : Nat) (rec : Nat → List Int → List Nat → Tb → Option (Int × Tb)) (x1 : Int) (t : Tb) : Option (Int × Tb) := if -2147483648 ≤ ((tof t) 15 0) ∧ ((tof t) 15 0) < 2147483648 then if ((tof t) 15 0) < 12 then bnd (x_Tx_append fu x1 t) fun _ t5 => some (((tof t5) 15 0), t5) else some ((-10005), t) else none
def x_Cg_type (fu : Nat) (x1 : Int) (t : Tb) : Option (Int × Tb) := xb_Cg_type_e fu (fun _ _ _ _ => none) x1 t
set_option maxRecDepth 20000 in
theorem xt_Cg_type_e {fu : Nat} {rec : Nat → List Int → List Nat → Tb → Option (Int × Tb)} {o : Int × Tb} {Q : Int → Sto → Prop} (hQ : Q o.1 (tof o.2)) {x1 : Int} {t : Tb} (h0 : xb_Cg_type_e fu rec x1 t = some o) : K_Cg_type x1 (tof t) Q :=
  e_Cg_type (xr_and h0 fun _ h1 => xr_ite h1 (fun z y => by omega) (fun h2 => xr_callV h2 (fun _ _ hc => xs_Tx_append hc rfl) fun _ t5 h4 => xr_leaf h4 hQ) (fun h3 => xr_leaf h3 hQ))
theorem xs_Cg_type {fu : Nat} {x1 : Int} {t : Tb} {r : Int} {t' : Tb} {Q : Int → Sto → Prop} (h : x_Cg_type fu x1 t = some (r, t')) (hQ : Q r (tof t')) : K_Cg_type x1 (tof t) Q := xt_Cg_type_e (o := (r, t')) hQ h
def xb_Hi_takeBack_e (fu : Nat) (rec : Nat → List Int → List Nat → Tb → Option (Int × Tb)) (k1 : Nat) (t : Tb) : Option (Int × Tb) := if arb SC k1 1 8 = true then if -2147483648 ≤ ((tof t) 17 0) ∧ ((tof t) 17 0) < 2147483648 then if ((tof t) 17 0) ≤ 0 then some (0, t) else upB t 17 0 (((tof t) 17 0) - 1) fun t3 => if -2147483648 ≤ (((tof t3) 17 1) + ((tof t3) 17 0)) ∧ (((tof t3) 17 1) + ((tof t3) 17 0)) < 2147483648 then if 0 ≤ (Int.tmod (((tof t3) 17 1) + ((tof t3) 17 0)) 12) ∧ (Int.tmod (((tof t3) 17 1) + ((tof t3) 17 0)) 12) < 12 then bnd (x_Cg_copyChips fu (19 + Int.toNat (Int.tmod (((tof t3) 17 1) + ((tof t3) 17 0)) 12)) k1 t3) fun _ t8 => some (0, t8) else none else none else none else none
def x_Hi_takeBack (fu : Nat) (k1 : Nat) (t : Tb) : Option (Int × Tb) := xb_Hi_takeBack_e fu (fun _ _ _ _ => none) k1 t
set_option maxRecDepth 20000 in
theorem xt_Hi_takeBack_e {fu : Nat} {rec : Nat → List Int → List Nat → Tb → Option (Int × Tb)} {o : Int × Tb} {Q : Sto → Prop} (hQ : Q (tof o.2)) {k1 : Nat} {t : Tb} (h0 : xb_Hi_takeBack_e fu rec k1 t = some o) : K_Hi_takeBack k1 (tof t) Q := by
  unfold xb_Hi_takeBack_e at h0
  obtain ⟨a0, h0⟩ := xr_and h0 (R := _ = some o) (fun _ z => z)
  exact e_Hi_takeBack (arb_ar a0) (xr_and h0 fun _ h1 => xr_ite h1 (fun z y => by omega) (fun h2 => xr_leafV h2 hQ) (fun h3 => xr_up h3 fun t3 h4 => xr_and h4 fun _ h5 => xr_and h5 fun _ h6 => xr_callV h6 (fun _ _ hc => xs_Cg_copyChips hc rfl) fun _ t8 h7 => xr_leafV h7 hQ))
theorem xs_Hi_takeBack {fu : Nat} {k1 : Nat} {t : Tb} {r : Int} {t' : Tb} {Q : Sto → Prop} (h : x_Hi_takeBack fu k1 t = some (r, t')) (hQ : Q (tof t')) : K_Hi_takeBack k1 (tof t) Q := xt_Hi_takeBack_e (o := (r, t')) hQ h
def xb_Cg_undo_e (fu : Nat) (rec : Nat → List Int → List Nat → Tb → Option (Int × Tb)) (t : Tb) : Option (Int × Tb) := if -2147483648 ≤ ((tof t) 17 0) ∧ ((tof t) 17 0) < 2147483648 then if ¬ ((tof t) 17 0) = 0 then bnd (x_Hi_takeBack fu 187 t) fun _ t5 => some (((tof t5) 17 0), t5) else some ((-10007), t) else none
def x_Cg_undo (fu : Nat) (t : Tb) : Option (Int × Tb) := xb_Cg_undo_e fu (fun _ _ _ _ => none) t
set_option maxRecDepth 20000 in
theorem xt_Cg_undo_e {fu : Nat} {rec : Nat → List Int → List Nat → Tb → Option (Int × Tb)} {o : Int × Tb} {Q : Int → Sto → Prop} (hQ : Q o.1 (tof o.2)) {t : Tb} (h0 : xb_Cg_undo_e fu rec t = some o) : K_Cg_undo (tof t) Q :=
  e_Cg_undo (xr_and h0 fun _ h1 => xr_ite h1 (fun z y => y z) (fun h2 => xr_callV h2 (fun _ _ hc => xs_Hi_takeBack hc rfl) fun _ t5 h4 => xr_leaf h4 hQ) (fun h3 => xr_leaf h3 hQ))
theorem xs_Cg_undo {fu : Nat} {t : Tb} {r : Int} {t' : Tb} {Q : Int → Sto → Prop} (h : x_Cg_undo fu t = some (r, t')) (hQ : Q r (tof t')) : K_Cg_undo (tof t) Q := xt_Cg_undo_e (o := (r, t')) hQ h
def xb_Cg_value_e (fu : Nat) (rec : Nat → List Int → List Nat → Tb → Option (Int × Tb)) (x1 : Int) (t : Tb) : Option (Int × Tb) := if -2147483648 ≤ x1 ∧ x1 < 2147483648 then if x1 = 0 then some (((tof t) 1 0), t) else if x1 = 1 then some (((tof t) 1 1), t) else if x1 = 2 then some (((tof t) 1 2), t) else if x1 = 3 then bnd (x_Gr_isConnected fu t) fun r5 t4 => if -2147483648 ≤ r5 ∧ r5 < 2147483648 then if r5 = 0 then some (0, t4) else some (1, t4) else none else if x1 = 4 then bnd (x_Cg_sumOf fu 187 t) fun r12 t11 => some (r12, t11) else if x1 = 5 then some (((tof t) 17 0), t) else if x1 = 6 then bnd (x_Gr_edgesAwayFromSink fu t) fun r17 t16 => some (r17, t16) else some ((-10002), t) else none
def x_Cg_value (fu : Nat) (x1 : Int) (t : Tb) : Option (Int × Tb) := xb_Cg_value_e fu (fun _ _ _ _ => none) x1 t
set_option maxRecDepth 20000 in
theorem xt_Cg_value_e {fu : Nat} {rec : Nat → List Int → List Nat → Tb → Option (Int × Tb)} {o : Int × Tb} {Q : Int → Sto → Prop} (hQ : Q o.1 (tof o.2)) {x1 : Int} {t : Tb} (h0 : xb_Cg_value_e fu rec x1 t = some o) : K_Cg_value x1 (tof t) Q :=
  e_Cg_value (xr_and h0 fun _ h1 => xr_sw h1 (fun h2 => ⟨fun y => absurd y (by omega), fun y => absurd y (by omega), fun y => absurd y (by omega), fun y => absurd y (by omega), fun y => absurd y (by omega), fun y => absurd y (by omega), fun y => absurd y (by omega)⟩) (fun h3 => xr_leaf h3 hQ) (fun _ h4 => xr_sw h4 (fun h5 => ⟨fun y => absurd y (by omega), fun y => absurd y (by omega), fun y => absurd y (by omega), fun y => absurd y (by omega), fun y => absurd y (by omega), fun y => absurd y (by omega)⟩) (fun h6 => xr_leaf h6 hQ) (fun _ h7 => xr_sw h7 (fun h8 => ⟨fun y => absurd y (by omega), fun y => absurd y (by omega), fun y => absurd y (by omega), fun y => absurd y (by omega), fun y => absurd y (by omega)⟩) (fun h9 => xr_leaf h9 hQ) (fun _ h10 => xr_sw h10 (fun h11 => ⟨fun y => absurd y (by omega), fun y => absurd y (by omega), fun y => absurd y (by omega), fun y => absurd y (by omega)⟩) (fun h12 => xr_call h12 (fun _ _ hc => xs_Gr_isConnected hc ⟨rfl, rfl⟩) fun r5 t4 h14 => xr_and h14 fun _ h15 => xr_ite h15 (fun z => z) (fun h16 => xr_leaf h16 hQ) (fun h17 => xr_leaf h17 hQ)) (fun _ h13 => xr_sw h13 (fun h18 => ⟨fun y => absurd y (by omega), fun y => absurd y (by omega), fun y => absurd y (by omega)⟩) (fun h19 => xr_call h19 (fun _ _ hc => xs_Cg_sumOf hc ⟨rfl, rfl⟩) fun r12 t11 h21 => xr_leaf h21 hQ) (fun _ h20 => xr_sw h20 (fun h22 => ⟨fun y => absurd y (by omega), fun y => absurd y (by omega)⟩) (fun h23 => xr_leaf h23 hQ) (fun _ h24 => xr_sw h24 (fun h25 => fun y => absurd y (by omega)) (fun h26 => xr_call h26 (fun _ _ hc => xs_Gr_edgesAwayFromSink hc ⟨rfl, rfl⟩) fun r17 t16 h28 => xr_leaf h28 hQ) (fun _ h27 => fun _ => xr_leaf h27 hQ))))))))
theorem xs_Cg_value {fu : Nat} {x1 : Int} {t : Tb} {r : Int} {t' : Tb} {Q : Int → Sto → Prop} (h : x_Cg_value fu x1 t = some (r, t')) (hQ : Q r (tof t')) : K_Cg_value x1 (tof t) Q := xt_Cg_value_e (o := (r, t')) hQ h
