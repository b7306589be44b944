/-! the walk along edges, and what treeOf and toStateOf do -/
/-- the least number below n with p, else n -/
def fnd (p : Nat → Bool) : Nat → Nat
  | 0 => 0
  | n + 1 => if fnd p n < n then fnd p n else if p n then n else n + 1
theorem fnd_spec (p : Nat → Bool) : ∀ n, fnd p n ≤ n ∧ (fnd p n < n → p (fnd p n) = true) ∧ ∀ i, i < fnd p n → p i = false
  | 0 => ⟨Nat.le_refl 0, fun h => absurd h (Nat.lt_irrefl 0), fun i h => absurd h (Nat.not_lt_zero i)⟩
  | n + 1 => by
    obtain ⟨h1, h2, h3⟩ := fnd_spec p n
    unfold fnd
    by_cases c : fnd p n < n
    · rw [if_pos c]; exact ⟨by omega, fun _ => h2 c, h3⟩
    · rw [if_neg c]
      have e : fnd p n = n := by omega
      rw [e] at h3
      by_cases d : p n = true
      · rw [if_pos d]; exact ⟨by omega, fun _ => d, h3⟩
      · rw [if_neg d]
        refine ⟨by omega, fun h => absurd h (Nat.lt_irrefl _), fun i hi => ?_⟩
        by_cases q : i = n
        · rw [q]; simpa using d
        · exact h3 i (by omega)
theorem fnd_eq {p : Nat → Bool} {n e : Nat} (he : e < n) (h1 : p e = true) (h2 : ∀ i, i < e → p i = false) : fnd p n = e := by
  obtain ⟨a, b, c⟩ := fnd_spec p n
  rcases Nat.lt_trichotomy (fnd p n) e with h | h | h
  · have := b (by omega); rw [h2 _ h] at this; cases this
  · exact h
  · have := c e h; rw [h1] at this; cases this
theorem fnd_no {p : Nat → Bool} {n : Nat} (h : ∀ i, i < n → p i = false) : fnd p n = n := by
  obtain ⟨a, b, c⟩ := fnd_spec p n
  by_cases d : fnd p n < n
  · have := b d; rw [h _ d] at this; cases this
  · omega
def bdr (F S : Nat → Int) (X U : Nat) (e : Nat) : Bool := (X.testBit (F e).toNat != X.testBit (S e).toNat) && !U.testBit e
abbrev Wst : Type := Nat × Nat × Nat × (Nat → Int)
def une (F S : Nat → Int) (X e : Nat) : Nat := if X.testBit (F e).toNat then (S e).toNat else (F e).toNat
def wstep (F S : Nat → Int) (M : Nat) (dec : Nat → Nat → Int → Bool) (a : Wst) : Wst :=
  let e := fnd (bdr F S a.1 a.2.1) M
  if e < M then
    let v := une F S a.1 e
    let c := a.2.2.2 v + 1
    if dec e v c then (a.1 ||| 2 ^ v, a.2.1 ||| 2 ^ e, a.2.2.1 ||| 2 ^ e, fu a.2.2.2 v c) else (a.1, a.2.1 ||| 2 ^ e, a.2.2.1, fu a.2.2.2 v c)
  else a
def wlk (F S : Nat → Int) (M K : Nat) (dec : Nat → Nat → Int → Bool) : Nat → Wst
  | 0 => (2 ^ K, 0, 0, fun _ => 0)
  | t + 1 => wstep F S M dec (wlk F S M K dec t)
theorem wlk_stop {F S : Nat → Int} {M K : Nat} {dec : Nat → Nat → Int → Bool} {t : Nat} (h : fnd (bdr F S (wlk F S M K dec t).1 (wlk F S M K dec t).2.1) M = M) : ∀ d, wlk F S M K dec (t + d) = wlk F S M K dec t
  | 0 => rfl
  | d + 1 => by
    have := wlk_stop h d
    show wstep F S M dec (wlk F S M K dec (t + d)) = _
    rw [this]
    unfold wstep
    simp only [h, Nat.lt_irrefl, if_false]
theorem k_Tr_isIn {a e : Nat} {s : Sto} (ha : a < 2147483648) (he : e < 32) : K_Tr_isIn a e s (fun r s' => s' = s ∧ (r = 1 ∧ a.testBit e = true ∨ r = 0 ∧ a.testBit e = false)) := by
  refine e_Tr_isIn ?_
  rw [bit_n ha he]
  cases h : a.testBit e
  · refine ⟨by decide, fun _ => ⟨rfl, Or.inr ⟨rfl, rfl⟩⟩, fun c => absurd (show (if false = true then (1 : Int) else 0) = 0 from rfl) c⟩
  · refine ⟨by decide, fun c => absurd c (by decide), fun _ => ⟨rfl, Or.inl ⟨rfl, rfl⟩⟩⟩
theorem k_Tr_lowestBorderEdge {X U : Nat} {s : Sto} (h : WG s) (hX : X < 2147483648) (hU : U < 2147483648) : K_Tr_lowestBorderEdge X U s (fun r s' => s' = s ∧ ((fnd (bdr (s 2) (s 3) X U) (s 1 1).toNat < (s 1 1).toNat ∧ r = fnd (bdr (s 2) (s 3) X U) (s 1 1).toNat) ∨ (fnd (bdr (s 2) (s 3) X U) (s 1 1).toNat = (s 1 1).toNat ∧ r = -1))) := by
  have hm := h.2.1
  have hn := h.1
  refine e_Tr_lowestBorderEdge ?_
  refine loop_inv (α := Sto) (N := (s 1 1).toNat) (fun j q => q = s ∧ ∀ i, i < j → bdr (s 2) (s 3) X U i = false) (fun j q => H_Tr_lowestBorderEdge_2 _ X U j q) (fun j q hj hI ih => ?_) (fun q hI => ?_) 0 s (by omega) ⟨rfl, fun i hi => absurd hi (by omega)⟩
  · obtain ⟨rfl, hI⟩ := hI
    have hE := h.2.2.2.1 j (by omega)
    have nx : bdr (q 2) (q 3) X U j = false → H_Tr_lowestBorderEdge_2 (fun r s' => s' = q ∧ ((fnd (bdr (q 2) (q 3) X U) (q 1 1).toNat < (q 1 1).toNat ∧ r = fnd (bdr (q 2) (q 3) X U) (q 1 1).toNat) ∨ (fnd (bdr (q 2) (q 3) X U) (q 1 1).toNat = (q 1 1).toNat ∧ r = -1))) X U ((j + 1 : Nat) : Int) q := fun hb => ih q ⟨rfl, fun i hi => by
      by_cases e : i = j
      · rw [e]; exact hb
      · exact hI i (by omega)⟩
    have ef : ((q 2 j).toNat : Int) = q 2 j := by omega
    have es : ((q 3 j).toNat : Int) = q 3 j := by omega
    refine b_Tr_lowestBorderEdge_2 ⟨by omega, fun c => absurd c (by omega), fun _ => ⟨by omega, _, by have := k_Tr_isIn (a := X) (e := (q 2 j).toNat) (s := q) hX (by omega); rw [ef] at this; exact this, ?_⟩⟩
    rintro r q' ⟨rfl, hr⟩
    refine ⟨by omega, _, by have := k_Tr_isIn (a := X) (e := (q' 3 j).toNat) (s := q') hX (by omega); rw [es] at this; exact this, ?_⟩
    rintro r2 q'' ⟨rfl, hr2⟩
    refine ⟨fun v => (v = 0 ∧ X.testBit (q'' 2 j).toNat = X.testBit (q'' 3 j).toNat) ∨ (v = 1 ∧ X.testBit (q'' 2 j).toNat ≠ X.testBit (q'' 3 j).toNat), ?_, by omega, fun c => Or.inl ⟨rfl, ?_⟩, fun c => Or.inr ⟨rfl, ?_⟩⟩
    · intro v hv
      refine ⟨by omega, fun c => ?_, fun c => ⟨_, k_Tr_isIn hU (by omega), ?_⟩⟩
      · have hv := hv.resolve_right (fun z => by omega)
        rw [nat_suc]
        refine nx ?_
        unfold bdr
        rw [hv.2]
        simp
      · have hv := hv.resolve_left (fun z => by omega)
        rintro r3 q3 ⟨rfl, hr3⟩
        refine ⟨by omega, fun c2 => ?_, fun c2 => ⟨rfl, Or.inl ?_⟩⟩
        · rw [nat_suc]
          refine nx ?_
          unfold bdr
          rw [(hr3.resolve_right (fun z => c2 z.1)).2]
          simp
        · have hb : bdr (q3 2) (q3 3) X U j = true := by
            unfold bdr
            rw [(hr3.resolve_left (fun z => by omega)).2]
            simpa using hv.2
          rw [fnd_eq hj hb hI]
          exact ⟨hj, rfl⟩
    · rcases hr with ⟨a, b⟩ | ⟨a, b⟩ <;> rcases hr2 with ⟨a2, b2⟩ | ⟨a2, b2⟩ <;> first | (exfalso; omega) | (rw [b, b2])
    · rcases hr with ⟨a, b⟩ | ⟨a, b⟩ <;> rcases hr2 with ⟨a2, b2⟩ | ⟨a2, b2⟩ <;> first | (exfalso; omega) | (rw [b, b2]; decide)
  · obtain ⟨rfl, hI⟩ := hI
    exact b_Tr_lowestBorderEdge_2 ⟨by omega, fun _ => ⟨rfl, Or.inr ⟨fnd_no hI, rfl⟩⟩, fun c => absurd c (by omega)⟩
theorem k_Tr_unmarkedEnd {X e : Nat} {s : Sto} (h : WG s) (hX : X < 2147483648) (he : e < (s 1 1).toNat) : K_Tr_unmarkedEnd e X s (fun r s' => s' = s ∧ r = (une (s 2) (s 3) X e : Nat)) := by
  have hm := h.2.1
  have hn := h.1
  have hE := h.2.2.2.1 e (by omega)
  have ef : ((s 2 e).toNat : Int) = s 2 e := by omega
  refine e_Tr_unmarkedEnd ⟨by omega, _, by have := k_Tr_isIn (a := X) (e := (s 2 e).toNat) (s := s) hX (by omega); rw [ef] at this; exact this, ?_⟩
  rintro r s' ⟨rfl, hr⟩
  rw [toNat_n]
  refine ⟨by omega, fun c => ⟨by omega, rfl, ?_⟩, fun c => ⟨by omega, rfl, ?_⟩⟩
  · unfold une
    rw [(hr.resolve_left (fun z => by omega)).2, if_neg (by decide)]; omega
  · unfold une
    rw [(hr.resolve_right (fun z => c z.1)).2, if_pos rfl]; omega
theorem or_lt {a e m : Nat} (ha : a < 2 ^ m) (he : e < m) : a ||| 2 ^ e < 2 ^ m := Nat.or_lt_two_pow ha (Nat.pow_lt_pow_right (by decide) he)
theorem ior_bit {a e : Nat} (ha : a < 2147483648) (he : e < 31) : ior a (ishl 1 (e : Nat)) = ((a ||| 2 ^ e : Nat) : Int) := by
  rw [ishl_one e he, ior_n ha (Nat.pow_lt_pow_right (by decide) he)]
theorem une_lt {s : Sto} (h : WG s) {X e : Nat} (he : e < (s 1 1).toNat) : une (s 2) (s 3) X e < (s 1 0).toNat := by
  have hE := h.2.2.2.1 e (by omega)
  have hn := h.1
  unfold une
  split <;> omega
def decC (s : Sto) (c : Nat → Int) : Nat → Nat → Int → Bool := fun _ v x => decide (dgr (Jm s) (s 1 0).toNat v - 1 - c v < x)
def decT (T : Nat) : Nat → Nat → Int → Bool := fun e _ _ => T.testBit e
abbrev wl (s : Sto) (dec : Nat → Nat → Int → Bool) (t : Nat) : Wst := wlk (s 2) (s 3) (s 1 1).toNat (s 1 2).toNat dec t
theorem wl_bd {s : Sto} (h : WG s) {dec : Nat → Nat → Int → Bool} (t : Nat) : (wl s dec t).1 < 2 ^ 8 ∧ (wl s dec t).2.1 < 2 ^ 20 ∧ (wl s dec t).2.2.1 < 2 ^ 20 ∧ ∀ v, 0 ≤ (wl s dec t).2.2.2 v ∧ (wl s dec t).2.2.2 v ≤ t := by
  have hn := h.1
  have hm := h.2.1
  induction t with
  | zero => exact ⟨Nat.pow_lt_pow_right (by decide) (by have := h.K; omega), (show 0 < 2 ^ 20 by decide), (show 0 < 2 ^ 20 by decide), fun v => ⟨Int.le_refl 0, Int.le_refl 0⟩⟩
  | succ t ih =>
    obtain ⟨a, b, c, d⟩ := ih
    rw [show wl s dec (t + 1) = wstep (s 2) (s 3) (s 1 1).toNat dec (wl s dec t) from rfl]
    unfold wstep
    simp only
    have hs := fnd_spec (bdr (s 2) (s 3) (wl s dec t).1 (wl s dec t).2.1) (s 1 1).toNat
    generalize he : fnd (bdr (s 2) (s 3) (wl s dec t).1 (wl s dec t).2.1) (s 1 1).toNat = e at hs
    by_cases q : e < (s 1 1).toNat
    · have hu := une_lt (X := (wl s dec t).1) h q
      have fb : ∀ v x, (0 ≤ x ∧ x ≤ (t : Int) + 1) → ∀ u, 0 ≤ fu (wl s dec t).2.2.2 v x u ∧ fu (wl s dec t).2.2.2 v x u ≤ ((t + 1 : Nat) : Int) := fun v x hx u => by
        have := d u
        unfold fu
        split <;> omega
      have := d (une (s 2) (s 3) (wl s dec t).1 e)
      rw [if_pos q]
      split
      · exact ⟨or_lt a (by omega), or_lt b (by omega), or_lt c (by omega), fb _ _ (by omega)⟩
      · exact ⟨a, or_lt b (by omega), c, fb _ _ (by omega)⟩
    · rw [if_neg q]
      exact ⟨a, b, c, fun v => by have := d v; omega⟩
