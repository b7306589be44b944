/-! the graph: its picture, and what its methods do -/
abbrev R32 (x : Int) : Prop := -2147483648 ≤ x ∧ x < 2147483648
def jnE (F S : Nat → Int) (u v : Nat) (e : Nat) : Int := if (F e = u ∧ S e = v) ∨ (F e = v ∧ S e = u) then 1 else 0
def dgE (F S : Nat → Int) (v : Nat) (e : Nat) : Int := if F e = v ∨ S e = v then 1 else 0
def jn (F S : Nat → Int) (m : Nat) (u v : Nat) : Int := sumN m (jnE F S u v)
def dg (F S : Nat → Int) (m : Nat) (v : Nat) : Int := sumN m (dgE F S v)
/-- the picture of the graph -/
def WG (s : Sto) : Prop := (2 ≤ s 1 0 ∧ s 1 0 ≤ 8) ∧ (0 ≤ s 1 1 ∧ s 1 1 ≤ 20) ∧ (0 ≤ s 1 2 ∧ s 1 2 < s 1 0) ∧
  (∀ e : Nat, (e : Int) < s 1 1 → (0 ≤ s 2 e ∧ s 2 e < s 1 0) ∧ (0 ≤ s 3 e ∧ s 3 e < s 1 0) ∧ s 2 e ≠ s 3 e) ∧
  (∀ u v : Nat, u < 8 → v < 8 → s (5 + u) v = jn (s 2) (s 3) (s 1 1).toNat u v) ∧ (∀ v : Nat, v < 8 → s 13 v = dg (s 2) (s 3) (s 1 1).toNat v)
theorem jn_nn (F S : Nat → Int) (m u v : Nat) : 0 ≤ jn F S m u v := sumN_nn (fun i _ => by unfold jnE; split <;> decide)
theorem dg_nn (F S : Nat → Int) (m v : Nat) : 0 ≤ dg F S m v := sumN_nn (fun i _ => by unfold dgE; split <;> decide)
theorem jn_le (F S : Nat → Int) (m u v : Nat) : jn F S m u v ≤ m := by
  have h := sumN_le (n := m) (f := jnE F S u v) (g := fun _ => 1) (fun i _ => by unfold jnE; split <;> decide)
  rw [sumN_const] at h
  unfold jn
  omega
theorem dg_le (F S : Nat → Int) (m v : Nat) : dg F S m v ≤ m := by
  have h := sumN_le (n := m) (f := dgE F S v) (g := fun _ => 1) (fun i _ => by unfold dgE; split <;> decide)
  rw [sumN_const] at h
  unfold dg
  omega
theorem jn_sym (F S : Nat → Int) (m u v : Nat) : jn F S m u v = jn F S m v u := sumN_congr (fun i _ => by unfold jnE; simp only [Or.comm])
theorem jn_congr {F S F' S' : Nat → Int} {m : Nat} (h : ∀ e, e < m → F' e = F e ∧ S' e = S e) (u v : Nat) : jn F' S' m u v = jn F S m u v := sumN_congr (fun i hi => by unfold jnE; rw [(h i hi).1, (h i hi).2])
theorem dg_congr {F S F' S' : Nat → Int} {m : Nat} (h : ∀ e, e < m → F' e = F e ∧ S' e = S e) (v : Nat) : dg F' S' m v = dg F S m v := sumN_congr (fun i hi => by unfold dgE; rw [(h i hi).1, (h i hi).2])
theorem WG.J {s : Sto} (h : WG s) {u v : Nat} (hu : u < 8) (hv : v < 8) : 0 ≤ s (5 + u) v ∧ s (5 + u) v ≤ 20 := by
  obtain ⟨-, hm, -, -, hj, -⟩ := h
  rw [hj u v hu hv]
  have h1 := jn_nn (s 2) (s 3) (s 1 1).toNat u v
  have h2 := jn_le (s 2) (s 3) (s 1 1).toNat u v
  omega
theorem WG.D {s : Sto} (h : WG s) {v : Nat} (hv : v < 8) : 0 ≤ s 13 v ∧ s 13 v ≤ 20 := by
  obtain ⟨-, hm, -, -, -, hd⟩ := h
  rw [hd v hv]
  have h1 := dg_nn (s 2) (s 3) (s 1 1).toNat v
  have h2 := dg_le (s 2) (s 3) (s 1 1).toNat v
  omega
/-- the picture reads cells 1 to 3 and 5 to 13 alone -/
theorem WG.of {s s' : Sto} (h : WG s) (e : ∀ k i, 1 ≤ k → k ≤ 13 → s' k i = s k i) : WG s' := by
  have e2 : s' 2 = s 2 := funext fun i => e 2 i (by decide) (by decide)
  have e3 : s' 3 = s 3 := funext fun i => e 3 i (by decide) (by decide)
  unfold WG at h ⊢
  rw [e 1 0 (by decide) (by decide), e 1 1 (by decide) (by decide), e 1 2 (by decide) (by decide), e2, e3]
  refine ⟨h.1, h.2.1, h.2.2.1, h.2.2.2.1, fun u v hu hv => ?_, fun v hv => ?_⟩
  · rw [e (5 + u) v (by omega) (by omega)]; exact h.2.2.2.2.1 u v hu hv
  · rw [e 13 v (by decide) (by decide)]; exact h.2.2.2.2.2 v hv
theorem k_Gr_hasNode {x : Int} {s : Sto} (h : 2 ≤ s 1 0 ∧ s 1 0 ≤ 8) (hx : R32 x) : K_Gr_hasNode x s (fun r s' => s' = s ∧ (r = 1 ∧ 0 ≤ x ∧ x < s 1 0 ∨ r = 0 ∧ ¬ (0 ≤ x ∧ x < s 1 0))) := by
  unfold R32 at hx
  refine e_Gr_hasNode ?_
  repeat' first
    | omega
    | rfl
    | (refine ⟨?_, ?_⟩)
    | intro _
theorem k_Gr_hasEdge {x : Int} {s : Sto} (h : 0 ≤ s 1 1 ∧ s 1 1 ≤ 20) (hx : R32 x) : K_Gr_hasEdge x s (fun r s' => s' = s ∧ (r = 1 ∧ 0 ≤ x ∧ x < s 1 1 ∨ r = 0 ∧ ¬ (0 ≤ x ∧ x < s 1 1))) := by
  unfold R32 at hx
  refine e_Gr_hasEdge ?_
  repeat' first
    | omega
    | rfl
    | (refine ⟨?_, ?_⟩)
    | intro _
theorem k_Gr_degreeOf {x : Int} {s : Sto} (h : 2 ≤ s 1 0 ∧ s 1 0 ≤ 8) (hx : R32 x) : K_Gr_degreeOf x s (fun r s' => s' = s ∧ (r = s 13 x.toNat ∧ 0 ≤ x ∧ x < s 1 0 ∨ r = 0 ∧ ¬ (0 ≤ x ∧ x < s 1 0))) := by
  unfold R32 at hx
  refine e_Gr_degreeOf ?_
  repeat' first
    | omega
    | rfl
    | (refine ⟨_, k_Gr_hasNode h hx, ?_⟩; rintro _ _ ⟨rfl, _⟩)
    | (refine ⟨?_, ?_⟩)
    | intro _
theorem k_Gr_hasChipsAt {x : Int} {s : Sto} (h : WG s) (hx : R32 x) : K_Gr_hasChipsAt x s (fun r s' => s' = s ∧ (r = 1 ∧ (0 ≤ x ∧ x < s 1 0) ∧ x ≠ s 1 2 ∨ r = 0 ∧ ¬ ((0 ≤ x ∧ x < s 1 0) ∧ x ≠ s 1 2))) := by
  unfold R32 at hx
  obtain ⟨h1, h2, h3, -⟩ := h
  refine e_Gr_hasChipsAt ?_
  repeat' first
    | omega
    | rfl
    | (refine ⟨_, k_Gr_hasNode h1 hx, ?_⟩; rintro _ _ ⟨rfl, _⟩)
    | (refine ⟨?_, ?_⟩)
    | intro _
theorem k_Gr_edgesAwayFromSink {s : Sto} (h : WG s) : K_Gr_edgesAwayFromSink s (fun r s' => s' = s ∧ r = s 1 1 - s 13 (s 1 2).toNat) := by
  obtain ⟨h1, h2, h3, -⟩ := h
  have hx : R32 (s 1 2) := by unfold R32; omega
  refine e_Gr_edgesAwayFromSink ?_
  repeat' first
    | omega
    | rfl
    | (refine ⟨_, k_Gr_degreeOf h1 hx, ?_⟩; rintro _ _ ⟨rfl, _⟩)
    | (refine ⟨?_, ?_⟩)
    | intro _
theorem k_Gr_countJoining {x1 x2 d : Int} {s : Sto} (h : 2 ≤ s 1 0 ∧ s 1 0 ≤ 8) (h1 : 0 ≤ x1 ∧ x1 < s 1 0) (h2 : 0 ≤ x2 ∧ x2 < s 1 0) (hne : x1 ≠ x2) : K_Gr_countJoining x1 x2 d s (fun s' => (∀ k i, (k < 5 ∨ 13 < k) → s' k i = s k i) ∧ (∀ u v : Nat, u < 8 → v < 8 → s' (5 + u) v = s (5 + u) v + (if (u : Int) = x1 ∧ (v : Int) = x2 ∨ (u : Int) = x2 ∧ (v : Int) = x1 then d else 0)) ∧ ∀ v : Nat, v < 8 → s' 13 v = s 13 v + (if (v : Int) = x1 ∨ (v : Int) = x2 then d else 0)) := by
  have r1 : R32 x1 := by unfold R32; omega
  have r2 : R32 x2 := by unfold R32; omega
  refine e_Gr_countJoining ⟨_, k_Gr_hasNode h r1, ?_⟩
  rintro r s' ⟨rfl, hr⟩
  refine ⟨by omega, fun q => absurd hr (by omega), fun _ => ⟨_, k_Gr_hasNode h r2, ?_⟩⟩
  rintro r' s' ⟨rfl, hr'⟩
  refine ⟨by omega, fun _ => ?_, fun q => absurd hr' (by omega)⟩
  obtain ⟨a, rfl⟩ : ∃ a : Nat, x1 = a := ⟨x1.toNat, by omega⟩
  obtain ⟨b, rfl⟩ : ∃ b : Nat, x2 = b := ⟨x2.toNat, by omega⟩
  simp only [toNat_n]
  refine ⟨by omega, by omega, by omega, fun s1 e1 => ⟨by omega, by omega, by omega, fun s2 e2 => ⟨by omega, by omega, fun s3 e3 => ⟨by omega, by omega, fun s4 e4 => ?_⟩⟩⟩⟩
  have hab : a ≠ b := by omega
  refine ⟨fun k i hk => ?_, fun u v hu hv => ?_, fun v hv => ?_⟩
  · rw [e4, up_k (by omega), e3, up_k (by omega), e2, up_k (by omega), e1, up_k (by omega)]
  · rw [e4, up_k (by omega), e3, up_k (by omega), e2]
    unfold up
    rw [e1]
    unfold up
    grind
  · have f2 : ∀ w, s2 13 w = s' 13 w := fun w => by rw [e2, up_k (by omega), e1, up_k (by omega)]
    rw [e4]
    unfold up
    rw [e3]
    unfold up
    simp only [f2]
    grind
/-- an edge behind the others -/
theorem jn_suc (F S : Nat → Int) (m u v : Nat) : jn F S (m + 1) u v = jn F S m u v + jnE F S u v m := rfl
theorem dg_suc (F S : Nat → Int) (m v : Nat) : dg F S (m + 1) v = dg F S m v + dgE F S v m := rfl
def AppP (s : Sto) (x1 x2 : Int) (s' : Sto) : Prop := WG s' ∧ s' 1 0 = s 1 0 ∧ s' 1 2 = s 1 2 ∧ s' 1 1 = s 1 1 + 1 ∧ (∀ e : Nat, (e : Int) < s 1 1 → s' 2 e = s 2 e ∧ s' 3 e = s 3 e) ∧ s' 2 (s 1 1).toNat = x1 ∧ s' 3 (s 1 1).toNat = x2 ∧ ∀ k i, (k = 0 ∨ 13 < k) → s' k i = s k i
theorem k_Gr_append {x1 x2 : Int} {s : Sto} (h : WG s) (hm : s 1 1 < 20) (h1 : 0 ≤ x1 ∧ x1 < s 1 0) (h2 : 0 ≤ x2 ∧ x2 < s 1 0) (hne : x1 ≠ x2) : K_Gr_append x1 x2 s (AppP s x1 x2) := by
  have r1 : R32 x1 := by unfold R32; have := h.1; omega
  have r2 : R32 x2 := by unfold R32; have := h.1; omega
  refine e_Gr_append ⟨_, k_Gr_hasNode h.1 r1, ?_⟩
  rintro r s0 ⟨rfl, hr⟩
  refine ⟨by omega, fun q => absurd hr (by omega), fun _ => ⟨_, k_Gr_hasNode h.1 r2, ?_⟩⟩
  rintro r' s' ⟨rfl, hr'⟩
  have hG := h
  obtain ⟨hn, hm', hk, hE, hJ, hD⟩ := h
  refine ⟨by omega, fun q => absurd hr' (by omega), fun _ => ⟨by omega, fun q => absurd q (by omega), fun _ => ⟨by omega, fun _ => ⟨by omega, fun s1 e1 => ?_⟩, fun q => absurd q (by omega)⟩⟩⟩
  have a1 : s1 1 1 = s' 1 1 := by rw [e1, up_k (by decide)]
  rw [a1]
  refine ⟨by omega, fun s2 e2 s3 e3 => ?_⟩
  have a2 : s2 1 1 = s' 1 1 := by rw [e2, up_k (by decide), a1]
  rw [a2] at e3
  have b0 : s3 1 0 = s' 1 0 := by rw [e3, up_i (by decide), e2, up_k (by decide), e1, up_k (by decide)]
  have b1 : s3 1 1 = s' 1 1 + 1 := by rw [e3, up_eq]
  have b2 : s3 1 2 = s' 1 2 := by rw [e3, up_i (by decide), e2, up_k (by decide), e1, up_k (by decide)]
  refine ⟨_, k_Gr_countJoining (d := 1) (by rw [b0]; exact hn) (by rw [b0]; exact h1) (by rw [b0]; exact h2) hne, ?_⟩
  rintro s4 ⟨c1, c2, c3⟩
  generalize hM : (s' 1 1).toNat = M at *
  have hMe : s' 1 1 = (M : Int) := by omega
  have f2 : ∀ e, s4 2 e = if e = M then x1 else s' 2 e := fun e => by
    rw [c1 2 e (by omega), e3, up_k (by decide), e2, up_k (by decide), e1]
    unfold up
    simp
  have f3 : ∀ e, s4 3 e = if e = M then x2 else s' 3 e := fun e => by
    rw [c1 3 e (by omega), e3, up_k (by decide), e2]
    unfold up
    rw [e1, up_k (by decide)]
    simp
  have g0 : s4 1 0 = s' 1 0 := by rw [c1 1 0 (by omega), b0]
  have g1 : s4 1 1 = s' 1 1 + 1 := by rw [c1 1 1 (by omega), b1]
  have g2 : s4 1 2 = s' 1 2 := by rw [c1 1 2 (by omega), b2]
  have gM : (s4 1 1).toNat = M + 1 := by omega
  have hl : ∀ e, e < M → s4 2 e = s' 2 e ∧ s4 3 e = s' 3 e := fun e he => by rw [f2, f3, if_neg (by omega), if_neg (by omega)]; exact ⟨rfl, rfl⟩
  have j3 : ∀ k i, 4 ≤ k → s3 k i = s' k i := fun k i hk => by rw [e3, up_k (by omega), e2, up_k (by omega), e1, up_k (by omega)]
  refine ⟨⟨by omega, by omega, by omega, fun e he => ?_, fun u v hu hv => ?_, fun v hv => ?_⟩, g0, g2, g1, fun e he => hl e (by omega), by rw [f2]; exact if_pos hM, by rw [f3]; exact if_pos hM, fun k i hk => ?_⟩
  · rw [g0, f2, f3]
    by_cases c : e = M
    · rw [if_pos c, if_pos c]; exact ⟨h1, h2, hne⟩
    · rw [if_neg c, if_neg c]; exact hE e (by omega)
  · rw [gM, jn_suc, jn_congr hl, c2 u v hu hv, j3 _ _ (by omega), hJ u v hu hv]
    congr 1
    unfold jnE
    rw [f2, f3, if_pos rfl, if_pos rfl]
    exact ite_congr (propext (by constructor <;> intro q <;> omega)) (fun _ => rfl) (fun _ => rfl)
  · rw [gM, dg_suc, dg_congr hl, c3 v hv, j3 _ _ (by omega), hD v hv]
    congr 1
    unfold dgE
    rw [f2, f3, if_pos rfl, if_pos rfl]
    exact ite_congr (propext (by constructor <;> intro q <;> omega)) (fun _ => rfl) (fun _ => rfl)
  · rw [c1 k i (by omega), e3, up_k (by omega), e2, up_k (by omega), e1, up_k (by omega)]
theorem sumN_drop {m x : Nat} (f : Nat → Int) (hx : x < m + 1) : sumN m (fun e => if e < x then f e else f (e + 1)) = sumN (m + 1) f - f x := by
  induction m with
  | zero => rw [show x = 0 by omega]; simp [sumN]
  | succ m ih =>
    by_cases c : x = m + 1
    · subst c
      show _ = sumN (m + 1) f + f (m + 1) - f (m + 1)
      rw [sumN_congr (f := fun e => if e < m + 1 then f e else f (e + 1)) (g := f) (fun i hi => if_pos hi)]
      omega
    · show sumN m _ + (if m < x then f m else f (m + 1)) = sumN (m + 1) f + f (m + 1) - f x
      rw [ih (by omega), if_neg (by omega)]
      omega
def DrpP (s : Sto) (x : Int) (s' : Sto) : Prop := WG s' ∧ s' 1 0 = s 1 0 ∧ s' 1 2 = s 1 2 ∧ s' 1 1 = s 1 1 - 1 ∧ (∀ e : Nat, (e : Int) < s 1 1 - 1 → s' 2 e = (if (e : Int) < x then s 2 e else s 2 (e + 1)) ∧ s' 3 e = (if (e : Int) < x then s 3 e else s 3 (e + 1))) ∧ ∀ k i, (k = 0 ∨ 13 < k) → s' k i = s k i
theorem k_Gr_drop {x : Int} {s : Sto} (h : WG s) (h1 : 0 ≤ x ∧ x < s 1 1) : K_Gr_drop x s (DrpP s x) := by
  have r1 : R32 x := by unfold R32; have := h.2.1; omega
  refine e_Gr_drop ⟨_, k_Gr_hasEdge h.2.1 r1, ?_⟩
  rintro r s' ⟨rfl, hr⟩
  obtain ⟨hn, hm, hk, hE, hJ, hD⟩ := h
  obtain ⟨a, rfl⟩ : ∃ a : Nat, x = a := ⟨x.toNat, by omega⟩
  refine ⟨by omega, fun _ => ⟨by omega, by omega, ?_⟩, fun q => absurd hr (by omega)⟩
  rw [toNat_n]
  obtain ⟨ea1, ea2, ea3⟩ := hE a h1.2
  refine ⟨_, k_Gr_countJoining hn ea1 ea2 ea3, ?_⟩
  rintro t ⟨c1, c2, c3⟩
  obtain ⟨M, hM⟩ : ∃ M : Nat, s' 1 1 = (M : Int) + 1 := ⟨(s' 1 1 - 1).toNat, by omega⟩
  have t0 : t 1 0 = s' 1 0 := c1 1 0 (by omega)
  have t1 : t 1 1 = s' 1 1 := c1 1 1 (by omega)
  have t2 : t 1 2 = s' 1 2 := c1 1 2 (by omega)
  refine loop_inv (N := M) (fun j q => a ≤ j ∧ (∀ k i, k ≠ 2 → k ≠ 3 → q k i = t k i) ∧ (∀ e, q 2 e = if a ≤ e ∧ e < j then t 2 (e + 1) else t 2 e) ∧ ∀ e, q 3 e = if a ≤ e ∧ e < j then t 3 (e + 1) else t 3 e) (fun j q => H_Gr_drop_28 (DrpP s' a) j q) (fun j q hj hI ih => ?_) (fun q hI => ?_) a t (by omega) ⟨Nat.le_refl a, fun _ _ _ _ => rfl, fun e => (if_neg (by omega)).symm, fun e => (if_neg (by omega)).symm⟩
  · obtain ⟨i0, i1, i2, i3⟩ := hI
    have q1 : q 1 1 = s' 1 1 := by rw [i1 1 1 (by decide) (by decide), t1]
    refine b_Gr_drop_28 ⟨by omega, fun c => absurd c (by omega), fun _ => ?_⟩
    rw [nat_suc, toNat_n, toNat_n]
    refine ⟨by omega, by omega, fun s1 e1 => ⟨by omega, by omega, fun s2 e2 => ?_⟩⟩
    refine ih s2 ⟨by omega, fun k i h2 h3 => by rw [e2, up_k h3, e1, up_k h2]; exact i1 k i h2 h3, fun e => ?_, fun e => ?_⟩
    · rw [e2, up_k (by decide), e1]
      by_cases c : e = j
      · rw [c, up_eq, i2, if_neg (by omega), if_pos (by omega)]
      · rw [up_i c, i2]
        by_cases d : a ≤ e ∧ e < j
        · rw [if_pos d, if_pos (by omega)]
        · rw [if_neg d, if_neg (by omega)]
    · rw [e2]
      by_cases c : e = j
      · rw [c, up_eq, e1, up_k (by decide), i3, if_neg (by omega), if_pos (by omega)]
      · rw [up_i c, e1, up_k (by decide), i3]
        by_cases d : a ≤ e ∧ e < j
        · rw [if_pos d, if_pos (by omega)]
        · rw [if_neg d, if_neg (by omega)]
  · obtain ⟨i0, i1, i2, i3⟩ := hI
    have q0 : q 1 0 = s' 1 0 := by rw [i1 1 0 (by decide) (by decide), t0]
    have q1 : q 1 1 = s' 1 1 := by rw [i1 1 1 (by decide) (by decide), t1]
    have q2 : q 1 2 = s' 1 2 := by rw [i1 1 2 (by decide) (by decide), t2]
    refine b_Gr_drop_28 ⟨by omega, fun _ s1 e1 => ?_, fun c => absurd c (by omega)⟩
    have g0 : s1 1 0 = s' 1 0 := by rw [e1, up_i (by decide), q0]
    have g1 : s1 1 1 = s' 1 1 - 1 := by rw [e1, up_eq, q1]
    have g2 : s1 1 2 = s' 1 2 := by rw [e1, up_i (by decide), q2]
    have f2 : ∀ e, e < M → s1 2 e = if e < a then s' 2 e else s' 2 (e + 1) := fun e he => by
      rw [e1, up_k (by decide), i2, c1 2 _ (by omega), c1 2 _ (by omega)]
      by_cases c : e < a
      · rw [if_pos c, if_neg (by omega)]
      · rw [if_neg c, if_pos (by omega)]
    have f3 : ∀ e, e < M → s1 3 e = if e < a then s' 3 e else s' 3 (e + 1) := fun e he => by
      rw [e1, up_k (by decide), i3, c1 3 _ (by omega), c1 3 _ (by omega)]
      by_cases c : e < a
      · rw [if_pos c, if_neg (by omega)]
      · rw [if_neg c, if_pos (by omega)]
    have gM : (s1 1 1).toNat = M := by omega
    have hM2 : (s' 1 1).toNat = M + 1 := by omega
    have j3 : ∀ k i, 4 ≤ k → s1 k i = t k i := fun k i hk => by rw [e1, up_k (by omega), i1 k i (by omega) (by omega)]
    refine ⟨⟨by omega, by omega, by omega, fun e he => ?_, fun u v hu hv => ?_, fun v hv => ?_⟩, g0, g2, g1, fun e he => ?_, fun k i hk => ?_⟩
    · rw [g0, f2 e (by omega), f3 e (by omega)]
      by_cases c : e < a
      · rw [if_pos c, if_pos c]; exact hE e (by omega)
      · rw [if_neg c, if_neg c]; exact hE (e + 1) (by omega)
    · rw [gM, j3 _ _ (by omega), c2 u v hu hv, hJ u v hu hv, hM2]
      have e9 : jn (s1 2) (s1 3) M u v = sumN M (fun e => if e < a then jnE (s' 2) (s' 3) u v e else jnE (s' 2) (s' 3) u v (e + 1)) := sumN_congr (fun e he => by
        unfold jnE
        rw [f2 e he, f3 e he]
        by_cases c : e < a <;> simp only [c, if_true, if_false])
      rw [e9, sumN_drop _ (by omega)]
      show jn _ _ (M + 1) u v + _ = jn _ _ (M + 1) u v - _
      rw [Int.sub_eq_add_neg]
      congr 1
      unfold jnE
      by_cases c : (u : Int) = s' 2 a ∧ (v : Int) = s' 3 a ∨ (u : Int) = s' 3 a ∧ (v : Int) = s' 2 a
      · rw [if_pos c, if_pos (by omega)]
      · rw [if_neg c, if_neg (by omega)]; rfl
    · rw [gM, j3 _ _ (by omega), c3 v hv, hD v hv, hM2]
      have e9 : dg (s1 2) (s1 3) M v = sumN M (fun e => if e < a then dgE (s' 2) (s' 3) v e else dgE (s' 2) (s' 3) v (e + 1)) := sumN_congr (fun e he => by
        unfold dgE
        rw [f2 e he, f3 e he]
        by_cases c : e < a <;> simp only [c, if_true, if_false])
      rw [e9, sumN_drop _ (by omega)]
      show dg _ _ (M + 1) v + _ = dg _ _ (M + 1) v - _
      rw [Int.sub_eq_add_neg]
      congr 1
      unfold dgE
      by_cases c : (v : Int) = s' 2 a ∨ (v : Int) = s' 3 a
      · rw [if_pos c, if_pos (by omega)]
      · rw [if_neg c, if_neg (by omega)]; rfl
    · rw [f2 e (by omega), f3 e (by omega)]
      constructor <;> exact ite_congr (propext (by omega)) (fun _ => rfl) (fun _ => rfl)
    · rw [e1, up_k (by omega), i1 k i (by omega) (by omega), c1 k i (by omega)]
