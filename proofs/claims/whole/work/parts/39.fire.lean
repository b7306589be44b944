/-! firing: what the methods do -/
theorem k_Fi_canFire {k : Nat} (hk : ar SC k 1 8) {v : Nat} {s : Sto} (h : WG s) (hv : v < 8) (hc : R32 (s k v)) : K_Fi_canFire k v s (fun r s' => s' = s ∧ (r = 1 ∧ ((v : Int) < s 1 0 ∧ (v : Int) ≠ s 1 2 ∧ 0 < s 13 v ∧ s 13 v ≤ s k v) ∨ r = 0 ∧ ¬ ((v : Int) < s 1 0 ∧ (v : Int) ≠ s 1 2 ∧ 0 < s 13 v ∧ s 13 v ≤ s k v))) := by
  have hx : R32 (v : Int) := by unfold R32; omega
  have hd := h.D hv
  refine e_Fi_canFire hk ⟨_, k_Gr_degreeOf h.1 hx, ?_⟩
  rintro r s' ⟨rfl, hr⟩
  refine ⟨_, k_Gr_hasChipsAt h hx, ?_⟩
  rintro r2 s' ⟨rfl, hr2⟩
  rw [toNat_n] at hr ⊢
  unfold R32 at hc
  repeat' first
    | omega
    | rfl
    | (refine ⟨?_, ?_⟩)
    | intro _
theorem k_Fi_isStable {k : Nat} (hk : ar SC k 1 8) {s : Sto} (h : WG s) (hc : ∀ v, v < 8 → R32 (s k v)) : K_Fi_isStable k s (fun r s' => s' = s ∧ (r = 1 ∧ Stb (Jm s) (s 1 2).toNat (s 1 0).toNat (s k) ∨ r = 0 ∧ ¬ Stb (Jm s) (s 1 2).toNat (s 1 0).toNat (s k))) := by
  have hn := h.1
  have hK := h.2.2.1
  refine e_Fi_isStable hk ?_
  refine loop_inv (α := Sto) (N := (s 1 0).toNat) (fun j q => q = s ∧ ∀ v : Nat, v < j → v ≠ (s 1 2).toNat → 0 < dgr (Jm s) (s 1 0).toNat v → s k v < dgr (Jm s) (s 1 0).toNat v) (fun j q => H_Fi_isStable_2 _ k j q) (fun j q hj hI ih => ?_) (fun q hI => ?_) 0 s (by omega) ⟨rfl, fun v hv => absurd hv (by omega)⟩
  · obtain ⟨rfl, hI⟩ := hI
    have hd := h.Dg (v := j) (by omega)
    refine b_Fi_isStable_2 hk ⟨by omega, fun c => absurd c (by omega), fun _ => ⟨_, k_Fi_canFire hk h (by omega) (hc j (by omega)), ?_⟩⟩
    rintro r s' ⟨rfl, hr⟩
    rw [nat_suc]
    rw [hd] at hr
    refine ⟨by omega, fun c => ih s' ⟨rfl, fun v hv h1 h2 => ?_⟩, fun c => ⟨rfl, Or.inr ⟨rfl, fun z => ?_⟩⟩⟩
    · by_cases e : v = j
      · subst e
        have hr := hr.resolve_left (fun z => by omega)
        apply Classical.byContradiction
        intro c9
        exact hr.2 ⟨by omega, by omega, h2, by omega⟩
      · exact hI v (by omega) h1 h2
    · have hr := hr.resolve_right (fun z => c z.1)
      have := z j (by omega) (by omega) hr.2.2.2.1
      omega
  · obtain ⟨rfl, hI⟩ := hI
    exact b_Fi_isStable_2 hk ⟨by omega, fun _ => ⟨rfl, Or.inl ⟨rfl, fun v hv => hI v hv⟩⟩, fun c => absurd c (by omega)⟩
theorem k_Fi_giveAlong {k : Nat} (hk : ar SC k 1 8) (hkk : 13 < k) {u v : Nat} {t : Int} {s : Sto} (h : WG s) (hu : u < 8) (hv : v < 8) : K_Fi_giveAlong k u v t s (fun s' => s' = wr s k (fun i => s k i - (if i = u then t * s (5 + u) v else 0) + (if i = v ∧ (v : Int) ≠ s 1 2 then t * s (5 + u) v else 0))) := by
  have hK := h.2.2.1
  have hn := h.1
  refine e_Fi_giveAlong hk ⟨by omega, by omega, by omega, by omega, fun s1 e1 => ?_⟩
  rw [toNat_n, toNat_n] at *
  have f2 : s1 1 2 = s 1 2 := by rw [e1, up_k (by omega)]
  rw [f2]
  refine ⟨by omega, fun c => ?_, fun c => ⟨by omega, by omega, fun s2 e2 => ?_⟩⟩
  · rw [e1, up_wr]
    congr 1
    funext i
    unfold fu
    by_cases d : i = u
    · rw [if_pos d, if_pos d, if_neg (by omega), d]; omega
    · rw [if_neg d, if_neg d, if_neg (by omega)]; omega
  · rw [up_wr] at e1
    rw [e2, e1, up_wr_wr]
    congr 1
    funext i
    unfold fu
    rw [wr_eq]
    by_cases d : i = v
    · subst d
      by_cases d2 : i = u
      · subst d2
        (repeat' split) <;> omega
      · (repeat' split) <;> omega
    · by_cases d2 : i = u
      · subst d2
        (repeat' split) <;> omega
      · (repeat' split) <;> omega
/-- a node fires t times -/
def giveF (s : Sto) (u : Nat) (t : Int) (c : Nat → Int) : Nat → Int := fun i => c i - (if i = u then t * dgr (Jm s) (s 1 0).toNat u else 0) + (if i < (s 1 0).toNat ∧ i ≠ (s 1 2).toNat then t * Jm s u i else 0)
theorem k_Fi_give {k : Nat} (hk : ar SC k 1 8) (hkk : 13 < k) {u : Nat} {t : Int} {s : Sto} (h : WG s) (hu : u < (s 1 0).toNat) : K_Fi_give k u t s (fun s' => s' = wr s k (giveF s u t (s k))) := by
  have hK := h.2.2.1
  have hn := h.1
  have hx : R32 (u : Int) := by unfold R32; omega
  refine e_Fi_give hk ⟨_, k_Gr_hasNode h.1 hx, ?_⟩
  rintro r s' ⟨rfl, hr⟩
  refine ⟨by omega, fun _ => ?_, fun c => absurd hr (by omega)⟩
  refine loop_inv (α := Sto) (N := (s' 1 0).toNat) (fun j q => q = wr s' k (fun i => s' k i - (if i = u then t * sumN j (Jm s' u) else 0) + (if i < j ∧ i ≠ (s' 1 2).toNat then t * Jm s' u i else 0))) (fun j q => H_Fi_give_15 _ k u t j q) (fun j q hj hI ih => ?_) (fun q hI => ?_) 0 s' (by omega) ?_
  · have hq : WG q := h.of (fun k' i h1 h2 => by rw [hI, wr_ne (by omega)])
    have q0 : q 1 0 = s' 1 0 := by rw [hI, wr_ne (by omega)]
    have q2 : q 1 2 = s' 1 2 := by rw [hI, wr_ne (by omega)]
    have qJ : q (5 + u) j = s' (5 + u) j := by rw [hI, wr_ne (by omega)]
    refine b_Fi_give_15 hk ⟨by omega, fun c => absurd c (by omega), fun _ => ⟨_, k_Fi_giveAlong hk hkk hq (by omega) (by omega), ?_⟩⟩
    rintro s1 rfl
    rw [nat_suc]
    refine ih _ ?_
    rw [q2, qJ, hI, wr_wr]
    congr 1
    funext i
    rw [wr_eq]
    show s' k i - _ + _ - _ + _ = s' k i - (if i = u then t * (sumN j (Jm s' u) + Jm s' u j) else 0) + _
    have e9 : s' (5 + u) j = Jm s' u j := rfl
    rw [e9, Int.mul_add]
    by_cases d2 : i = j
    · subst d2
      by_cases d : i = u
      · have z : Jm s' u i = 0 := by rw [d]; exact h.Jz (by omega)
        rw [z]
        simp only [Int.mul_zero]
        (repeat' split) <;> omega
      · (repeat' split) <;> omega
    · (repeat' split) <;> omega
  · have q0 : q 1 0 = s' 1 0 := by rw [hI, wr_ne (by omega)]
    exact b_Fi_give_15 hk ⟨by omega, fun _ => hI, fun c => absurd c (by omega)⟩
  · show s' = _
    rw [show (fun i => s' k i - (if i = u then t * sumN 0 (Jm s' u) else 0) + (if i < 0 ∧ i ≠ (s' 1 2).toNat then t * Jm s' u i else 0)) = s' k from funext fun i => by
      rw [if_neg (by omega : ¬ (i < 0 ∧ i ≠ (s' 1 2).toNat))]
      simp [sumN], wr_self]
