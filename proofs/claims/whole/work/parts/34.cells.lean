/-! cells of eight: cleared, copied, added up, compared; history; slots -/
def cut (f g : Nat → Int) : Nat → Int := fun i => if i < 8 then f i else g i
theorem cut_lt {f g : Nat → Int} {i : Nat} (h : i < 8) : cut f g i = f i := if_pos h
theorem k_Cg_clearChips {k : Nat} (hk : ar SC k 1 8) {s : Sto} : K_Cg_clearChips k s (fun s' => s' = wr s k (cut (fun _ => 0) (s k))) := by
  refine e_Cg_clearChips hk ?_
  refine loop_inv (α := Sto) (N := 8) (fun j q => q = wr s k (fun i => if i < j then 0 else s k i)) (fun j q => H_Cg_clearChips_2 _ k j q) (fun j q hj hI ih => ?_) (fun q hI => ?_) 0 s (by omega) ?_
  · refine b_Cg_clearChips_2 hk ⟨by omega, fun c => absurd c (by omega), fun _ => ⟨by omega, fun s1 e1 => ?_⟩⟩
    rw [nat_suc]
    refine ih s1 ?_
    rw [e1, hI, up_wr_wr, toNat_n]
    congr 1
    funext i
    unfold fu
    by_cases c : i = j
    · rw [if_pos c, if_pos (by omega)]
    · rw [if_neg c]
      exact ite_congr (propext (by omega)) (fun _ => rfl) (fun _ => rfl)
  · exact b_Cg_clearChips_2 hk ⟨by omega, fun _ => hI, fun c => absurd c (by omega)⟩
  · show s = _
    rw [show (fun i => if i < 0 then (0 : Int) else s k i) = s k from funext fun i => if_neg (by omega), wr_self]
theorem k_Cg_copyChips {k0 k1 : Nat} (hk0 : ar SC k0 1 8) (hk1 : ar SC k1 1 8) (hne : k0 ≠ k1) {s : Sto} : K_Cg_copyChips k0 k1 s (fun s' => s' = wr s k1 (cut (s k0) (s k1))) := by
  refine e_Cg_copyChips hk0 hk1 ?_
  refine loop_inv (α := Sto) (N := 8) (fun j q => q = wr s k1 (fun i => if i < j then s k0 i else s k1 i)) (fun j q => H_Cg_copyChips_2 _ k0 k1 j q) (fun j q hj hI ih => ?_) (fun q hI => ?_) 0 s (by omega) ?_
  · refine b_Cg_copyChips_2 hk0 hk1 ⟨by omega, fun c => absurd c (by omega), fun _ => ⟨by omega, fun c => absurd c (by omega), fun _ => ⟨by omega, by omega, fun s1 e1 => ?_⟩⟩⟩
    rw [nat_suc]
    refine ih s1 ?_
    rw [e1, hI, up_wr_wr, toNat_n, wr_ne hne]
    congr 1
    funext i
    unfold fu
    by_cases c : i = j
    · rw [if_pos c, if_pos (by omega), c]
    · rw [if_neg c]
      exact ite_congr (propext (by omega)) (fun _ => rfl) (fun _ => rfl)
  · exact b_Cg_copyChips_2 hk0 hk1 ⟨by omega, fun _ => hI, fun c => absurd c (by omega)⟩
  · show s = _
    rw [show (fun i => if i < 0 then s k0 i else s k1 i) = s k1 from funext fun i => if_neg (by omega), wr_self]
theorem k_Cg_sumOf {k : Nat} (hk : ar SC k 1 8) {s : Sto} : K_Cg_sumOf k s (fun r s' => s' = s ∧ r = sumN 8 (s k)) := by
  refine e_Cg_sumOf hk ?_
  refine loop_inv (α := Int × Sto) (N := 8) (fun j a => a.2 = s ∧ a.1 = sumN j (s k)) (fun j a => H_Cg_sumOf_4 _ k a.1 j a.2) (fun j a hj hI ih => ?_) (fun a hI => ?_) 0 (0, s) (by omega) ⟨rfl, rfl⟩
  · refine b_Cg_sumOf_4 hk ⟨by omega, fun c => absurd c (by omega), fun _ => ⟨by omega, ?_⟩⟩
    rw [nat_suc, toNat_n]
    exact ih (_, a.2) ⟨hI.1, by show a.1 + a.2 k j = sumN j (s k) + s k j; rw [hI.1, hI.2]⟩
  · exact b_Cg_sumOf_4 hk ⟨by omega, fun _ => hI, fun c => absurd c (by omega)⟩
theorem k_Cg_isEqual {k0 k1 : Nat} (hk0 : ar SC k0 1 8) (hk1 : ar SC k1 1 8) {s : Sto} (h0 : ∀ v, v < 8 → R32 (s k0 v)) (h1 : ∀ v, v < 8 → R32 (s k1 v)) : K_Cg_isEqual k0 k1 s (fun r s' => s' = s ∧ (r = 1 ∧ (∀ v, v < 8 → s k0 v = s k1 v) ∨ r = 0 ∧ ¬ ∀ v, v < 8 → s k0 v = s k1 v)) := by
  refine e_Cg_isEqual hk0 hk1 ?_
  refine loop_inv (α := Sto) (N := 8) (fun j q => q = s ∧ ∀ v, v < j → s k0 v = s k1 v) (fun j q => H_Cg_isEqual_2 _ k0 k1 j q) (fun j q hj hI ih => ?_) (fun q hI => ?_) 0 s (by omega) ⟨rfl, fun v hv => absurd hv (by omega)⟩
  · obtain ⟨rfl, hI⟩ := hI
    refine b_Cg_isEqual_2 hk0 hk1 ⟨by omega, fun c => absurd c (by omega), fun _ => ⟨by omega, fun c => absurd c (by omega), fun _ => ⟨by omega, by omega, ?_⟩⟩⟩
    rw [toNat_n, nat_suc]
    refine ⟨⟨h0 j hj, h1 j hj⟩, fun c => ih q ⟨rfl, fun v hv => ?_⟩, fun c => ⟨rfl, Or.inr ⟨rfl, fun z => c (z j hj)⟩⟩⟩
    by_cases d : v = j
    · rw [d]; exact c
    · exact hI v (by omega)
  · obtain ⟨rfl, hI⟩ := hI
    exact b_Cg_isEqual_2 hk0 hk1 ⟨by omega, fun _ => ⟨rfl, Or.inl ⟨rfl, hI⟩⟩, fun c => absurd c (by omega)⟩
/-- the history: a ring of twelve -/
def WH (s : Sto) : Prop := (0 ≤ s 17 0 ∧ s 17 0 ≤ 12) ∧ 0 ≤ s 17 1 ∧ s 17 1 < 12
/-- the row that was recorded last -/
def hRow (s : Sto) : Nat := 19 + ((s 17 1 + s 17 0 - 1) % 12).toNat
theorem k_Hi_forgetAll {s : Sto} : K_Hi_forgetAll s (fun s' => WH s' ∧ s' 17 0 = 0 ∧ ∀ k i, k ≠ 17 → s' k i = s k i) := by
  refine e_Hi_forgetAll (fun s1 e1 s2 e2 => ?_)
  have h0 : s2 17 0 = 0 := by rw [e2, up_i (by decide), e1, up_eq]
  have h1 : s2 17 1 = 0 := by rw [e2, up_eq]
  exact ⟨⟨by omega, by omega⟩, h0, fun k i hk => by rw [e2, up_k hk, e1, up_k hk]⟩
def RecP (s : Sto) (k : Nat) (s' : Sto) : Prop := WH s' ∧ s' 17 0 = (if s 17 0 = 12 then 12 else s 17 0 + 1) ∧ (∀ v, v < 8 → s' (hRow s') v = s k v) ∧ ∀ k i, (k < 17 ∨ k = 18 ∨ 30 < k) → s' k i = s k i
theorem tmod12 {x : Int} (h : 0 ≤ x) : Int.tmod x 12 = x % 12 := Int.tmod_eq_emod_of_nonneg h
theorem k_Hi_record {k : Nat} (hk : ar SC k 1 8) (hkk : 30 < k) {s : Sto} (h : WH s) : K_Hi_record k s (RecP s k) := by
  obtain ⟨h0, h1⟩ := h
  refine e_Hi_record hk ⟨fun q => (0 ≤ q 17 0 ∧ q 17 0 < 12) ∧ (0 ≤ q 17 1 ∧ q 17 1 < 12) ∧ (q 17 0 + 1 = if s 17 0 = 12 then 12 else s 17 0 + 1) ∧ ∀ k i, k ≠ 17 → q k i = s k i, ?_, by omega, ?_, ?_⟩
  · rintro q ⟨a1, a2, a3, a4⟩
    rw [tmod12 (by omega)]
    generalize hr : (q 17 1 + q 17 0) % 12 = r
    have hr2 : 0 ≤ r ∧ r < 12 := by omega
    have hrow : ar SC (19 + r.toNat) 1 8 := rwSC_18 hr2
    refine ⟨by omega, hr2, _, k_Cg_copyChips hk hrow (by omega), ?_⟩
    rintro q1 rfl s2 e2
    have f0 : s2 17 0 = q 17 0 + 1 := by rw [e2, up_eq, wr_ne (by omega)]
    have f1 : s2 17 1 = q 17 1 := by rw [e2, up_i (by decide), wr_ne (by omega)]
    refine ⟨⟨by omega, by omega⟩, by rw [f0]; exact a3, fun v hv => ?_, fun k' i hk' => ?_⟩
    · have e : hRow s2 = 19 + r.toNat := by
        unfold hRow
        rw [f0, f1]
        congr 2
        omega
      rw [e, e2, up_k (by omega), wr_eq, cut_lt hv, a4 _ _ (by omega)]
    · rw [e2, up_k (by omega), wr_ne (by omega), a4 _ _ (by omega)]
  · intro c
    exact ⟨by omega, by omega, by rw [if_neg c], fun _ _ _ => rfl⟩
  · intro c
    refine ⟨by omega, fun s1 e1 s2 e2 => ?_⟩
    rw [tmod12 (by omega)] at e1
    have f0 : s2 17 0 = 11 := by rw [e2, up_eq, e1, up_i (by decide)]; omega
    have f1 : s2 17 1 = (s 17 1 + 1) % 12 := by rw [e2, up_i (by decide), e1, up_eq]
    exact ⟨by omega, by omega, by rw [if_pos c]; omega, fun k' i hk' => by rw [e2, up_k hk', e1, up_k hk']⟩
theorem k_Hi_takeBack {k : Nat} (hk : ar SC k 1 8) (hkk : 30 < k) {s : Sto} (h : WH s) (h1 : 0 < s 17 0) : K_Hi_takeBack k s (fun s' => WH s' ∧ s' 17 0 = s 17 0 - 1 ∧ (∀ v, v < 8 → s' k v = s (hRow s) v) ∧ (∀ i, 8 ≤ i → s' k i = s k i) ∧ ∀ k' i, k' ≠ 17 → k' ≠ k → s' k' i = s k' i) := by
  obtain ⟨h0, h2⟩ := h
  refine e_Hi_takeBack hk ⟨by omega, fun c => absurd c (by omega), fun _ s1 e1 => ?_⟩
  have f0 : s1 17 0 = s 17 0 - 1 := by rw [e1, up_eq]
  have f1 : s1 17 1 = s 17 1 := by rw [e1, up_i (by decide)]
  rw [tmod12 (by omega)]
  generalize hr : (s1 17 1 + s1 17 0) % 12 = r
  have hr2 : 0 ≤ r ∧ r < 12 := by omega
  have hrow : ar SC (19 + r.toNat) 1 8 := rwSC_18 hr2
  have e : hRow s = 19 + r.toNat := by
    unfold hRow
    congr 2
    omega
  refine ⟨by omega, hr2, _, k_Cg_copyChips hrow hk (by omega), ?_⟩
  rintro q1 rfl
  refine ⟨⟨?_, ?_⟩, ?_, fun v hv => ?_, fun i hi => ?_, fun k' i h3 h4 => ?_⟩
  · rw [wr_ne (by omega)]; omega
  · rw [wr_ne (by omega)]; omega
  · rw [wr_ne (by omega)]; exact f0
  · rw [wr_eq, cut_lt hv, e, e1, up_k (by omega)]
  · rw [wr_eq]
    unfold cut
    rw [if_neg (by omega), e1, up_k (by omega)]
  · rw [wr_ne h4, e1, up_k h3]
/-- the slots -/
def WS (s : Sto) : Prop := ∀ i, i < 3 → s 32 i = 0 ∨ s 32 i = 1
theorem k_Sl_forgetAll {s : Sto} : K_Sl_forgetAll s (fun s' => (∀ i, i < 3 → s' 32 i = 0) ∧ ∀ k i, k ≠ 32 → s' k i = s k i) := by
  refine e_Sl_forgetAll ?_
  refine loop_inv (α := Sto) (N := 3) (fun j q => (∀ i, i < j → q 32 i = 0) ∧ ∀ k i, k ≠ 32 → q k i = s k i) (fun j q => H_Sl_forgetAll_2 _ j q) (fun j q hj hI ih => ?_) (fun q hI => ?_) 0 s (by omega) ⟨fun i hi => absurd hi (by omega), fun _ _ _ => rfl⟩
  · refine b_Sl_forgetAll_2 ⟨by omega, fun c => absurd c (by omega), fun _ => ⟨by omega, fun s1 e1 => ?_⟩⟩
    rw [nat_suc]
    refine ih s1 ⟨fun i hi => ?_, fun k i hk => by rw [e1, up_k hk]; exact hI.2 k i hk⟩
    rw [e1, toNat_n]
    by_cases c : i = j
    · rw [c, up_eq]
    · rw [up_i c]; exact hI.1 i (by omega)
  · exact b_Sl_forgetAll_2 ⟨by omega, fun _ => hI, fun c => absurd c (by omega)⟩
theorem k_Sl_has {x : Int} {s : Sto} (hx : R32 x) : K_Sl_has x s (fun r s' => s' = s ∧ (r = 1 ∧ 0 ≤ x ∧ x < 3 ∨ r = 0 ∧ ¬ (0 ≤ x ∧ x < 3))) := by
  unfold R32 at hx
  refine e_Sl_has ?_
  repeat' first
    | omega
    | rfl
    | (refine ⟨?_, ?_⟩)
    | intro _
theorem k_Sl_isEmpty {x : Int} {s : Sto} (h : WS s) (hx : 0 ≤ x ∧ x < 3) : K_Sl_isEmpty x s (fun r s' => s' = s ∧ (r = 1 ∧ s 32 x.toNat = 0 ∨ r = 0 ∧ s 32 x.toNat = 1)) := by
  have hx2 : R32 x := by unfold R32; omega
  have h1 := h x.toNat (by omega)
  refine e_Sl_isEmpty ?_
  repeat' first
    | omega
    | rfl
    | (refine ⟨_, k_Sl_has hx2, ?_⟩; rintro _ _ ⟨rfl, _⟩)
    | (refine ⟨?_, ?_⟩)
    | intro _
theorem k_Sl_put {k : Nat} {x : Int} (hk : ar SC k 1 8) (hkk : 36 < k) {s : Sto} (hx : 0 ≤ x ∧ x < 3) : K_Sl_put x k s (fun s' => s' = up (wr s (34 + x.toNat) (cut (s k) (s (34 + x.toNat)))) 32 x.toNat 1) := by
  have hx2 : R32 x := by unfold R32; omega
  refine e_Sl_put hk ⟨_, k_Sl_has hx2, ?_⟩
  rintro r s' ⟨rfl, hr⟩
  refine ⟨by omega, fun c => absurd hr (by omega), fun _ => ⟨hx, _, k_Cg_copyChips hk (rwSC_33 hx) (by omega), ?_⟩⟩
  rintro s1 rfl
  exact ⟨hx, fun s2 e2 => e2⟩
theorem k_Sl_copyTo {k : Nat} {x : Int} (hk : ar SC k 1 8) (hkk : 36 < k) {s : Sto} (hx : 0 ≤ x ∧ x < 3) : K_Sl_copyTo x k s (fun s' => s' = wr s k (cut (s (34 + x.toNat)) (s k))) := by
  have hx2 : R32 x := by unfold R32; omega
  refine e_Sl_copyTo hk ⟨_, k_Sl_has hx2, ?_⟩
  rintro r s' ⟨rfl, hr⟩
  refine ⟨by omega, fun c => absurd hr (by omega), fun _ => ⟨hx, _, k_Cg_copyChips (rwSC_33 hx) hk (by omega), ?_⟩⟩
  rintro s1 rfl
  rfl
