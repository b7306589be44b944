/-! the machine's diagonal form: the least cell, rows and columns cleared -/
def Cf (s : Sto) : Nat → Nat → Int := fun i j => s (45 + i) j
/-- other cells, and the corners that are done, stay -/
def Fr5 (t : Nat) (s s' : Sto) : Prop := (∀ k i, k < 45 ∨ 52 < k → s' k i = s k i) ∧ ∀ i, i < t → s' (45 + i) i = s (45 + i) i
theorem Fr5.refl (t : Nat) (s : Sto) : Fr5 t s s := ⟨fun _ _ _ => rfl, fun _ _ => rfl⟩
theorem Fr5.trans {t : Nat} {a b c : Sto} (h : Fr5 t a b) (h' : Fr5 t b c) : Fr5 t a c := ⟨fun k i hk => (h'.1 k i hk).trans (h.1 k i hk), fun i hi => (h'.2 i hi).trans (h.2 i hi)⟩
/-- the best so far of the cells that P holds -/
def Best (s : Sto) (t N : Nat) (P : Nat → Nat → Prop) (x y : Int) : Prop :=
  (x = -1 ∧ ∀ i j, P i j → s (45 + i) j = 0) ∨ ∃ a b : Nat, x = (a : Int) ∧ y = (b : Int) ∧ (t ≤ a ∧ a < N) ∧ (t ≤ b ∧ b < N) ∧ s (45 + a) b ≠ 0 ∧ (P a b ∧ ∀ i j, P i j → s (45 + i) j ≠ 0 → s (45 + a) b < s (45 + i) j ∨ s (45 + a) b = s (45 + i) j ∧ (a < i ∨ a = i ∧ b ≤ j)) ∧ (s (45 + t) t ≠ 0 → s (45 + t) t ≤ s (45 + a) b → a = t ∧ b = t)
theorem Best.of {s : Sto} {t N : Nat} {P P' : Nat → Nat → Prop} {x y : Int} (h : Best s t N P x y) (e : ∀ i j, P' i j ↔ P i j) : Best s t N P' x y := by
  rcases h with ⟨h1, h2⟩ | ⟨a, b, h1, h2, h3, h4, h5, h6, h7⟩
  · exact Or.inl ⟨h1, fun i j hp => h2 i j ((e i j).mp hp)⟩
  · exact Or.inr ⟨a, b, h1, h2, h3, h4, h5, ⟨(e a b).mpr h6.1, fun i j hp => h6.2 i j ((e i j).mp hp)⟩, h7⟩
def Pij (t N i j : Nat) (i' j' : Nat) : Prop := t ≤ i' ∧ t ≤ j' ∧ j' < N ∧ (i' < i ∨ i' = i ∧ j' < j)
theorem Best.skip {s : Sto} {t N i j : Nat} {x y : Int} (h : Best s t N (Pij t N i j) x y) (hz : s (45 + i) j = 0) : Best s t N (Pij t N i (j + 1)) x y := by
  rcases h with ⟨h1, h2⟩ | ⟨a, b, h1, h2, h3, h4, h5, h6, h7⟩
  · refine Or.inl ⟨h1, fun i' j' hp => ?_⟩
    unfold Pij at hp
    by_cases c : i' = i ∧ j' = j
    · rw [c.1, c.2]; exact hz
    · exact h2 i' j' (by unfold Pij; omega)
  · refine Or.inr ⟨a, b, h1, h2, h3, h4, h5, ⟨by have := h6.1; unfold Pij at this ⊢; omega, fun i' j' hp hn => ?_⟩, h7⟩
    unfold Pij at hp
    by_cases c : i' = i ∧ j' = j
    · rw [c.1, c.2] at hn; exact absurd hz hn
    · exact h6.2 i' j' (by unfold Pij; omega) hn
theorem Best.stay {s : Sto} {t N i j a b : Nat} (h : Best s t N (Pij t N i j) (a : Int) (b : Int)) (hz : s (45 + a) b ≤ s (45 + i) j) : Best s t N (Pij t N i (j + 1)) (a : Int) (b : Int) := by
  rcases h with ⟨h1, _⟩ | ⟨a', b', h1, h2, h3, h4, h5, h6, h7⟩
  · omega
  · have ea : a' = a := by omega
    have eb : b' = b := by omega
    subst ea
    subst eb
    have hp0 := h6.1
    refine Or.inr ⟨a', b', h1, h2, h3, h4, h5, ⟨by unfold Pij at hp0 ⊢; omega, fun i' j' hp hn => ?_⟩, h7⟩
    unfold Pij at hp hp0
    by_cases c : i' = i ∧ j' = j
    · rw [c.1, c.2]; omega
    · exact h6.2 i' j' (by unfold Pij; omega) hn
theorem Best.take {s : Sto} {t N i j : Nat} {x y : Int} (h : Best s t N (Pij t N i j) x y) (hi : t ≤ i ∧ i < N) (hj : t ≤ j ∧ j < N) (hn : s (45 + i) j ≠ 0) (hl : x < 0 ∨ ∃ a b : Nat, x = (a : Int) ∧ y = (b : Int) ∧ s (45 + i) j < s (45 + a) b) : Best s t N (Pij t N i (j + 1)) (i : Int) (j : Int) := by
  refine Or.inr ⟨i, j, rfl, rfl, hi, hj, hn, ⟨by unfold Pij; omega, fun i' j' hp hn' => ?_⟩, fun c1 c2 => ?_⟩
  · unfold Pij at hp
    by_cases c : i' = i ∧ j' = j
    · rw [c.1, c.2]; omega
    · have hp' : Pij t N i j i' j' := by unfold Pij; omega
      rcases h with ⟨h1, h2⟩ | ⟨a, b, h1, h2, h3, h4, h5, h6, h7⟩
      · exact absurd (h2 i' j' hp') hn'
      · rcases hl with hl | ⟨a', b', e1, e2, e3⟩
        · omega
        · rw [show a' = a by omega, show b' = b by omega] at e3
          have := h6.2 i' j' hp' hn'
          omega
  · by_cases c : i = t ∧ j = t
    · exact c
    · exfalso
      have hp' : Pij t N i j t t := by unfold Pij; omega
      rcases h with ⟨h1, h2⟩ | ⟨a, b, h1, h2, h3, h4, h5, h6, h7⟩
      · exact c1 (h2 t t hp')
      · rcases hl with hl | ⟨a', b', e1, e2, e3⟩
        · omega
        · rw [show a' = a by omega, show b' = b by omega] at e3
          have := h6.2 t t hp' c1
          omega
def BlP (N t : Nat) (s : Sto) (r : Int) (s' : Sto) : Prop := Fr5 t s s' ∧ ((r = 0 ∧ s' = s ∧ ∀ i j, t ≤ i → i < N → t ≤ j → j < N → s (45 + i) j = 0) ∨ r = 1 ∧ ∃ a b, (t ≤ a ∧ a < N) ∧ (t ≤ b ∧ b < N) ∧ s (45 + a) b ≠ 0 ∧ (∀ i j, t ≤ i → i < N → t ≤ j → j < N → s (45 + i) j ≠ 0 → s (45 + a) b < s (45 + i) j ∨ s (45 + a) b = s (45 + i) j ∧ (a < i ∨ a = i ∧ b ≤ j)) ∧ (s (45 + t) t ≠ 0 → s (45 + t) t ≤ s (45 + a) b → a = t ∧ b = t) ∧ ∀ i j, i < N → j < N → s' (45 + i) j = s (45 + sw2 t a i) (sw2 t b j))
theorem k_Ma_bringLeastToCorner {t N : Nat} {s : Sto} (hN : s 42 4 = (N : Int)) (hN8 : N ≤ 8) (ht : t < N) (hr : ∀ i j, i < N → j < N → 0 ≤ s (45 + i) j ∧ s (45 + i) j < 500000) : K_Ma_bringLeastToCorner t s (BlP N t s) := by
  refine e_Ma_bringLeastToCorner ?_
  refine loop_inv (α := Int × Int) (N := N) (fun i a => t ≤ i ∧ Best s t N (Pij t N i t) a.1 a.2) (fun i a => H_Ma_bringLeastToCorner_7 (BlP N t s) t a.1 a.2 i s) (fun i a hi hI ih => ?_) (fun a hI => ?_) t (-1, -1) (by omega) ⟨Nat.le_refl t, Or.inl ⟨rfl, fun i j hp => by unfold Pij at hp; omega⟩⟩
  · obtain ⟨i0, i1⟩ := hI
    refine b_Ma_bringLeastToCorner_7 ⟨⟨by omega, by omega⟩, fun c => absurd c (by omega), fun _ => ?_⟩
    refine loop_inv (α := Int × Int) (N := N) (fun j a => t ≤ j ∧ Best s t N (Pij t N i j) a.1 a.2) (fun j a => H_Ma_bringLeastToCorner_19 (BlP N t s) t a.1 a.2 i j s) (fun j a hj hI ih2 => ?_) (fun a hI => ?_) t a (by omega) ⟨Nat.le_refl t, i1⟩
    · obtain ⟨j0, j1⟩ := hI
      have hij := hr i j hi hj
      have hx : a.1 = -1 ∨ ∃ a' b' : Nat, a.1 = (a' : Int) ∧ a.2 = (b' : Int) ∧ a' < N ∧ b' < N := by
        rcases j1 with ⟨h1, _⟩ | ⟨a', b', h1, h2, h3, h4, _⟩
        · exact Or.inl h1
        · exact Or.inr ⟨a', b', h1, h2, h3.2, h4.2⟩
      refine b_Ma_bringLeastToCorner_19 ⟨⟨by omega, by omega⟩, fun c => absurd c (by omega), fun _ => ?_⟩
      rw [nat_suc, toNat_n, toNat_n]
      refine ⟨a.1 < 0 ∨ ∃ a' b' : Nat, a.1 = (a' : Int) ∧ a.2 = (b' : Int) ∧ s (45 + i) j < s (45 + a') b', fun v => (v = 1 ∧ (a.1 < 0 ∨ ∃ a' b' : Nat, a.1 = (a' : Int) ∧ a.2 = (b' : Int) ∧ s (45 + i) j < s (45 + a') b')) ∨ v = 0 ∧ ∃ a' b' : Nat, a.1 = (a' : Int) ∧ a.2 = (b' : Int) ∧ s (45 + a') b' ≤ s (45 + i) j, fun c => Or.inl ⟨rfl, c⟩, fun v hv => ⟨by omega, by omega, by omega, fun c => ih2 a ⟨by omega, j1.skip c⟩, fun c => ⟨by rcases hv with ⟨q, _⟩ | ⟨q, _⟩ <;> omega, fun d => ?_, fun d => ?_⟩⟩, by rcases hx with q | ⟨a', b', q, _⟩ <;> omega, fun c => Or.inl c, fun c => ?_⟩
      · rcases hv with ⟨q, _⟩ | ⟨_, a', b', q1, q2, q3⟩
        · omega
        · obtain ⟨x, y⟩ := a
          dsimp only at q1 q2 j1 ⊢
          subst q1
          subst q2
          exact ih2 ((a' : Int), (b' : Int)) ⟨by omega, j1.stay q3⟩
      · rcases hv with ⟨_, q⟩ | ⟨q, _⟩
        · exact ih2 ((i : Int), (j : Int)) ⟨by omega, j1.take ⟨i0, hi⟩ ⟨j0, hj⟩ c q⟩
        · exact absurd q d
      · obtain ⟨a', b', q1, q2, q3, q4⟩ := hx.resolve_left (by omega)
        have hab := hr a' b' q3 q4
        rw [q1, q2, toNat_n, toNat_n]
        exact ⟨by omega, by omega, by omega, by omega, ⟨by omega, by omega⟩, fun d => Or.inr ⟨rfl, a', b', rfl, rfl, d⟩, fun d => Or.inr ⟨a', b', rfl, rfl, d⟩⟩
    · obtain ⟨j0, j1⟩ := hI
      refine b_Ma_bringLeastToCorner_19 ⟨⟨by omega, by omega⟩, fun _ => ?_, fun c => absurd c (by omega)⟩
      rw [nat_suc]
      exact ih a ⟨by omega, j1.of (fun i' j' => by unfold Pij; omega)⟩
  · obtain ⟨i0, i1⟩ := hI
    refine b_Ma_bringLeastToCorner_7 ⟨⟨by omega, by omega⟩, fun _ => ?_, fun c => absurd c (by omega)⟩
    rcases i1 with ⟨h1, h2⟩ | ⟨a', b', h1, h2, h3, h4, h5, h6, h7⟩
    · refine ⟨by omega, fun c => absurd c (by omega), fun _ => ⟨Fr5.refl t s, Or.inl ⟨rfl, rfl, fun i j c1 c2 c3 c4 => h2 i j (by unfold Pij; omega)⟩⟩⟩
    · rw [h1, h2]
      refine ⟨by omega, fun _ => ⟨_, k_Ma_swapRows hN hN8 (by omega) (by omega), ?_⟩, fun c => absurd c (by omega)⟩
      rintro s7 ⟨f1, f2⟩
      refine ⟨_, k_Ma_swapColumns (N := N) (by rw [f1 42 4 (by omega)]; exact hN) hN8 (by omega) (by omega), ?_⟩
      rintro s12 ⟨f3, f4⟩
      have v : ∀ i j, i < N → j < N → s12 (45 + i) j = s (45 + sw2 t a' i) (sw2 t b' j) := fun i j hi hj => by
        rw [f4 i j (by omega), if_pos hi, f2 i _ (by omega), if_pos (sw2_lt ht h4.2 hj)]
      refine ⟨⟨fun k i hk => (f3 k i hk).trans (f1 k i hk), fun i hi => ?_⟩, Or.inr ⟨rfl, a', b', h3, h4, h5, fun i j c1 c2 c3 c4 c5 => h6.2 i j (by unfold Pij; omega) c5, h7, v⟩⟩
      rw [v i i (by omega) (by omega), (sw2_ge (Nat.le_refl t) h3.1).2 hi, (sw2_ge (Nat.le_refl t) h4.1).2 hi]
