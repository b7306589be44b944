/-! filling the matrix -/
def lbl (s : Sto) (v : Int) : Nat := (s 14 v.toNat).toNat
/-- the matrix of the graph without the edges of B, its nodes merged as they are labelled -/
def LM (s : Sto) (B m i j : Nat) : Int := (if i = j ∧ fre s i = false then 1 else 0) + sumN m (fun e => if B.testBit e = true then 0 else eJ s (lbl s (s 2 e)) (lbl s (s 3 e)) i j)
theorem k_Ma_fill {B : Nat} {s : Sto} (h : WG s) (hB : B < 2147483648) (hL : LbR s) : K_Ma_fill B s (fun s' => (∀ k i, k < 42 ∨ k = 43 ∨ k = 44 ∨ 52 < k → s' k i = s k i) ∧ s' 42 1 = s 42 1 ∧ MA s' (s 1 0).toNat (LM s B (s 1 1).toNat)) := by
  have hn := h.1
  have hm := h.2.1
  refine e_Ma_fill ?_
  intro s1 e1
  have a1 : ∀ k i, k ≠ 42 → s1 k i = s k i := fun k i hk => by rw [e1, up_wr, wr_ne hk]
  have a4 : s1 42 4 = ((s 1 0).toNat : Int) := by rw [e1, up_wr, wr_eq, fu_eq]; omega
  have a41 : s1 42 1 = s 42 1 := by rw [e1, up_wr, wr_eq, fu_ne (by decide)]
  have fine : ∀ q : Sto, (∀ k i, k < 45 ∨ 52 < k → q k i = s1 k i) → WG q ∧ LbR q ∧ fre q = fre s ∧ q 42 4 = ((s 1 0).toNat : Int) := fun q hq => by
    have hq2 : ∀ k i, k ≠ 42 → (k < 45 ∨ 52 < k) → q k i = s k i := fun k i h1 h2 => (hq k i h2).trans (a1 k i h1)
    refine ⟨h.of (fun k i _ _ => hq2 k i (by omega) (by omega)), fun v hv => ?_, fre_of (funext fun i => hq2 1 i (by omega) (by omega)) (funext fun i => hq2 14 i (by omega) (by omega)), (hq 42 4 (by omega)).trans a4⟩
    rw [hq2 1 0 (by omega) (by omega)] at hv ⊢
    rw [hq2 14 v (by omega) (by omega)]
    exact hL v hv
  generalize hN : (s 1 0).toNat = N at *
  have hN8 : N ≤ 8 := by omega
  refine loop_inv (α := Sto) (N := N) (fun i q => (∀ k i, k < 45 ∨ 52 < k → q k i = s1 k i) ∧ ∀ i' j, i' < i → j ≤ N → q (45 + i') j = if i' = j ∧ fre s i' = false then 1 else 0) (fun i q => H_Ma_fill_13 _ B i q) (fun i q hi hI ih => ?_) (fun q hI => ?_) 0 s1 (by omega) ⟨fun _ _ _ => rfl, fun i' j z _ => absurd z (by omega)⟩
  · obtain ⟨i1, i2⟩ := hI
    obtain ⟨g1, g2, g3, g4⟩ := fine q i1
    refine b_Ma_fill_13 ⟨⟨by omega, by omega⟩, fun c => absurd c (by omega), fun _ => ?_⟩
    refine loop_inv (α := Sto) (N := N + 1) (fun j q => (∀ k i, k < 45 ∨ 52 < k → q k i = s1 k i) ∧ (∀ i' j, i' < i → j ≤ N → q (45 + i') j = if i' = j ∧ fre s i' = false then 1 else 0) ∧ ∀ j', j' < j → q (45 + i) j' = if i = j' ∧ fre s i = false then 1 else 0) (fun j q => H_Ma_fill_23 _ B i j q) (fun j q hj hI ih2 => ?_) (fun q hI => ?_) 0 q (by omega) ⟨i1, i2, fun j' z => absurd z (by omega)⟩
    · obtain ⟨j1, j2, j3⟩ := hI
      obtain ⟨g1, g2, g3, g4⟩ := fine q j1
      have step : ∀ (x : Int) (s2 : Sto), (x = if i = j ∧ fre s i = false then 1 else 0) → s2 = up q (45 + Int.toNat (i : Int)) (Int.toNat (j : Int)) x → H_Ma_fill_23 (fun s' => (∀ k i, k < 42 ∨ k = 43 ∨ k = 44 ∨ 52 < k → s' k i = s k i) ∧ s' 42 1 = s 42 1 ∧ MA s' N (LM s B (s 1 1).toNat)) B i ((j : Int) + 1) s2 := fun x s2 hx e2 => by
        rw [nat_suc]
        rw [toNat_n, toNat_n, up_wr] at e2
        refine ih2 s2 ⟨fun k i' hk => by rw [e2, wr_ne (by omega)]; exact j1 k i' hk, fun i' j' h1 h2 => by rw [e2, wr_ne (by omega)]; exact j2 i' j' h1 h2, fun j' hj' => ?_⟩
        rw [e2, wr_eq]
        by_cases d : j' = j
        · rw [d, fu_eq, hx]
        · rw [fu_ne d]; exact j3 j' (by omega)
      refine b_Ma_fill_23 ⟨⟨by omega, by omega⟩, fun c => absurd c (by omega), fun _ => ⟨by omega, ⟨by omega, by omega⟩, fun c => ⟨by omega, fun s2 e2 => step 0 s2 (by rw [if_neg (fun z => by omega)]) e2⟩, fun c => ⟨_, k_Ma_isFree g1 (by omega) g2, ?_⟩⟩⟩
      rintro r s28 ⟨rfl, hr⟩
      rw [g3] at hr
      refine ⟨by omega, fun c2 => ⟨by omega, fun s2 e2 => step 0 s2 ?_ e2⟩, fun c2 => ⟨by omega, fun s2 e2 => step 1 s2 ?_ e2⟩⟩
      · rw [if_neg (fun z => by have := (hr.resolve_right (fun y => c2 y.1)).2; rw [z.2] at this; cases this)]
      · rw [if_pos ⟨by omega, (hr.resolve_left (fun y => by omega)).2⟩]
    · obtain ⟨j1, j2, j3⟩ := hI
      obtain ⟨g1, g2, g3, g4⟩ := fine q j1
      refine b_Ma_fill_23 ⟨⟨by omega, by omega⟩, fun _ => ?_, fun c => absurd c (by omega)⟩
      rw [nat_suc]
      refine ih q ⟨j1, fun i' j h1 h2 => ?_⟩
      by_cases d : i' = i
      · rw [d]; exact j3 j (by omega)
      · exact j2 i' j (by omega) h2
  · obtain ⟨i1, i2⟩ := hI
    obtain ⟨g1, g2, g3, g4⟩ := fine q i1
    refine b_Ma_fill_13 ⟨⟨by omega, by omega⟩, fun _ => ?_, fun c => absurd c (by omega)⟩
    refine loop_inv (α := Sto) (N := (s 1 1).toNat) (fun e q => (∀ k i, k < 45 ∨ 52 < k → q k i = s1 k i) ∧ ∀ i j, i < N → j ≤ N → q (45 + i) j = LM s B e i j) (fun e q => H_Ma_fill_71 _ B e q) (fun e q he hI ih => ?_) (fun q hI => ?_) 0 q (by omega) ⟨i1, fun i j hi hj => by rw [i2 i j hi hj]; unfold LM; show _ = _ + 0; omega⟩
    · obtain ⟨j1, j2⟩ := hI
      obtain ⟨g1, g2, g3, g4⟩ := fine q j1
      have q2 : ∀ k i, k ≠ 42 → (k < 45 ∨ 52 < k) → q k i = s k i := fun k i h1 h2 => (j1 k i h2).trans (a1 k i h1)
      have hF := h.2.2.2.1 e (by omega)
      have hLa := hL (s 2 e).toNat (by omega)
      have hLb := hL (s 3 e).toNat (by omega)
      have e11 : q 1 1 = s 1 1 := q2 1 1 (by omega) (by omega)
      have e2 : q 2 e = s 2 e := q2 2 e (by omega) (by omega)
      have e3 : q 3 e = s 3 e := q2 3 e (by omega) (by omega)
      have e14 : ∀ v, q 14 v = s 14 v := fun v => q2 14 v (by omega) (by omega)
      have eLM : ∀ i j, LM s B (e + 1) i j = LM s B e i j + if B.testBit e = true then 0 else eJ s (lbl s (s 2 e)) (lbl s (s 3 e)) i j := fun i j => by
        unfold LM
        exact (Int.add_assoc _ _ _).symm
      refine b_Ma_fill_71 ⟨⟨by omega, by omega⟩, fun c => absurd c (by omega), fun _ => ?_⟩
      rw [toNat_n, bit_n hB (by omega), e2, e3, e14, e14]
      refine ⟨by omega, by omega, by omega, by omega, by split <;> omega, fun c => ?_, fun c => ⟨⟨by omega, by omega⟩, fun d => ?_, fun d => ?_⟩⟩
      · rw [nat_suc]
        refine ih q ⟨j1, fun i j hi hj => ?_⟩
        have hb : B.testBit e = true := by
          cases z : B.testBit e
          · rw [z] at c; simp at c
          · rfl
        rw [eLM, if_pos hb, j2 i j hi hj]; omega
      · rw [nat_suc]
        refine ih q ⟨j1, fun i j hi hj => ?_⟩
        have hz : eJ s (lbl s (s 2 e)) (lbl s (s 3 e)) i j = 0 := by
          unfold eJ lbl
          rw [d]
          split
          · rw [Int.sub_self]; simp
          · rfl
        rw [eLM, hz, j2 i j hi hj]
        split <;> omega
      · have hb : ¬ B.testBit e = true := fun z => by rw [if_pos z] at c; omega
        have ea : s 14 (s 2 e).toNat = ((lbl s (s 2 e) : Nat) : Int) := by unfold lbl; omega
        have eb : s 14 (s 3 e).toNat = ((lbl s (s 3 e) : Nat) : Int) := by unfold lbl; omega
        rw [ea, eb] at d ⊢
        refine ⟨_, k_Ma_fillEdge g1 (by rw [q2 1 0 (by omega) (by omega)]; omega) (by rw [q2 1 0 (by omega) (by omega)]; omega) (by omega) g2, ?_⟩
        rintro s2 ⟨f2, v2⟩
        rw [nat_suc]
        refine ih s2 ⟨fun k i hk => (f2 k i hk).trans (j1 k i hk), fun i j hi hj => ?_⟩
        rw [v2, eLM, if_neg hb, j2 i j hi hj]
        unfold eJ
        rw [g3]
    · obtain ⟨j1, j2⟩ := hI
      obtain ⟨g1, g2, g3, g4⟩ := fine q j1
      have e11 : q 1 1 = s 1 1 := (j1 1 1 (by omega)).trans (a1 1 1 (by omega))
      exact b_Ma_fill_71 ⟨⟨by omega, by omega⟩, fun _ => ⟨fun k i hk => (j1 k i (by omega)).trans (a1 k i (by omega)), (j1 42 1 (by omega)).trans a41, g4, j2⟩, fun c => absurd c (by omega)⟩
