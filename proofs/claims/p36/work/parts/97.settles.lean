/-! the law's settling: what stabilizing is, once more -/
theorem SI.start {s : Sto} {k : Nat} {B : Int} (hkk : 41 < k) (hc : ChOK s k B) : SI s k (wr s 41 (fun _ => 0)) := by
  have z41 : wr s 41 (fun _ => 0) 41 = fun _ => 0 := funext fun i => wr_eq _ _ _ _
  refine ⟨fun k' i h1 h2 => wr_ne h2, fun v hv => by rw [wr_ne (by omega)]; exact hc.1 v hv, fun v hv hz => by rw [wr_ne (by omega)]; exact hc.2.1 v hv hz, ?_, fun v hv hk => ?_, fun v _ => by rw [wr_eq]; exact Int.le_refl 0, wr_eq _ _ _ _, ?_⟩
  · exact Int.le_of_eq (sumN_congr (fun i _ => wr_ne (by omega)))
  · rw [wr_ne (by omega), z41, lap_zero]
    omega
  · rw [z41]
    exact LAP.zero
theorem stl_ex {s : Sto} {k : Nat} {B : Int} (hB : 0 ≤ B) (hkk : 41 < k) (h : WG s) (hC : Conn s) (hc : ChOK s k B) : ∃ f, Stl (Jm s) (nK s) (nN s) (s k) f ∧ sumN (nN s) f ≤ 56 * B := by
  have key : ∀ d : Nat, ∀ q, SI s k q → 56 * B - sumN (nN s) (q 41) < d → ∃ f, Stl (Jm s) (nK s) (nN s) (s k) f ∧ sumN (nN s) f ≤ 56 * B := by
    intro d
    induction d with
    | zero =>
      intro q hI hd
      have b1 : sumN (nN s) (q 41) ≤ 56 * B := hI.bound h hC hc hB
      omega
    | succ d ih =>
      intro q hI hd
      by_cases st : Stb (Jm s) (nK s) (nN s) (q k)
      · exact ⟨_, hI.stl hkk h st, hI.bound h hC hc hB⟩
      · have ex : ∃ v, v < nN s ∧ v ≠ nK s ∧ 0 < dgr (Jm s) (nN s) v ∧ dgr (Jm s) (nN s) v ≤ q k v := Classical.byContradiction fun z => st (fun v hv hk hd => Classical.byContradiction fun y => z ⟨v, hv, hk, hd, by omega⟩)
        obtain ⟨v, hv, hk, h1, h2⟩ := ex
        have hI2 := hI.step (t := 1) hkk h hv hk h1 (by decide) (by rw [Int.one_mul]; exact h2)
        refine ih _ hI2 ?_
        have e : sumN (nN s) (wr (wr q k (giveF s v 1 (q k))) 41 (fu (q 41) v (q 41 v + 1)) 41) = sumN (nN s) (q 41) + 1 := by
          rw [sumN_congr (g := fu (q 41) v (q 41 v + 1)) (fun i _ => wr_eq _ _ _ _), sumN_up (f := q 41) (k := v) hv (fun i _ hne => fu_ne hne), fu_eq]
          omega
        rw [e]
        omega
  have z41 : wr s 41 (fun _ => 0) 41 = fun _ => 0 := funext fun i => wr_eq _ _ _ _
  exact key (56 * B + 1).toNat _ (SI.start hkk hc) (by rw [z41, sumN_zero]; omega)
section
variable {J : Nat → Nat → Int} {K N : Nat}
theorem Stl.congrK {c c' f : Nat → Int} (h : Stl J K N c f) (e : ∀ v, v < N → v ≠ K → c v = c' v) : Stl J K N c' f :=
  ⟨h.1, h.2.1, fun v hv hk hd => by have := h.2.2.1 v hv hk hd; dsimp only at this ⊢; rw [← e v hv hk]; exact this, fun g h1 h2 h3 => h.2.2.2 g h1 h2 (fun v hv hk hd => by have := h3 v hv hk hd; dsimp only at this ⊢; rw [e v hv hk]; exact this)⟩
theorem Stl.zero {c : Nat → Int} (h : Stb J K N c) : Stl J K N c (fun _ => 0) :=
  ⟨fun _ _ => Int.le_refl 0, rfl, fun v hv hk hd => by have := h v hv hk hd; dsimp only; rw [lap_zero]; omega, LAP.zero⟩
end
/-- what firing one by one stands at -/
def StI (b : Sto) (q : Sto) (x8 : Int) : Prop := SameG b q ∧ OK q ∧ ∃ g, SI b 187 g ∧ (∀ v, v < 8 → q 187 v = g 187 v) ∧ (∀ v, v < nN b → q 193 v = g 41 v) ∧ sumN (nN b) (q 193) = x8
theorem StI.q {b q q' : Sto} {x8 : Int} (h : StI b q x8) (E : Eqv q q') (hi : Ah q q') : StI b q' x8 := by
  obtain ⟨h1, h2, g, h3, h4, h5, h6⟩ := h
  exact ⟨h1.trans E.same, E.ok h2, g, h3, fun v hv => (E.c v).trans (h4 v hv), fun v hv => (hi 193 v (by decide)).trans (h5 v hv), by rw [sumN_congr (fun v _ => hi 193 v (by decide))]; exact h6⟩
