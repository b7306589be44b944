/-! degrees and joinings; connected graphs have no closed set without the sink -/
theorem jnE_row {F S : Nat → Int} {N e : Nat} (h : (0 ≤ F e ∧ F e < N) ∧ (0 ≤ S e ∧ S e < N) ∧ F e ≠ S e) (v : Nat) : sumN N (fun w => jnE F S v w e) = dgE F S v e := by
  obtain ⟨h1, h2, h3⟩ := h
  unfold dgE
  by_cases c : F e = v
  · rw [if_pos (Or.inl c), ← sumN_one (n := N) (k := (S e).toNat) 1 (by omega)]
    refine sumN_congr (fun w _ => ?_)
    unfold jnE
    exact ite_congr (propext (by constructor <;> intro q <;> omega)) (fun _ => rfl) (fun _ => rfl)
  · by_cases d : S e = v
    · rw [if_pos (Or.inr d), ← sumN_one (n := N) (k := (F e).toNat) 1 (by omega)]
      refine sumN_congr (fun w _ => ?_)
      unfold jnE
      exact ite_congr (propext (by constructor <;> intro q <;> omega)) (fun _ => rfl) (fun _ => rfl)
    · rw [if_neg (by omega)]
      exact sumN_z (fun w _ => if_neg (by omega))
theorem WG.Dg {s : Sto} (h : WG s) {v : Nat} (hv : v < (s 1 0).toNat) : s 13 v = dgr (Jm s) (s 1 0).toNat v := by
  have hn := h.1
  rw [h.2.2.2.2.2 v (by omega)]
  have e : dgr (Jm s) (s 1 0).toNat v = sumN (s 1 0).toNat (fun w => sumN (s 1 1).toNat (fun i => jnE (s 2) (s 3) v w i)) := sumN_congr (fun w hw => h.2.2.2.2.1 v w (by omega) (by omega))
  rw [e, sumN_comm]
  refine sumN_congr (fun i hi => (jnE_row ?_ v).symm)
  have h1 := h.2.2.2.1 i (by omega)
  omega
theorem WG.Jz {s : Sto} (h : WG s) {v : Nat} (hv : v < 8) : Jm s v v = 0 := by
  show s (5 + v) v = 0
  rw [h.2.2.2.2.1 v v hv hv]
  refine sumN_z (fun e he => if_neg ?_)
  have h1 := h.2.2.2.1 e (by omega)
  omega
theorem WG.Jnn {s : Sto} (h : WG s) : ∀ u w, u < (s 1 0).toNat → w < (s 1 0).toNat → 0 ≤ Jm s u w := fun u w hu hw => by
  have hn := h.1
  exact (h.J (by omega) (by omega)).1
theorem WG.Jsym {s : Sto} (h : WG s) : ∀ u w, u < (s 1 0).toNat → w < (s 1 0).toNat → Jm s u w = Jm s w u := fun u w hu hw => by
  have hn := h.1
  show s (5 + u) w = s (5 + w) u
  rw [h.2.2.2.2.1 u w (by omega) (by omega), h.2.2.2.2.1 w u (by omega) (by omega), jn_sym]
theorem WG.K {s : Sto} (h : WG s) : (s 1 2).toNat < (s 1 0).toNat := by have := h.2.2.1; omega
theorem Conn.cut {s : Sto} (h : WG s) (hC : Conn s) : Cut (Jm s) (s 1 2).toNat (s 1 0).toNat := by
  intro X hK ⟨v, hv, hX⟩
  obtain ⟨L, l1, l2⟩ := hC
  apply Classical.byContradiction
  intro hn
  have key : ∀ e, e < (s 1 1).toNat → True → (X (s 2 e).toNat ↔ X (s 3 e).toNat) := by
    intro e he _
    have h1 := h.2.2.2.1 e (by omega)
    have h2 := h.1
    have pos : ∀ a b : Nat, a < 8 → b < 8 → ((s 2 e = a ∧ s 3 e = b) ∨ (s 2 e = b ∧ s 3 e = a)) → 0 < Jm s a b := fun a b ha hb q => by
      show 0 < s (5 + a) b
      rw [h.2.2.2.2.1 a b ha hb]
      have := sumN_ge (n := (s 1 1).toNat) (f := jnE (s 2) (s 3) a b) (fun i _ => by unfold jnE; split <;> decide) he
      unfold jnE at this
      rw [if_pos q] at this
      unfold jn jnE
      omega
    constructor
    · intro q
      apply Classical.byContradiction
      intro q2
      exact hn ⟨(s 2 e).toNat, (s 3 e).toNat, by omega, by omega, q, q2, pos _ _ (by omega) (by omega) (by omega)⟩
    · intro q
      apply Classical.byContradiction
      intro q2
      exact hn ⟨(s 3 e).toNat, (s 2 e).toNat, by omega, by omega, q, q2, pos _ _ (by omega) (by omega) (by omega)⟩
  exact hK ((l1.2.2 X key v _ hv h.K (cntL_one l1 l2 hv h.K)).mp hX)
/-- a connected graph of two nodes or more has no node without edges -/
theorem Conn.deg {s : Sto} (h : WG s) (hC : Conn s) {v : Nat} (hv : v < (s 1 0).toNat) (hk : v ≠ (s 1 2).toNat) : 0 < dgr (Jm s) (s 1 0).toNat v := by
  obtain ⟨x, y, hx, hy, h1, h2, h3⟩ := Conn.cut h hC (fun u => u = v) (fun q => hk q.symm) ⟨v, hv, rfl⟩
  subst h1
  have := sumN_ge (n := (s 1 0).toNat) (f := Jm s x) (fun w hw => h.Jnn x w hx hw) hy
  unfold dgr
  omega
theorem loop_wf {α : Type} (I H : α → Prop) (μ : α → Nat) (hs : ∀ a, I a → (∀ a', I a' → μ a' < μ a → H a') → H a) : ∀ a, I a → H a := by
  have key : ∀ d a, μ a < d → I a → H a := by
    intro d
    induction d with
    | zero => intro a h; omega
    | succ d ih => intro a h hI; exact hs a hI (fun a' hI' h' => ih a' (by omega) hI')
  exact fun a hI => key (μ a + 1) a (by omega) hI
