/-! recurrent states and spanning trees: the two ways -/
/-- a spanning tree, as a set of edges -/
def SpT (s : Sto) (T : Nat) : Prop := (∀ e, T.testBit e = true → e < (s 1 1).toNat) ∧ bc T (s 1 1).toNat = (s 1 0).toNat - 1 ∧ ∀ X : Nat → Prop, X (s 1 2).toNat → (∀ e, e < (s 1 1).toNat → T.testBit e = true → (X (s 2 e).toNat ↔ X (s 3 e).toNat)) → ∀ v, v < (s 1 0).toNat → X v
/-- the tree of a state -/
def trOf (s : Sto) (c : Nat → Int) : Nat := (wl s (decC s c) (s 1 1).toNat).2.2.1
theorem Rec.marked {s : Sto} (h : WG s) {c : Nat → Int} (hc : Rec (Jm s) (s 1 2).toNat (s 1 0).toNat c) : ∀ v, v < (s 1 0).toNat → (wl s (decC s c) (s 1 1).toNat).1.testBit v = true := by
  have hn := h.1
  intro v hv
  cases z : (wl s (decC s c) (s 1 1).toNat).1.testBit v
  · exfalso
    have hch := wl_chips h (fun v hv hk => (hc.1 v hv hk).2) (s 1 1).toNat
    have hI := wl_inv h (decC s c) (s 1 1).toNat
    have hend := wl_end h (decC s c)
    have hK : (wl s (decC s c) (s 1 1).toNat).1.testBit (s 1 2).toNat = true := wlk_K (s 2) (s 3) (s 1 1).toNat (s 1 2).toNat (decC s c) (s 1 1).toNat
    generalize wl s (decC s c) (s 1 1).toNat = a at *
    refine hc.2 v hv (rnd_unb (U := fun u => a.1.testBit u = false) h.Jnn (fun q => by rw [hK] at q; cases q) (fun u hu hUu f hf => ?_) _ v hv z)
    have huK : u ≠ (s 1 2).toNat := fun q => by rw [q, hK] at hUu; cases hUu
    have h1 := (hch u hu huK).1 hUu
    have h2 := hI.2.2.2.2.2.2.2.1 u hu hUu
    have h3 : sumN (s 1 0).toNat f ≤ sumN (s 1 0).toNat (fun w => if a.1.testBit w = true then Jm s u w else 0) := sumN_le (fun w hw => by
      have hj := h.Jnn u w hu hw
      rcases hf w hw with q | ⟨q1, q2⟩
      · rw [q]; split <;> omega
      · rw [q2, if_pos (by simpa using q1)]; exact Int.le_refl _)
    rw [J_in h (by omega)] at h3
    have h4 := sumN_le (n := (s 1 1).toNat) (f := fun e => if (s 2 e = u ∧ a.1.testBit (s 3 e).toNat = true) ∨ (s 3 e = u ∧ a.1.testBit (s 2 e).toNat = true) then (1 : Int) else 0) (g := fun e => if a.2.1.testBit e = true then dgE (s 2) (s 3) u e else 0) (fun e he => by
      by_cases d : (s 2 e = u ∧ a.1.testBit (s 3 e).toNat = true) ∨ (s 3 e = u ∧ a.1.testBit (s 2 e).toNat = true)
      · rw [if_pos d]
        have hb := hend e he
        have hU : a.2.1.testBit e = true := by
          cases q : a.2.1.testBit e
          · unfold bdr at hb
            rcases d with ⟨d1, d2⟩ | ⟨d1, d2⟩ <;> rw [d1, toNat_n, hUu, d2, q] at hb <;> cases hb
          · rfl
        rw [if_pos hU]
        unfold dgE
        rw [if_pos (d.imp (fun z => z.1) (fun z => z.1))]
        exact Int.le_refl 1
      · rw [if_neg d]
        have := dgE_nn (s 2) (s 3) u e
        split <;> omega)
    show sumN (s 1 0).toNat f < dgr (Jm s) (s 1 0).toNat u - c u
    omega
  · rfl
/-- what a walk has marked hangs on the sink by the edges of its tree -/
theorem wl_span {s : Sto} (h : WG s) (dec : Nat → Nat → Int → Bool) {X : Nat → Prop} (hX : X (s 1 2).toNat) (hT : ∀ e, e < (s 1 1).toNat → (wl s dec (s 1 1).toNat).2.2.1.testBit e = true → (X (s 2 e).toNat ↔ X (s 3 e).toNat)) : ∀ t, t ≤ (s 1 1).toNat → ∀ v, (wl s dec t).1.testBit v = true → X v := by
  intro t
  induction t with
  | zero =>
    intro _ v q
    have q : (2 ^ (s 1 2).toNat).testBit v = true := q
    rw [Nat.testBit_two_pow] at q
    have : (s 1 2).toNat = v := by simpa using q
    rw [← this]; exact hX
  | succ t ih =>
    intro ht u hu
    rcases wl_cases h dec t with ⟨e1, -⟩ | ⟨e, v, o, he, hv, ho, hvK, hXv, hXo, hFS, hU, e1⟩
    · rw [e1] at hu; exact ih (by omega) u hu
    · have hm := (wl_more h dec (t + 1) ((s 1 1).toNat - (t + 1))).2.2 e
      rw [show t + 1 + ((s 1 1).toNat - (t + 1)) = (s 1 1).toNat by omega] at hm
      rw [e1] at hu hm
      by_cases q : dec e v ((wl s dec t).2.2.2 v + 1) = true
      · rw [if_pos q] at hu hm
        dsimp only at hu hm
        by_cases d : u = v
        · have h1 := hT e he (hm (by rw [tb_or]; simp))
          have h2 := ih (by omega) o hXo
          rw [d]
          rcases hFS with ⟨a, b⟩ | ⟨a, b⟩ <;> rw [a, b, toNat_n, toNat_n] at h1
          · exact h1.mpr h2
          · exact h1.mp h2
        · have hd : decide (v = u) = false := by simpa using fun z => d z.symm
          rw [tb_or, hd, Bool.or_false] at hu
          exact ih (by omega) u hu
      · rw [if_neg q] at hu
        exact ih (by omega) u hu
/-- a walk that marks all finds a spanning tree -/
theorem wl_SpT {s : Sto} (h : WG s) (dec : Nat → Nat → Int → Bool) (ha : ∀ v, v < (s 1 0).toNat → (wl s dec (s 1 1).toNat).1.testBit v = true) : SpT s (wl s dec (s 1 1).toNat).2.2.1 := by
  have hI := wl_inv h dec (s 1 1).toNat
  have hn := h.1
  refine ⟨fun e q => hI.2.2.1 e (hI.1 e q), ?_, fun X hX hT v hv => wl_span h dec hX hT _ (Nat.le_refl _) v (ha v hv)⟩
  have := hI.2.2.2.2.2.1
  rw [bc_all ha] at this
  omega
theorem Rec.tree {s : Sto} (h : WG s) {c : Nat → Int} (hc : Rec (Jm s) (s 1 2).toNat (s 1 0).toNat c) : SpT s (trOf s c) := wl_SpT h _ (hc.marked h)
/-- the state of a recurrent state's tree is that state -/
theorem Rec.back {s : Sto} (h : WG s) {c c0 : Nat → Int} (hc : Rec (Jm s) (s 1 2).toNat (s 1 0).toNat c) {v : Nat} (hv : v < (s 1 0).toNat) (hk : v ≠ (s 1 2).toNat) : treeC s (decT (trOf s c)) (s 1 1).toNat c0 v = c v := by
  have e := wl_tree h (decC s c) (s 1 1).toNat (Nat.le_refl _)
  have hm := hc.marked h v hv
  have hch := (wl_chips h (fun v hv hk => (hc.1 v hv hk).2) (s 1 1).toNat v hv hk).2 hm
  unfold treeC trOf
  rw [← e, if_pos ⟨hm, hk⟩, hch]
  omega
/-- the walk by a spanning tree marks all, and finds it -/
theorem SpT.marked {s : Sto} (h : WG s) {T : Nat} (hT : SpT s T) : ∀ v, v < (s 1 0).toNat → (wl s (decT T) (s 1 1).toNat).1.testBit v = true := by
  refine hT.2.2 (fun v => (wl s (decT T) (s 1 1).toNat).1.testBit v = true) (wlk_K _ _ _ _ _ _) (fun e he hTe => ?_)
  -- an edge of the tree that was looked at has both ends marked
  have key : ∀ t, ∀ i, (wl s (decT T) t).2.1.testBit i = true → T.testBit i = true → (wl s (decT T) t).1.testBit (s 2 i).toNat = true ∧ (wl s (decT T) t).1.testBit (s 3 i).toNat = true := by
    intro t
    induction t with
    | zero => intro i q; have q : (0 : Nat).testBit i = true := q; rw [Nat.zero_testBit] at q; cases q
    | succ t ih =>
      intro i q hTi
      rcases wl_cases h (decT T) t with ⟨e1, -⟩ | ⟨e, v, o, he, hv, ho, hvK, hXv, hXo, hFS, hU, e1⟩
      · rw [e1] at q ⊢; exact ih i q hTi
      · rw [e1] at q ⊢
        by_cases di : i = e
        · have hd : decT T e v ((wl s (decT T) t).2.2.2 v + 1) = true := by rw [← di]; exact hTi
          rw [if_pos hd, di]
          dsimp only
          rw [tb_or, tb_or]
          rcases hFS with ⟨a, b⟩ | ⟨a, b⟩ <;> rw [a, b, toNat_n, toNat_n, hXo] <;> simp
        · have hd : decide (e = i) = false := by simpa using fun z => di z.symm
          have q2 : (wl s (decT T) t).2.1.testBit i = true := by
            split at q <;> dsimp only at q <;> rw [tb_or, hd, Bool.or_false] at q <;> exact q
          obtain ⟨a, b⟩ := ih i q2 hTi
          split <;> dsimp only
          · rw [tb_or, tb_or, a, b]; exact ⟨rfl, rfl⟩
          · exact ⟨a, b⟩
  have hb := wl_end h (decT T) e he
  cases q : (wl s (decT T) (s 1 1).toNat).2.1.testBit e
  · unfold bdr at hb
    rw [q] at hb
    simp only [Bool.not_false, Bool.and_true, bne_eq_false_iff_eq] at hb
    rw [hb]
  · obtain ⟨a, b⟩ := key _ e q hTe
    rw [a, b]
theorem SpT.found {s : Sto} (h : WG s) {T : Nat} (hT : SpT s T) : (wl s (decT T) (s 1 1).toNat).2.2.1 = T := by
  have hS := wl_SpT h (decT T) (hT.marked h)
  have hI := wl_inv h (decT T) (s 1 1).toNat
  -- what it found lies in T
  have sub : ∀ t, ∀ i, (wl s (decT T) t).2.2.1.testBit i = true → T.testBit i = true := by
    intro t
    induction t with
    | zero => intro i q; have q : (0 : Nat).testBit i = true := q; rw [Nat.zero_testBit] at q; cases q
    | succ t ih =>
      intro i q
      rcases wl_cases h (decT T) t with ⟨e1, -⟩ | ⟨e, v, o, he, hv, ho, hvK, hXv, hXo, hFS, hU, e1⟩
      · rw [e1] at q; exact ih i q
      · rw [e1] at q
        by_cases hd : decT T e v ((wl s (decT T) t).2.2.2 v + 1) = true
        · rw [if_pos hd] at q
          dsimp only at q
          by_cases di : i = e
          · rw [di]; exact hd
          · have hd2 : decide (e = i) = false := by simpa using fun z => di z.symm
            rw [tb_or, hd2, Bool.or_false] at q
            exact ih i q
        · rw [if_neg hd] at q
          exact ih i q
  have he := bc_eq (n := (s 1 1).toNat) (fun e _ => sub _ e) (by rw [hT.2.1, hS.2.1]; exact Int.le_refl _)
  apply Nat.eq_of_testBit_eq
  intro i
  by_cases c : i < (s 1 1).toNat
  · exact he i c
  · cases q1 : (wl s (decT T) (s 1 1).toNat).2.2.1.testBit i
    · cases q2 : T.testBit i
      · rfl
      · exact absurd (hT.1 i q2) c
    · exact absurd (hS.1 i q1) c
/-- a tree's state is recurrent, and its tree is that tree -/
theorem SpT.recur {s : Sto} (h : WG s) {T : Nat} (hT : SpT s T) {c0 c : Nat → Int} (hc : ∀ v, v < (s 1 0).toNat → v ≠ (s 1 2).toNat → c v = treeC s (decT T) (s 1 1).toNat c0 v) : Rec (Jm s) (s 1 2).toNat (s 1 0).toNat c ∧ trOf s c = T := by
  have hm := hT.marked h
  have hI := wl_inv h (decT T) (s 1 1).toNat
  have hval : ∀ v, v < (s 1 0).toNat → v ≠ (s 1 2).toNat → c v = dgr (Jm s) (s 1 0).toNat v - (wl s (decT T) (s 1 1).toNat).2.2.2 v := fun v hv hk => by
    rw [hc v hv hk]
    unfold treeC
    rw [if_pos ⟨hm v hv, hk⟩]
  have hst : ∀ v, v < (s 1 0).toNat → v ≠ (s 1 2).toNat → 0 ≤ c v ∧ c v < dgr (Jm s) (s 1 0).toNat v := fun v hv hk => by
    have h1 := hI.2.2.2.2.2.2.2.2.1 v hv
    have h2 := hI.2.2.2.2.2.2.2.2.2.1 v hv (hm v hv) hk
    rw [hval v hv hk]; omega
  -- the two walks are one
  have hrun : ∀ t, t ≤ (s 1 1).toNat → wl s (decT T) t = wl s (decC s c) t := wl_alike (fun t ht q => by
    have hb := (fnd_spec (bdr (s 2) (s 3) (wl s (decT T) t).1 (wl s (decT T) t).2.1) (s 1 1).toNat).2.1 q
    have w := wl_step (s := s) (dec := decT T) (t := t) q
    have hu := une_lt (X := (wl s (decT T) t).1) h q
    have hun := une_un hb
    generalize fnd (bdr (s 2) (s 3) (wl s (decT T) t).1 (wl s (decT T) t).2.1) (s 1 1).toNat = e at *
    generalize une (s 2) (s 3) (wl s (decT T) t).1 e = v at *
    have hk : v ≠ (s 1 2).toNat := fun z => by rw [z, wlk_K] at hun; cases hun
    have hx : decC s c e v ((wl s (decT T) t).2.2.2 v + 1) = decide ((wl s (decT T) (s 1 1).toNat).2.2.2 v - 1 < (wl s (decT T) t).2.2.2 v + 1) := by
      show decide (dgr (Jm s) (s 1 0).toNat v - 1 - c v < _) = _
      rw [hval v hu hk]
      exact decide_eq_decide.mpr (by omega)
    rw [hx]
    cases qd : decT T e v ((wl s (decT T) t).2.2.2 v + 1)
    · rw [qd] at w
      simp only [if_neg (by decide : ¬ (false = true))] at w
      -- v is marked later, with a larger count
      have later : ∀ d, (wl s (decT T) (t + 1 + d)).1.testBit v = false ∧ (wl s (decT T) t).2.2.2 v + 1 ≤ (wl s (decT T) (t + 1 + d)).2.2.2 v ∨ (wl s (decT T) t).2.2.2 v + 2 ≤ (wl s (decT T) (t + 1 + d)).2.2.2 v := by
        intro d
        induction d with
        | zero => left; rw [Nat.add_zero, w]; dsimp only; rw [fu_eq]; exact ⟨hun, Int.le_refl _⟩
        | succ d ih =>
          rcases wl_cases h (decT T) (t + 1 + d) with ⟨e1, -⟩ | ⟨e', v', o, he, hv, ho, hvK, hXv, hXo, hFS, hU, e1⟩
          · rw [show t + 1 + (d + 1) = t + 1 + d + 1 from rfl, e1]; exact ih
          · rw [show t + 1 + (d + 1) = t + 1 + d + 1 from rfl, e1]
            by_cases dv : v = v'
            · right
              have : (wl s (decT T) t).2.2.2 v + 1 ≤ (wl s (decT T) (t + 1 + d)).2.2.2 v := by rcases ih with z | z <;> omega
              rw [← dv]
              split <;> dsimp only <;> rw [fu_eq] <;> omega
            · have hd : decide (v' = v) = false := by simpa using fun z => dv z.symm
              split <;> dsimp only <;> simp only [tb_or, hd, Bool.or_false, fu_ne dv] <;> exact ih
      have := later ((s 1 1).toNat - (t + 1))
      rw [show t + 1 + ((s 1 1).toNat - (t + 1)) = (s 1 1).toNat by omega] at this
      rcases this with z | z
      · rw [hm v hu] at z; cases z.1
      · exact (decide_eq_false (by omega)).symm
    · rw [qd] at w
      simp only [if_true] at w
      have := ((wl_more h (decT T) (t + 1) ((s 1 1).toNat - (t + 1))).2.1 v (by rw [w]; dsimp only; rw [tb_or]; simp)).2
      rw [show t + 1 + ((s 1 1).toNat - (t + 1)) = (s 1 1).toNat by omega, w] at this
      dsimp only at this
      rw [fu_eq] at this
      exact (decide_eq_true (by omega)).symm)
  have hend := hrun (s 1 1).toNat (Nat.le_refl _)
  refine ⟨⟨hst, fun v hv => wl_burnt h (s 1 1).toNat v hv (by rw [← hend]; exact hm v hv)⟩, ?_⟩
  unfold trOf
  rw [← hend]
  exact hT.found h
/-- the level of a recurrent state: how many edges its walk doesn't look at -/
theorem Rec.level {s : Sto} (h : WG s) {c : Nat → Int} (hc : Rec (Jm s) (s 1 2).toNat (s 1 0).toNat c) (h0 : c (s 1 2).toNat = 0) : sumN (s 1 0).toNat c - (s 1 1 - s 13 (s 1 2).toNat) = s 1 1 - bc (wl s (decC s c) (s 1 1).toNat).2.1 (s 1 1).toNat := by
  have hI := wl_inv h (decC s c) (s 1 1).toNat
  have hm := hc.marked h
  have hn := h.1
  have hE := h.2.1
  have e1 : sumN (s 1 0).toNat (fun v => dgr (Jm s) (s 1 0).toNat v) = 2 * s 1 1 := by
    have : sumN (s 1 0).toNat (fun v => dgr (Jm s) (s 1 0).toNat v) = sumN (s 1 0).toNat (fun v => sumN (s 1 1).toNat (fun e => dgE (s 2) (s 3) v e)) := sumN_congr (fun v hv => by
      rw [← h.Dg hv]; exact h.2.2.2.2.2 v (by omega))
    rw [this, sumN_comm]
    have : sumN (s 1 1).toNat (fun e => sumN (s 1 0).toNat (fun v => dgE (s 2) (s 3) v e)) = sumN (s 1 1).toNat (fun _ => 2) := sumN_congr (fun e he => by
      have hF := h.2.2.2.1 e (by omega)
      have : sumN (s 1 0).toNat (fun v => dgE (s 2) (s 3) v e) = sumN (s 1 0).toNat (fun v => (if v = (s 2 e).toNat then (1 : Int) else 0) + if v = (s 3 e).toNat then 1 else 0) := sumN_congr (fun v hv => by
        unfold dgE
        by_cases a : v = (s 2 e).toNat
        · rw [if_pos (by omega), if_pos a, if_neg (by omega)]; rfl
        · by_cases b : v = (s 3 e).toNat
          · rw [if_pos (by omega), if_neg a, if_pos b]; rfl
          · rw [if_neg (by omega), if_neg a, if_neg b]; rfl)
      rw [this, sumN_add, sumN_one _ (by omega), sumN_one _ (by omega)]; rfl)
    rw [this, sumN_const]
    omega
  have hsum := hI.2.2.2.2.2.2.1
  have e2 := sumN_up (n := (s 1 0).toNat) (f := fun v => dgr (Jm s) (s 1 0).toNat v - (wl s (decC s c) (s 1 1).toNat).2.2.2 v) (g := c) h.K (fun v hv hk => by
    have := (wl_chips h (fun v hv hk => (hc.1 v hv hk).2) (s 1 1).toNat v hv hk).2 (hm v hv)
    omega)
  rw [sumN_sub, e1, hsum, h0, hI.2.2.2.2.2.2.2.2.2.2] at e2
  have := h.Dg h.K
  omega
