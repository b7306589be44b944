/-! clearing the graph; parts of the graph by labels -/
theorem k_Gr_clear {x : Int} {s : Sto} (hx : 2 ≤ x ∧ x ≤ 8) : K_Gr_clear x s (fun s' => WG s' ∧ s' 1 0 = x ∧ s' 1 1 = 0 ∧ s' 1 2 = 0 ∧ ∀ k i, (k = 0 ∨ 13 < k) → s' k i = s k i) := by
  refine e_Gr_clear (fun s1 e1 s2 e2 s3 e3 => ?_)
  have h0 : s3 1 0 = x := by rw [e3, up_i (by decide), e2, up_i (by decide), e1, up_eq]
  have h1 : s3 1 1 = 0 := by rw [e3, up_i (by decide), e2, up_eq]
  have h2 : s3 1 2 = 0 := by rw [e3, up_eq]
  have hf : ∀ k i, (k = 0 ∨ 13 < k) → s3 k i = s k i := fun k i hk => by rw [e3, up_k (by omega), e2, up_k (by omega), e1, up_k (by omega)]
  refine loop_inv (N := 8) (fun j q => (∀ k i, (k < 5 ∨ 13 < k) → q k i = s3 k i) ∧ (∀ v, v < j → q 13 v = 0) ∧ ∀ u v, u < j → v < 8 → q (5 + u) v = 0) (fun j q => H_Gr_clear_17 _ j q) (fun j q hj hI ih => ?_) (fun q hI => ?_) 0 s3 (by omega) ⟨fun _ _ _ => rfl, fun v hv => absurd hv (by omega), fun u v hu => absurd hu (by omega)⟩
  · obtain ⟨i1, i2, i3⟩ := hI
    refine b_Gr_clear_17 ⟨by omega, fun c => absurd c (by omega), fun _ => ⟨by omega, fun s4 e4 => ?_⟩⟩
    rw [toNat_n] at e4
    refine loop_inv (N := 8) (fun i q => (∀ k i, (k < 5 ∨ 13 < k) → q k i = s3 k i) ∧ (∀ v, v < j + 1 → q 13 v = 0) ∧ (∀ u v, u < j → v < 8 → q (5 + u) v = 0) ∧ ∀ v, v < i → q (5 + j) v = 0) (fun i q => H_Gr_clear_32 _ j i q) (fun i q hi hI ih2 => ?_) (fun q hI => ?_) 0 s4 (by omega) ⟨fun k i hk => by rw [e4, up_k (by omega)]; exact i1 k i hk, fun v hv => ?_, fun u v hu hv => by rw [e4, up_k (by omega)]; exact i3 u v hu hv, fun v hv => absurd hv (by omega)⟩
    · obtain ⟨a1, a2, a3, a4⟩ := hI
      refine b_Gr_clear_32 ⟨by omega, fun c => absurd c (by omega), fun _ => ⟨by omega, by omega, fun s5 e5 => ?_⟩⟩
      rw [toNat_n, toNat_n] at e5
      rw [nat_suc]
      refine ih2 s5 ⟨fun k i hk => by rw [e5, up_k (by omega)]; exact a1 k i hk, fun v hv => by rw [e5, up_k (by omega)]; exact a2 v hv, fun u v hu hv => by rw [e5, up_k (by omega)]; exact a3 u v hu hv, fun v hv => ?_⟩
      rw [e5]
      by_cases c : v = i
      · rw [c, up_eq]
      · rw [up_i c]; exact a4 v (by omega)
    · obtain ⟨a1, a2, a3, a4⟩ := hI
      refine b_Gr_clear_32 ⟨by omega, fun _ => ?_, fun c => absurd c (by omega)⟩
      rw [nat_suc]
      refine ih q ⟨a1, a2, fun u v hu hv => ?_⟩
      by_cases c : u = j
      · rw [c]; exact a4 v hv
      · exact a3 u v (by omega) hv
    · rw [e4]
      by_cases c : v = j
      · rw [c, up_eq]
      · rw [up_i c]; exact i2 v (by omega)
  · obtain ⟨i1, i2, i3⟩ := hI
    refine b_Gr_clear_17 ⟨by omega, fun _ => ?_, fun c => absurd c (by omega)⟩
    have g0 : q 1 0 = x := by rw [i1 1 0 (by omega), h0]
    have g1 : q 1 1 = 0 := by rw [i1 1 1 (by omega), h1]
    have g2 : q 1 2 = 0 := by rw [i1 1 2 (by omega), h2]
    refine ⟨⟨by omega, by omega, by omega, fun e he => absurd he (by omega), fun u v hu hv => ?_, fun v hv => ?_⟩, g0, g1, g2, fun k i hk => by rw [i1 k i (by omega)]; exact hf k i hk⟩
    · rw [g1, i3 u v hu hv]; rfl
    · rw [g1, i2 v hv]; rfl
/-- an edge's bit in a set of edges -/
def bitI (x : Int) (e : Nat) : Prop := ¬ iand (ishr x (e : Int)) 1 = 0
/-- how many labels stand for themselves -/
def cntL (L : Nat → Int) (N : Nat) : Int := sumN N (fun v => if L v = v then 1 else 0)
/-- the labels L hold N nodes together along the edges of T among the first m, and no further -/
def LabP (F S : Nat → Int) (N m : Nat) (T : Nat → Prop) (L : Nat → Int) : Prop :=
  (∀ v, v < N → (0 ≤ L v ∧ L v < N) ∧ L (L v).toNat = L v) ∧ (∀ e, e < m → T e → L (F e).toNat = L (S e).toNat) ∧
  ∀ X : Nat → Prop, (∀ e, e < m → T e → (X (F e).toNat ↔ X (S e).toNat)) → ∀ v w, v < N → w < N → L v = L w → (X v ↔ X w)
theorem k_Gr_relabel {x1 x2 : Int} {s : Sto} (h : 2 ≤ s 1 0 ∧ s 1 0 ≤ 8) (h1 : R32 x1) (hL : ∀ v : Nat, (v : Int) < s 1 0 → R32 (s 14 v)) : K_Gr_relabel x1 x2 s (fun s' => (∀ k i, k ≠ 14 → s' k i = s k i) ∧ ∀ v, s' 14 v = if (v : Int) < s 1 0 ∧ s 14 v = x1 then x2 else s 14 v) := by
  unfold R32 at *
  refine e_Gr_relabel ?_
  refine loop_inv (N := (s 1 0).toNat) (fun j q => (∀ k i, k ≠ 14 → q k i = s k i) ∧ ∀ v, q 14 v = if v < j ∧ s 14 v = x1 then x2 else s 14 v) (fun j q => H_Gr_relabel_2 _ x1 x2 j q) (fun j q hj hI ih => ?_) (fun q hI => ?_) 0 s (by omega) ⟨fun _ _ _ => rfl, fun v => (if_neg (by omega)).symm⟩
  · obtain ⟨i1, i2⟩ := hI
    have q0 : q 1 0 = s 1 0 := i1 1 0 (by decide)
    have qj : q 14 j = s 14 j := (i2 j).trans (if_neg (by omega))
    have hj2 := hL j (by omega)
    refine b_Gr_relabel_2 ⟨by omega, fun c => absurd c (by omega), fun _ => ⟨by omega, ?_⟩⟩
    rw [toNat_n, qj]
    refine ⟨by omega, fun c => ?_, fun c => ⟨by omega, fun s1 e1 => ?_⟩⟩
    · rw [nat_suc]
      refine ih q ⟨i1, fun v => ?_⟩
      rw [i2]
      by_cases d : v = j
      · rw [d, if_neg (by omega), if_neg (fun z => c z.2)]
      · exact ite_congr (propext (by constructor <;> intro z <;> omega)) (fun _ => rfl) (fun _ => rfl)
    · rw [nat_suc]
      refine ih s1 ⟨fun k i hk => by rw [e1, up_k hk]; exact i1 k i hk, fun v => ?_⟩
      rw [e1]
      by_cases d : v = j
      · rw [d, up_eq, if_pos ⟨by omega, c⟩]
      · rw [up_i d, i2]
        exact ite_congr (propext (by constructor <;> intro z <;> omega)) (fun _ => rfl) (fun _ => rfl)
  · obtain ⟨i1, i2⟩ := hI
    have q0 : q 1 0 = s 1 0 := i1 1 0 (by decide)
    refine b_Gr_relabel_2 ⟨by omega, fun _ => ⟨i1, fun v => ?_⟩, fun c => absurd c (by omega)⟩
    rw [i2]
    exact ite_congr (propext (by constructor <;> intro z <;> omega)) (fun _ => rfl) (fun _ => rfl)
/-- what one more edge makes of the labels -/
theorem lab_step {F S : Nat → Int} {N m : Nat} {T : Nat → Prop} {L L' : Nat → Int} (hE : ∀ e, e < m + 1 → (0 ≤ F e ∧ F e < N) ∧ 0 ≤ S e ∧ S e < N) (h : LabP F S N m T L) (hT : T m) (hne : L (F m).toNat ≠ L (S m).toNat) (h' : ∀ v, v < N → L' v = if L v = L (S m).toNat then L (F m).toNat else L v) : LabP F S N (m + 1) T L' ∧ cntL L' N = cntL L N - 1 := by
  obtain ⟨a, b, c⟩ := h
  have hm := hE m (by omega)
  have hf := a (F m).toNat (by omega)
  have hs := a (S m).toNat (by omega)
  generalize hk : L (F m).toNat = kp at *
  generalize hl : L (S m).toNat = lo at *
  refine ⟨⟨fun v hv => ?_, fun e he hTe => ?_, fun X hX v w hv hw hvw => ?_⟩, ?_⟩
  · obtain ⟨a1, a2⟩ := a v hv
    rw [h' v hv]
    by_cases d : L v = lo
    · rw [if_pos d]
      refine ⟨hf.1, ?_⟩
      rw [h' _ (by omega), if_neg (by rw [hf.2]; exact hne)]
      exact hf.2
    · rw [if_neg d]
      refine ⟨a1, ?_⟩
      rw [h' _ (by omega), if_neg (by rw [a2]; exact d)]
      exact a2
  · by_cases d : e = m
    · subst d
      rw [h' _ (by omega), h' _ (by omega), hk, hl, if_pos rfl, if_neg hne]
    · have h1 := b e (by omega) hTe
      have h2 := hE e (by omega)
      rw [h' _ (by omega), h' _ (by omega), h1]
  · have hc := c X (fun e he => hX e (by omega))
    have hm2 := hX m (by omega) hT
    have hF : ∀ v, v < N → L v = kp → (X v ↔ X (F m).toNat) := fun v hv q => hc v _ hv (by omega) (q.trans hk.symm)
    have hS : ∀ v, v < N → L v = lo → (X v ↔ X (S m).toNat) := fun v hv q => hc v _ hv (by omega) (q.trans hl.symm)
    rw [h' v hv, h' w hw] at hvw
    by_cases d1 : L v = lo <;> by_cases d2 : L w = lo
    · exact hc v w hv hw (d1.trans d2.symm)
    · rw [if_pos d1, if_neg d2] at hvw
      exact (hS v hv d1).trans (hm2.symm.trans (hF w hw hvw.symm).symm)
    · rw [if_neg d1, if_pos d2] at hvw
      exact (hF v hv hvw).trans (hm2.trans (hS w hw d2).symm)
    · rw [if_neg d1, if_neg d2] at hvw
      exact hc v w hv hw hvw
  · unfold cntL
    rw [sumN_up (f := fun v => if L v = v then 1 else 0) (g := fun v => if L' v = v then 1 else 0) (k := lo.toNat) (by omega) (fun v hv hne2 => ?_)]
    · have e1 : L lo.toNat = (lo.toNat : Int) := by rw [hs.2]; omega
      have e2 : L' lo.toNat = kp := by rw [h' _ (by omega), if_pos hs.2]
      rw [if_pos e1, e2, if_neg (by omega)]
      omega
    · rw [h' v hv]
      have hv2 := a v hv
      by_cases d : L v = lo
      · rw [if_pos d, d]
        have : ¬ kp = (v : Int) := fun q => by
          have : v = kp.toNat := by omega
          rw [this, hf.2] at d
          exact hne d
        rw [if_neg this, if_neg (by omega)]
      · rw [if_neg d]
theorem lab_same {F S : Nat → Int} {N m : Nat} {T : Nat → Prop} {L : Nat → Int} (h : LabP F S N m T L) (hT : T m → L (F m).toNat = L (S m).toNat) : LabP F S N (m + 1) T L := by
  obtain ⟨a, b, c⟩ := h
  refine ⟨a, fun e he hTe => ?_, fun X hX => c X (fun e he => hX e (by omega))⟩
  by_cases d : e = m
  · subst d; exact hT hTe
  · exact b e (by omega) hTe
theorem lab_zero (F S : Nat → Int) (N : Nat) (T : Nat → Prop) {L : Nat → Int} (h : ∀ v, v < N → L v = v) : LabP F S N 0 T L ∧ cntL L N = N := by
  refine ⟨⟨fun v hv => ?_, fun e he => absurd he (by omega), fun X _ v w hv hw q => ?_⟩, ?_⟩
  · rw [h v hv, toNat_n, h v hv]; omega
  · rw [h v hv, h w hw] at q
    rw [show v = w by omega]
  · unfold cntL
    rw [sumN_congr (g := fun _ => 1) (fun v hv => if_pos (h v hv)), sumN_const]
    omega
/-- the picture of edges alone -/
theorem WG.E {s : Sto} (h : WG s) (e : Nat) (he : e < (s 1 1).toNat) : (0 ≤ s 2 e ∧ s 2 e < ((s 1 0).toNat : Int)) ∧ 0 ≤ s 3 e ∧ s 3 e < ((s 1 0).toNat : Int) := by
  have h1 := h.2.2.2.1 e (by omega)
  have h2 := h.1
  omega
def LabS (x : Int) (s s' : Sto) (r : Int) : Prop := (∀ k i, k ≠ 14 → s' k i = s k i) ∧ LabP (s 2) (s 3) (s 1 0).toNat (s 1 1).toNat (bitI x) (s' 14) ∧ r = cntL (s' 14) (s 1 0).toNat
theorem k_Gr_findParts {x : Int} {s : Sto} (h : WG s) : K_Gr_findParts x s (fun r s' => LabS x s s' r) := by
  have hn := h.1
  have hm := h.2.1
  refine e_Gr_findParts ?_
  refine loop_inv (α := Sto) (N := (s 1 0).toNat) (fun j q => (∀ k i, k ≠ 14 → q k i = s k i) ∧ ∀ v : Nat, v < j → q 14 v = (v : Int)) (fun j q => H_Gr_findParts_2 _ x j q) (fun j q hj hI ih => ?_) (fun q hI => ?_) 0 s (by omega) ⟨fun _ _ _ => rfl, fun v hv => absurd hv (by omega)⟩
  · obtain ⟨i1, i2⟩ := hI
    have q0 : q 1 0 = s 1 0 := i1 1 0 (by decide)
    refine b_Gr_findParts_2 ⟨by omega, fun c => absurd c (by omega), fun _ => ⟨by omega, fun s1 e1 => ?_⟩⟩
    rw [nat_suc]
    refine ih s1 ⟨fun k i hk => by rw [e1, up_k hk]; exact i1 k i hk, fun v hv => ?_⟩
    rw [e1, toNat_n]
    by_cases d : v = j
    · rw [d, up_eq]
    · rw [up_i d]; exact i2 v (by omega)
  · obtain ⟨i1, i2⟩ := hI
    have q0 : q 1 0 = s 1 0 := i1 1 0 (by decide)
    refine b_Gr_findParts_2 ⟨by omega, fun _ => ?_, fun c => absurd c (by omega)⟩
    obtain ⟨l1, l2⟩ := lab_zero (s 2) (s 3) (s 1 0).toNat (bitI x) i2
    refine loop_inv (α := Int × Sto) (N := (s 1 1).toNat) (fun j a => (∀ k i, k ≠ 14 → a.2 k i = s k i) ∧ LabP (s 2) (s 3) (s 1 0).toNat j (bitI x) (a.2 14) ∧ a.1 = cntL (a.2 14) (s 1 0).toNat) (fun j a => H_Gr_findParts_30 _ x a.1 j a.2) (fun j a hj hI ih => ?_) (fun a hI => ?_) 0 (q 1 0, q) (by omega) ⟨i1, l1, by rw [l2]; show q 1 0 = _; omega⟩
    · obtain ⟨j1, j2, j3⟩ := hI
      have q0 : a.2 1 0 = s 1 0 := j1 1 0 (by decide)
      have q1 : a.2 1 1 = s 1 1 := j1 1 1 (by decide)
      have ef : a.2 2 j = s 2 j := j1 2 j (by decide)
      have es : a.2 3 j = s 3 j := j1 3 j (by decide)
      obtain ⟨hf, hs⟩ := h.E j hj
      have lf := j2.1 (s 2 j).toNat (by omega)
      have ls := j2.1 (s 3 j).toNat (by omega)
      refine b_Gr_findParts_30 ⟨by omega, fun c => absurd c (by omega), fun _ => ⟨by omega, ?_⟩⟩
      rw [toNat_n, ef, es, nat_suc]
      have hb : R32 (iand (ishr x (j : Int)) 1) := by
        unfold R32 iand
        have h1 := Int32.le_toInt (Int32.ofInt (ishr x (j : Int)) &&& Int32.ofInt 1)
        have h2 := Int32.toInt_lt (Int32.ofInt (ishr x (j : Int)) &&& Int32.ofInt 1)
        omega
      refine ⟨by omega, by omega, by omega, hb, fun c => ?_, fun c => ⟨by omega, fun d => ?_, fun d => ⟨_, k_Gr_relabel (by rw [q0]; exact hn) (by unfold R32; omega) (fun v hv => ?_), ?_⟩⟩⟩
      · exact ih a ⟨j1, lab_same j2 (fun t => absurd c t), j3⟩
      · exact ih a ⟨j1, lab_same j2 (fun _ => d), j3⟩
      · have := j2.1 v (by omega)
        unfold R32
        omega
      · rintro s1 ⟨r1, r2⟩
        obtain ⟨z1, z2⟩ := lab_step (L' := s1 14) (fun e he => h.E e (by omega)) j2 c d (fun v hv => by rw [r2, q0]; exact ite_congr (propext (by constructor <;> intro z <;> omega)) (fun _ => rfl) (fun _ => rfl))
        exact ih (a.1 - 1, s1) ⟨fun k i hk => by show s1 k i = _; rw [r1 k i hk]; exact j1 k i hk, z1, by show a.1 - 1 = _; rw [z2, j3]⟩
    · obtain ⟨j1, j2, j3⟩ := hI
      have q1 : a.2 1 1 = s 1 1 := j1 1 1 (by decide)
      exact b_Gr_findParts_30 ⟨by omega, fun _ => ⟨j1, j2, j3⟩, fun c => absurd c (by omega)⟩
