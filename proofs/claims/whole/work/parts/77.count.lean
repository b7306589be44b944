/-! counting the trees that hold w and miss B -/
theorem sumN_most {n : Nat} {f : Nat → Int} {c : Int} (hc : 0 ≤ c) (h : ∀ v, v < n → f v = 0 ∨ f v = c) (h1 : ∀ v w, v < n → w < n → f v ≠ 0 → f w ≠ 0 → v = w) : sumN n f ≤ c := by
  by_cases z : ∃ v, v < n ∧ f v ≠ 0
  · obtain ⟨v, hv, hf⟩ := z
    rw [sumN_congr (g := fun u => if u = v then c else 0) (fun u hu => by
      by_cases d : u = v
      · rw [if_pos d, d]
        exact (h v hv).resolve_left hf
      · rw [if_neg d]
        exact Classical.byContradiction fun e => d (h1 u v hu hv e hf)), sumN_one c hv]
    exact Int.le_refl c
  · rw [sumN_z (fun u hu => Classical.byContradiction fun e => z ⟨u, hu, e⟩)]
    exact hc
/-- labels by the same edges: as many parts -/
theorem cntL_le {F S : Nat → Int} {N m : Nat} {T : Nat → Prop} {L L' : Nat → Int} (h : LabP F S N m T L) (h' : LabP F S N m T L') : cntL L N ≤ cntL L' N := by
  have e1 : cntL L N = sumN N (fun v => sumN N (fun u => if u = (L' v).toNat then (if L v = (v : Int) then 1 else 0) else 0)) := sumN_congr (fun v hv => by
    have := h'.1 v hv
    exact (sumN_one _ (by omega)).symm)
  rw [e1, sumN_comm]
  refine sumN_le (fun u hu => ?_)
  by_cases c : L' u = (u : Int)
  · rw [if_pos c]
    refine sumN_most (by decide) (fun v _ => by split; (split; exact Or.inr rfl; exact Or.inl rfl); exact Or.inl rfl) (fun v w hv hw q1 q2 => ?_)
    have a1 : u = (L' v).toNat := Classical.byContradiction fun z => q1 (if_neg z)
    have a2 : u = (L' w).toNat := Classical.byContradiction fun z => q2 (if_neg z)
    have b1 : L v = (v : Int) := Classical.byContradiction fun z => q1 (by rw [if_pos a1, if_neg z])
    have b2 : L w = (w : Int) := Classical.byContradiction fun z => q2 (by rw [if_pos a2, if_neg z])
    have l1 := h'.1 v hv
    have l2 := h'.1 w hw
    have := h'.same h hv hw (by omega)
    omega
  · rw [if_neg c]
    refine Int.le_of_eq (sumN_z (fun v hv => ?_))
    have l1 := h'.1 v hv
    refine if_neg (fun z => c ?_)
    rw [z, l1.2]
    omega
theorem cntL_same {F S : Nat → Int} {N m : Nat} {T : Nat → Prop} {L L' : Nat → Int} (h : LabP F S N m T L) (h' : LabP F S N m T L') : cntL L N = cntL L' N := Int.le_antisymm (cntL_le h h') (cntL_le h' h)
/-- a part of a tree makes no circle -/
theorem lab_forest {s : Sto} (h : WG s) {w T : Nat} (hT : SpT s T) (hw : ∀ e, w.testBit e = true → T.testBit e = true) : ∀ j, j ≤ (s 1 1).toNat → ∃ L, LabP (s 2) (s 3) (s 1 0).toNat j (fun e => w.testBit e = true) L ∧ cntL L (s 1 0).toNat + bc w j = s 1 0 := by
  have hn := h.1
  intro j
  induction j with
  | zero =>
    intro _
    obtain ⟨a, b⟩ := lab_zero (s 2) (s 3) (s 1 0).toNat (fun e => w.testBit e = true) (L := fun v => (v : Int)) (fun v _ => rfl)
    exact ⟨_, a, by rw [b]; show ((s 1 0).toNat : Int) + 0 = _; omega⟩
  | succ j ih =>
    intro hj
    obtain ⟨L, a, b⟩ := ih (by omega)
    have eb : bc w (j + 1) = bc w j + if w.testBit j = true then 1 else 0 := rfl
    cases q : w.testBit j
    · refine ⟨L, lab_same a (fun z => by rw [q] at z; cases z), ?_⟩
      rw [eb, q]
      simpa using b
    · by_cases c : L (s 2 j).toNat = L (s 3 j).toNat
      · exfalso
        obtain ⟨w', hw'⟩ := mask_of (fun e => w.testBit e = true) j
        have hF := h.2.2.2.1 j (by omega)
        have hwj : w'.testBit j = false := by
          cases z : w'.testBit j
          · rfl
          · have := (hw' j).mp z; omega
        refine no_circle h hT (w := w') (e := j) (fun i hi => hw i ((hw' i).mp hi).2) (hw j q) hwj (fun X hX => ?_)
        exact a.2.2 X (fun e he he2 => hX e (by omega) ((hw' e).mpr ⟨he, he2⟩)) _ _ (by omega) (by omega) c
      · obtain ⟨z1, z2⟩ := lab_step (L' := fun v => if L v = L (s 3 j).toNat then L (s 2 j).toNat else L v) (fun e he => h.E e (by omega)) a q c (fun v _ => rfl)
        refine ⟨_, z1, ?_⟩
        rw [z2, eb, q, if_pos rfl]
        omega
theorem RS_LM {s : Sto} (B : Nat) : RS s B (LM s B (s 1 1).toNat) := ⟨fun _ _ _ _ => rfl, fun i hi => by
  have f : fre s (s 1 0).toNat = false := fre_no (fun z => by have := (fre_iff s _).mp z; omega)
  rw [LM_SP, if_neg (fun z => by omega), SPm_z (Or.inr f)]
  exact SPm_nn s B _ i⟩
/-- eliminating a graph's matrix finds its determinant -/
theorem ElP_det {s t t' : Sto} {B N : Nat} {A : Nat → Nat → Int} {r : Int} (h : ElP t N A r t') (hA : ∀ i j, i < N → j < N → A i j = LM s B (s 1 1).toNat i j) : r = det N (LM s B (s 1 1).toNat) := by
  have e : ∀ k, k ≤ N → det k A = det k (LM s B (s 1 1).toNat) := fun k hk => det_ext k (fun i j hi hj => hA i j (by omega) (by omega))
  rcases h.2 with ⟨h1, k, hk, h2, h3⟩ | ⟨h1, h2⟩
  · rw [h1]
    rw [e (k + 1) (by omega)] at h2
    have h4 := h3 k (Nat.le_refl k)
    rw [e k (by omega)] at h4
    exact (LM_zero hk h4 h2).symm
  · rw [h1]
    exact e N (Nat.le_refl N)
def FrM (s s' : Sto) : Prop := (∀ k i, k ≠ 14 → k < 42 ∨ k = 43 ∨ k = 44 ∨ 52 < k → s' k i = s k i) ∧ s' 42 1 = s 42 1
theorem FrM.g {s s' : Sto} (h : FrM s s') : ∀ k i, 1 ≤ k → k ≤ 13 → s' k i = s k i := fun k i _ _ => h.1 k i (by omega) (by omega)
theorem FrM.refl (s : Sto) : FrM s s := ⟨fun _ _ _ _ => rfl, rfl⟩
theorem FrM.trans {a b c : Sto} (h : FrM a b) (h' : FrM b c) : FrM a c := ⟨fun k i h1 h2 => (h'.1 k i h1 h2).trans (h.1 k i h1 h2), h'.2.trans h.2⟩
theorem k_Tr_count {w B T : Nat} {s : Sto} (h : WG s) (hB : B < 2147483648) (hT : SpT s T ∨ w = 0) (hw : ∀ e, w.testBit e = true → T.testBit e = true) (hwM : ∀ e, w.testBit e = true → e < (s 1 1).toNat) (hwB : ∀ e, w.testBit e = true → B.testBit e = false) : K_Tr_count w B s (fun r s' => FrM s s' ∧ r = tau s w B) := by
  have hn := h.1
  have hm := h.2.1
  have hw31 : w < 2147483648 := by
    have := lt_pow hwM
    have := pow_lt31 (m := (s 1 1).toNat) (by omega)
    omega
  refine e_Tr_count ⟨_, k_Gr_findParts h, ?_⟩
  rintro r s3 ⟨a, b, c⟩
  have b' : LabP (s 2) (s 3) (s 1 0).toNat (s 1 1).toNat (fun e => w.testBit e = true) (s3 14) := b.T (fun i hi => bitI_n hw31 (by omega))
  have g1 : WG s3 := h.of (fun k i _ _ => a k i (by omega))
  have e10 : s3 1 0 = s 1 0 := a 1 0 (by decide)
  have e11 : s3 1 1 = s 1 1 := a 1 1 (by decide)
  have e2 : s3 2 = s 2 := funext fun i => a 2 i (by decide)
  have e3 : s3 3 = s 3 := funext fun i => a 3 i (by decide)
  have g2 : LbR s3 := fun v hv => by
    rw [e10] at hv ⊢
    have := b'.1 v hv
    omega
  have hc : cntL (s3 14) (s 1 0).toNat + bc w (s 1 1).toNat = s 1 0 := by
    rcases hT with hT | hT
    · obtain ⟨L, l1, l2⟩ := lab_forest h hT hw (s 1 1).toNat (Nat.le_refl _)
      rw [cntL_same b' l1]
      exact l2
    · subst hT
      obtain ⟨L, l1, l2⟩ : ∃ L, LabP (s 2) (s 3) (s 1 0).toNat (s 1 1).toNat (fun e => (0 : Nat).testBit e = true) L ∧ cntL L (s 1 0).toNat = ((s 1 0).toNat : Int) := by
        obtain ⟨a, b⟩ := lab_zero (s 2) (s 3) (s 1 0).toNat (fun e => (0 : Nat).testBit e = true) (L := fun v => (v : Int)) (fun v _ => rfl)
        refine ⟨_, ⟨a.1, fun e _ z => ?_, fun X _ v w hv hw q => ?_⟩, b⟩
        · have z' : (0 : Nat).testBit e = true := z
          rw [Nat.zero_testBit] at z'; cases z'
        · have : v = w := by omega
          rw [this]
      rw [cntL_same b' l1, l2]
      have : bc 0 (s 1 1).toNat = 0 := sumN_z (fun e _ => by rw [Nat.zero_testBit]; rfl)
      omega
  refine ⟨_, k_Ma_fill (B := B) g1 hB g2, ?_⟩
  rintro s8 ⟨f1, f2, f3⟩
  rw [e10, e11] at f3
  have hRS : RS s3 B (LM s3 B (s3 1 1).toNat) := RS_LM B
  have hMB := hRS.MB g1 g2
  rw [e10, e11] at hMB
  refine ⟨_, k_Ma_eliminate (by omega) f3 hMB, ?_⟩
  rintro r9 s9 h9
  refine ⟨⟨fun k i h1 h2 => ?_, ?_⟩, ?_⟩
  · rw [h9.1 k i (by omega), f1 k i h2, a k i h1]
  · rw [h9.1 42 1 (by omega), f2, a 42 1 (by decide)]
  · have d := ElP_det h9 (s := s3) (B := B) (fun i j _ _ => by rw [e11])
    rw [d, ← e10]
    rw [mtt (s 1 1).toNat (w := w) g1 (by rw [e10, e11, e2, e3]; exact b') (by rw [e10, e11]; exact hc) (fun e he => by rw [e11]; exact hwM e he) hwB (by
      rw [e11]
      have := bc_nn w (s 1 1).toNat
      have := bc_nn B (s 1 1).toNat
      omega)]
    exact tau_of (fun k i _ _ => a k i (by omega)) w B
