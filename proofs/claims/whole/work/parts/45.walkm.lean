/-! the walk's mathematics -/
def bc (a n : Nat) : Int := sumN n (fun e => if a.testBit e then 1 else 0)
theorem bc_nn (a n : Nat) : 0 ≤ bc a n := sumN_nn (fun i _ => by split <;> decide)
theorem bc_le (a n : Nat) : bc a n ≤ n := by
  have := sumN_le (n := n) (f := fun e => if a.testBit e then (1 : Int) else 0) (g := fun _ => 1) (fun i _ => by split <;> decide)
  rw [sumN_const] at this
  unfold bc
  omega
theorem bc_or {a e n : Nat} (he : e < n) (h : a.testBit e = false) : bc (a ||| 2 ^ e) n = bc a n + 1 := by
  unfold bc
  rw [sumN_up (f := fun i => if a.testBit i then (1 : Int) else 0) he (fun i _ hi => by rw [tb_or]; simp [show ¬ e = i from fun z => hi z.symm])]
  rw [tb_or, h]
  simp
theorem bc_full {a n : Nat} (h : (n : Int) ≤ bc a n) : ∀ e, e < n → a.testBit e = true := by
  intro e he
  apply Classical.byContradiction
  intro c
  have h1 := sumN_up (n := n) (f := fun _ => (1 : Int)) (g := fun i => if i = e then 0 else 1) he (fun i _ hi => if_neg hi)
  have h2 := sumN_le (n := n) (f := fun i => if a.testBit i then (1 : Int) else 0) (g := fun i => if i = e then 0 else 1) (fun i _ => by
    by_cases d : i = e
    · rw [d, if_neg c, if_pos rfl]; decide
    · rw [if_neg d]; split <;> decide)
  rw [sumN_const, if_pos rfl] at h1
  unfold bc at h
  omega
theorem bc_all {a n : Nat} (h : ∀ e, e < n → a.testBit e = true) : bc a n = n := by
  unfold bc
  rw [sumN_congr (g := fun _ => 1) (fun i hi => if_pos (h i hi)), sumN_const]
  omega
theorem bc_sub {a b n : Nat} (h : ∀ e, e < n → a.testBit e = true → b.testBit e = true) : bc a n ≤ bc b n := sumN_le (fun i hi => by
  by_cases c : a.testBit i = true
  · rw [if_pos c, if_pos (h i hi c)]; exact Int.le_refl _
  · rw [if_neg c]; split <;> decide)
/-- as many: the same -/
theorem bc_eq {a b n : Nat} (h : ∀ e, e < n → a.testBit e = true → b.testBit e = true) (hb : bc b n ≤ bc a n) : ∀ e, e < n → a.testBit e = b.testBit e := by
  intro e he
  cases ha : a.testBit e
  · cases hb2 : b.testBit e
    · rfl
    · exfalso
      have h1 := sumN_up (n := n) (f := fun i => if a.testBit i then (1 : Int) else 0) (g := fun i => if i = e then 1 else if a.testBit i then 1 else 0) he (fun i _ hi => if_neg hi)
      have h2 := sumN_le (n := n) (f := fun i => if i = e then (1 : Int) else if a.testBit i then 1 else 0) (g := fun i => if b.testBit i then 1 else 0) (fun i hi => by
        by_cases d : i = e
        · rw [if_pos d, d, if_pos hb2]; decide
        · rw [if_neg d]
          by_cases c : a.testBit i = true
          · rw [if_pos c, if_pos (h i hi c)]; decide
          · rw [if_neg c]; split <;> decide)
      rw [if_pos rfl, if_neg (by rw [ha]; decide)] at h1
      unfold bc at hb
      omega
  · rw [h e he ha]
theorem wl_cases {s : Sto} (h : WG s) (dec : Nat → Nat → Int → Bool) (t : Nat) : (wl s dec (t + 1) = wl s dec t ∧ ∀ e, e < (s 1 1).toNat → bdr (s 2) (s 3) (wl s dec t).1 (wl s dec t).2.1 e = false) ∨ ∃ e v o : Nat, e < (s 1 1).toNat ∧ v < (s 1 0).toNat ∧ o < (s 1 0).toNat ∧ v ≠ (s 1 2).toNat ∧ (wl s dec t).1.testBit v = false ∧ (wl s dec t).1.testBit o = true ∧ ((s 2 e = v ∧ s 3 e = o) ∨ (s 2 e = o ∧ s 3 e = v)) ∧ (wl s dec t).2.1.testBit e = false ∧
    wl s dec (t + 1) = (if dec e v ((wl s dec t).2.2.2 v + 1) then ((wl s dec t).1 ||| 2 ^ v, (wl s dec t).2.1 ||| 2 ^ e, (wl s dec t).2.2.1 ||| 2 ^ e, fu (wl s dec t).2.2.2 v ((wl s dec t).2.2.2 v + 1)) else ((wl s dec t).1, (wl s dec t).2.1 ||| 2 ^ e, (wl s dec t).2.2.1, fu (wl s dec t).2.2.2 v ((wl s dec t).2.2.2 v + 1))) := by
  have hsp := fnd_spec (bdr (s 2) (s 3) (wl s dec t).1 (wl s dec t).2.1) (s 1 1).toNat
  by_cases c : fnd (bdr (s 2) (s 3) (wl s dec t).1 (wl s dec t).2.1) (s 1 1).toNat < (s 1 1).toNat
  · right
    have w := wl_step (s := s) (dec := dec) (t := t) c
    have hb := hsp.2.1 c
    generalize fnd (bdr (s 2) (s 3) (wl s dec t).1 (wl s dec t).2.1) (s 1 1).toNat = e at *
    have hE := h.2.2.2.1 e (by omega)
    have hn := h.1
    have hun := une_un hb
    have hvK : une (s 2) (s 3) (wl s dec t).1 e ≠ (s 1 2).toNat := fun z => by rw [z, wlk_K] at hun; cases hun
    have hu := une_lt (X := (wl s dec t).1) h c
    unfold bdr at hb
    simp only [Bool.and_eq_true, bne_iff_ne, Bool.not_eq_true'] at hb
    refine ⟨e, une (s 2) (s 3) (wl s dec t).1 e, if (wl s dec t).1.testBit (s 2 e).toNat then (s 2 e).toNat else (s 3 e).toNat, c, hu, ?_, hvK, hun, ?_, ?_, hb.2, w⟩
    · split <;> omega
    · by_cases d : (wl s dec t).1.testBit (s 2 e).toNat = true
      · rw [if_pos d]; exact d
      · rw [if_neg d]
        have d : (wl s dec t).1.testBit (s 2 e).toNat = false := by simpa using d
        rw [d] at hb
        have := hb.1
        simpa using this.symm
    · unfold une
      by_cases d : (wl s dec t).1.testBit (s 2 e).toNat = true
      · rw [if_pos d, if_pos d]; right; omega
      · rw [if_neg d, if_neg d]; left; omega
  · left
    have e : fnd (bdr (s 2) (s 3) (wl s dec t).1 (wl s dec t).2.1) (s 1 1).toNat = (s 1 1).toNat := by omega
    refine ⟨wlk_stop e 1, fun i hi => hsp.2.2 i (by omega)⟩
/-- what stands at every step -/
def WI (s : Sto) (a : Wst) : Prop := (∀ e, a.2.2.1.testBit e = true → a.2.1.testBit e = true) ∧ (∀ v, a.1.testBit v = true → v < (s 1 0).toNat) ∧ (∀ e, a.2.1.testBit e = true → e < (s 1 1).toNat) ∧
  (∀ e, a.2.1.testBit e = true → a.1.testBit (s 2 e).toNat = true ∨ a.1.testBit (s 3 e).toNat = true) ∧ (∀ e, a.2.2.1.testBit e = true → a.1.testBit (s 2 e).toNat = true ∧ a.1.testBit (s 3 e).toNat = true) ∧
  bc a.1 (s 1 0).toNat = 1 + bc a.2.2.1 (s 1 1).toNat ∧ sumN (s 1 0).toNat a.2.2.2 = bc a.2.1 (s 1 1).toNat ∧
  (∀ v, v < (s 1 0).toNat → a.1.testBit v = false → a.2.2.2 v = sumN (s 1 1).toNat (fun e => if a.2.1.testBit e = true then dgE (s 2) (s 3) v e else 0)) ∧
  (∀ v, v < (s 1 0).toNat → 0 ≤ a.2.2.2 v ∧ a.2.2.2 v ≤ dgr (Jm s) (s 1 0).toNat v) ∧ (∀ v, v < (s 1 0).toNat → a.1.testBit v = true → v ≠ (s 1 2).toNat → 1 ≤ a.2.2.2 v) ∧ a.2.2.2 (s 1 2).toNat = 0
theorem dgE_nn (F S : Nat → Int) (v e : Nat) : 0 ≤ dgE F S v e := by unfold dgE; split <;> decide
theorem wl_inv {s : Sto} (h : WG s) (dec : Nat → Nat → Int → Bool) (t : Nat) : WI s (wl s dec t) := by
  have hn := h.1
  have hK := h.K
  have hdv : ∀ v, v < (s 1 0).toNat → dgr (Jm s) (s 1 0).toNat v = sumN (s 1 1).toNat (dgE (s 2) (s 3) v) := fun v hv => by rw [← h.Dg hv]; exact h.2.2.2.2.2 v (by omega)
  induction t with
  | zero =>
    have z : ∀ e, (0 : Nat).testBit e = false := Nat.zero_testBit
    refine ⟨fun e q => ?_, fun v q => ?_, fun e q => ?_, fun e q => ?_, fun e q => ?_, ?_, ?_, fun v hv _ => ?_, fun v hv => ?_, fun v hv q hk => ?_, rfl⟩
    · have q : (0 : Nat).testBit e = true := q; rw [z] at q; cases q
    · have q : (2 ^ (s 1 2).toNat).testBit v = true := q
      rw [Nat.testBit_two_pow] at q
      have : (s 1 2).toNat = v := by simpa using q
      omega
    · have q : (0 : Nat).testBit e = true := q; rw [z] at q; cases q
    · have q : (0 : Nat).testBit e = true := q; rw [z] at q; cases q
    · have q : (0 : Nat).testBit e = true := q; rw [z] at q; cases q
    · show bc (2 ^ (s 1 2).toNat) _ = 1 + bc 0 _
      have e1 : bc 0 (s 1 1).toNat = 0 := sumN_z (fun i _ => by rw [z]; rfl)
      have e2 : bc (2 ^ (s 1 2).toNat) (s 1 0).toNat = sumN (s 1 0).toNat (fun i => if i = (s 1 2).toNat then 1 else 0) := sumN_congr (fun i _ => by
        rw [Nat.testBit_two_pow]
        by_cases d : i = (s 1 2).toNat
        · rw [if_pos d, d]; simp
        · rw [if_neg d, if_neg (by simpa using fun q => d q.symm)])
      rw [e1, e2, sumN_one 1 hK]; rfl
    · show sumN _ (fun _ => 0) = bc 0 _
      rw [sumN_zero]
      exact (sumN_z (fun i _ => by rw [z]; rfl)).symm
    · show (0 : Int) = _
      exact (sumN_z (fun i _ => by rw [show (wl s dec 0).2.1 = 0 from rfl, z]; rfl)).symm
    · show (0 : Int) ≤ 0 ∧ (0 : Int) ≤ _
      exact ⟨Int.le_refl 0, (h.dbd hv).1⟩
    · have q : (2 ^ (s 1 2).toNat).testBit v = true := q
      rw [Nat.testBit_two_pow] at q
      have : (s 1 2).toNat = v := by simpa using q
      omega
  | succ t ih =>
    obtain ⟨i1, i2, i3, i4, i5, i6, i7, i8, i9, i10, i11⟩ := ih
    rcases wl_cases h dec t with ⟨e1, -⟩ | ⟨e, v, o, he, hv, ho, hvK, hXv, hXo, hFS, hU, e1⟩
    · rw [e1]; exact ⟨i1, i2, i3, i4, i5, i6, i7, i8, i9, i10, i11⟩
    · have hne := (h.2.2.2.1 e (by omega)).2.2
      -- the count at v
      have hcv := i8 v hv hXv
      have hcnt : (wl s dec t).2.2.2 v + 1 ≤ dgr (Jm s) (s 1 0).toNat v := by
        rw [hdv v hv, hcv]
        have := sumN_up (n := (s 1 1).toNat) (f := fun i => if (wl s dec t).2.1.testBit i = true then dgE (s 2) (s 3) v i else 0) (g := fun i => if i = e then 1 else if (wl s dec t).2.1.testBit i = true then dgE (s 2) (s 3) v i else 0) he (fun i _ hi => if_neg hi)
        rw [if_pos rfl, if_neg (by rw [hU]; decide)] at this
        have h2 := sumN_le (n := (s 1 1).toNat) (f := fun i => if i = e then (1 : Int) else if (wl s dec t).2.1.testBit i = true then dgE (s 2) (s 3) v i else 0) (g := dgE (s 2) (s 3) v) (fun i _ => by
          by_cases d : i = e
          · rw [if_pos d, d]
            unfold dgE
            rw [if_pos (by omega)]; decide
          · rw [if_neg d]
            have := dgE_nn (s 2) (s 3) v i
            split <;> omega)
        omega
      have hcn0 := i9 v hv
      have hsum : sumN (s 1 0).toNat (fu (wl s dec t).2.2.2 v ((wl s dec t).2.2.2 v + 1)) = bc ((wl s dec t).2.1 ||| 2 ^ e) (s 1 1).toNat := by
        rw [bc_or he hU, sumN_up (f := (wl s dec t).2.2.2) hv (fun i _ hi => fu_ne hi), fu_eq, i7]
        omega
      have huse : ∀ u, u < (s 1 0).toNat → (wl s dec t).1.testBit u = false → fu (wl s dec t).2.2.2 v ((wl s dec t).2.2.2 v + 1) u = sumN (s 1 1).toNat (fun i => if ((wl s dec t).2.1 ||| 2 ^ e).testBit i = true then dgE (s 2) (s 3) u i else 0) := fun u hu hXu => by
        have h3 := sumN_up (n := (s 1 1).toNat) (f := fun i => if (wl s dec t).2.1.testBit i = true then dgE (s 2) (s 3) u i else 0) (g := fun i => if ((wl s dec t).2.1 ||| 2 ^ e).testBit i = true then dgE (s 2) (s 3) u i else 0) he (fun i _ hi => by
          rw [tb_or]
          have : decide (e = i) = false := by simpa using fun z => hi z.symm
          rw [this, Bool.or_false])
        rw [h3, ← i8 u hu hXu, if_pos (by rw [tb_or]; simp : ((wl s dec t).2.1 ||| 2 ^ e).testBit e = true), if_neg (by rw [hU]; decide : ¬ (wl s dec t).2.1.testBit e = true)]
        unfold dgE
        by_cases d : u = v
        · rw [d, fu_eq, if_pos (by omega)]; omega
        · have hou : u ≠ o := fun z => by rw [z, hXo] at hXu; cases hXu
          rw [fu_ne d, if_neg (by omega)]; omega
      have hfb : ∀ u, u < (s 1 0).toNat → 0 ≤ fu (wl s dec t).2.2.2 v ((wl s dec t).2.2.2 v + 1) u ∧ fu (wl s dec t).2.2.2 v ((wl s dec t).2.2.2 v + 1) u ≤ dgr (Jm s) (s 1 0).toNat u := fun u hu => by
        by_cases d : u = v
        · rw [d, fu_eq]; omega
        · rw [fu_ne d]; exact i9 u hu
      have hbU : ∀ i, ((wl s dec t).2.1 ||| 2 ^ e).testBit i = true → (wl s dec t).2.1.testBit i = true ∨ i = e := fun i q => by
        rw [tb_or] at q
        simp only [Bool.or_eq_true, decide_eq_true_eq] at q
        exact q.imp id (fun z => z.symm)
      rw [e1]
      by_cases c : dec e v ((wl s dec t).2.2.2 v + 1) = true
      · rw [if_pos c]
        have hbT : ∀ i, ((wl s dec t).2.2.1 ||| 2 ^ e).testBit i = true → (wl s dec t).2.2.1.testBit i = true ∨ i = e := fun i q => by
          rw [tb_or] at q
          simp only [Bool.or_eq_true, decide_eq_true_eq] at q
          exact q.imp id (fun z => z.symm)
        have hup : ∀ u, (wl s dec t).1.testBit u = true → ((wl s dec t).1 ||| 2 ^ v).testBit u = true := fun u q => by rw [tb_or, q]; rfl
        have hvv : ((wl s dec t).1 ||| 2 ^ v).testBit v = true := by rw [tb_or]; simp
        have hends : ((wl s dec t).1 ||| 2 ^ v).testBit (s 2 e).toNat = true ∧ ((wl s dec t).1 ||| 2 ^ v).testBit (s 3 e).toNat = true := by
          rcases hFS with ⟨a, b⟩ | ⟨a, b⟩ <;> rw [a, b, toNat_n, toNat_n]
          · exact ⟨hvv, hup o hXo⟩
          · exact ⟨hup o hXo, hvv⟩
        have hTe : (wl s dec t).2.2.1.testBit e = false := by
          cases z : (wl s dec t).2.2.1.testBit e
          · rfl
          · have := i1 e z; rw [hU] at this; cases this
        refine ⟨fun i q => ?_, fun u q => ?_, fun i q => ?_, fun i q => ?_, fun i q => ?_, ?_, hsum, fun u hu q => ?_, hfb, fun u hu q hk => ?_, ?_⟩ <;> dsimp only at *
        · rw [tb_or]
          rcases hbT i q with z | z
          · rw [i1 i z]; rfl
          · rw [z]; simp
        · rw [tb_or] at q
          simp only [Bool.or_eq_true, decide_eq_true_eq] at q
          rcases q with z | z
          · exact i2 u z
          · omega
        · rcases hbU i q with z | z
          · exact i3 i z
          · omega
        · rcases hbU i q with z | z
          · exact (i4 i z).imp (hup _) (hup _)
          · rw [z]; exact Or.inl hends.1
        · rcases hbT i q with z | z
          · exact ⟨hup _ (i5 i z).1, hup _ (i5 i z).2⟩
          · rw [z]; exact hends
        · rw [bc_or hv hXv, bc_or he hTe, i6]; omega
        · refine huse u hu ?_
          cases z : (wl s dec t).1.testBit u
          · rfl
          · rw [hup u z] at q; cases q
        · by_cases d : u = v
          · rw [d, fu_eq]; omega
          · rw [fu_ne d]
            refine i10 u hu ?_ hk
            rw [tb_or] at q
            have : decide (v = u) = false := by simpa using fun z => d z.symm
            rw [this, Bool.or_false] at q
            exact q
        · rw [fu_ne (fun z => hvK z.symm)]; exact i11
      · rw [if_neg c]
        refine ⟨fun i q => ?_, i2, fun i q => ?_, fun i q => ?_, i5, i6, hsum, huse, hfb, fun u hu q hk => ?_, ?_⟩ <;> dsimp only at *
        · rw [tb_or, i1 i q]; rfl
        · rcases hbU i q with z | z
          · exact i3 i z
          · omega
        · rcases hbU i q with z | z
          · exact i4 i z
          · rw [z]
            rcases hFS with ⟨a, b⟩ | ⟨a, b⟩ <;> rw [a, b, toNat_n, toNat_n]
            · exact Or.inr hXo
            · exact Or.inl hXo
        · by_cases d : u = v
          · rw [d, hXv] at q; cases q
          · rw [fu_ne d]; exact i10 u hu q hk
        · rw [fu_ne (fun z => hvK z.symm)]; exact i11
/-- after as many steps as there are edges none is left to look at -/
theorem wl_end {s : Sto} (h : WG s) (dec : Nat → Nat → Int → Bool) : ∀ e, e < (s 1 1).toNat → bdr (s 2) (s 3) (wl s dec (s 1 1).toNat).1 (wl s dec (s 1 1).toNat).2.1 e = false := by
  have key : ∀ t, (∀ e, e < (s 1 1).toNat → bdr (s 2) (s 3) (wl s dec t).1 (wl s dec t).2.1 e = false) ∨ bc (wl s dec t).2.1 (s 1 1).toNat = t := by
    intro t
    induction t with
    | zero => exact Or.inr (sumN_z (fun i _ => by rw [show (wl s dec 0).2.1 = 0 from rfl, Nat.zero_testBit]; rfl))
    | succ t ih =>
      rcases wl_cases h dec t with ⟨e1, e2⟩ | ⟨e, v, o, he, hv, ho, hvK, hXv, hXo, hFS, hU, e1⟩
      · rw [e1]; exact Or.inl e2
      · rcases ih with z | z
        · exfalso
          have := z e he
          unfold bdr at this
          rcases hFS with ⟨a, b⟩ | ⟨a, b⟩ <;> rw [a, b, toNat_n, toNat_n, hXv, hXo, hU] at this <;> cases this
        · right
          rw [e1]
          have := bc_or he hU
          split <;> dsimp only <;> omega
  rcases key (s 1 1).toNat with z | z
  · exact z
  · intro e he
    have := bc_full (a := (wl s dec (s 1 1).toNat).2.1) (n := (s 1 1).toNat) (by omega) e he
    unfold bdr
    rw [this]
    simp
