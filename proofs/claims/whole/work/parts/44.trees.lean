/-! treeOf and toStateOf -/
theorem wl_step {s : Sto} {dec : Nat → Nat → Int → Bool} {t : Nat} (hlt : fnd (bdr (s 2) (s 3) (wl s dec t).1 (wl s dec t).2.1) (s 1 1).toNat < (s 1 1).toNat) : wl s dec (t + 1) = (if dec (fnd (bdr (s 2) (s 3) (wl s dec t).1 (wl s dec t).2.1) (s 1 1).toNat) (une (s 2) (s 3) (wl s dec t).1 (fnd (bdr (s 2) (s 3) (wl s dec t).1 (wl s dec t).2.1) (s 1 1).toNat)) ((wl s dec t).2.2.2 (une (s 2) (s 3) (wl s dec t).1 (fnd (bdr (s 2) (s 3) (wl s dec t).1 (wl s dec t).2.1) (s 1 1).toNat)) + 1) then ((wl s dec t).1 ||| 2 ^ une (s 2) (s 3) (wl s dec t).1 (fnd (bdr (s 2) (s 3) (wl s dec t).1 (wl s dec t).2.1) (s 1 1).toNat), (wl s dec t).2.1 ||| 2 ^ fnd (bdr (s 2) (s 3) (wl s dec t).1 (wl s dec t).2.1) (s 1 1).toNat, (wl s dec t).2.2.1 ||| 2 ^ fnd (bdr (s 2) (s 3) (wl s dec t).1 (wl s dec t).2.1) (s 1 1).toNat, fu (wl s dec t).2.2.2 (une (s 2) (s 3) (wl s dec t).1 (fnd (bdr (s 2) (s 3) (wl s dec t).1 (wl s dec t).2.1) (s 1 1).toNat)) ((wl s dec t).2.2.2 (une (s 2) (s 3) (wl s dec t).1 (fnd (bdr (s 2) (s 3) (wl s dec t).1 (wl s dec t).2.1) (s 1 1).toNat)) + 1)) else ((wl s dec t).1, (wl s dec t).2.1 ||| 2 ^ fnd (bdr (s 2) (s 3) (wl s dec t).1 (wl s dec t).2.1) (s 1 1).toNat, (wl s dec t).2.2.1, fu (wl s dec t).2.2.2 (une (s 2) (s 3) (wl s dec t).1 (fnd (bdr (s 2) (s 3) (wl s dec t).1 (wl s dec t).2.1) (s 1 1).toNat)) ((wl s dec t).2.2.2 (une (s 2) (s 3) (wl s dec t).1 (fnd (bdr (s 2) (s 3) (wl s dec t).1 (wl s dec t).2.1) (s 1 1).toNat)) + 1))) := by
  rw [show wl s dec (t + 1) = wstep (s 2) (s 3) (s 1 1).toNat dec (wl s dec t) from rfl]
  unfold wstep
  simp only
  rw [if_pos hlt]
theorem k_Tr_treeOf {k : Nat} (hk : ar SC k 1 8) (hkk : 54 < k) {s : Sto} (h : WG s) (hc : ∀ v, v < 8 → 0 ≤ s k v ∧ s k v ≤ 1000000) : K_Tr_treeOf k s (fun r s' => (∀ k' i, k' ≠ 54 → s' k' i = s k' i) ∧ r = ((wl s (decC s (s k)) (s 1 1).toNat).2.2.1 : Nat)) := by
  have hn := h.1
  have hm := h.2.1
  have hK := h.2.2.1
  refine e_Tr_treeOf hk ⟨_, k_Cg_clearChips arSC_54, ?_⟩
  rintro s0 rfl
  have e12 : wr s 54 (cut (fun _ => 0) (s 54)) 1 2 = (((s 1 2).toNat : Nat) : Int) := by rw [wr_ne (by decide)]; omega
  rw [e12, ishl_one _ (by have := h.K; omega)]
  refine loop_inv (α := Int × Int × Int × Sto) (N := (s 1 1).toNat) (fun t a => (∀ k' i, k' ≠ 54 → a.2.2.2 k' i = s k' i) ∧ (∀ v, v < 8 → a.2.2.2 54 v = (wl s (decC s (s k)) t).2.2.2 v) ∧ a.1 = ((wl s (decC s (s k)) t).2.2.1 : Nat) ∧ a.2.1 = ((wl s (decC s (s k)) t).2.1 : Nat) ∧ a.2.2.1 = ((wl s (decC s (s k)) t).1 : Nat)) (fun t a => H_Tr_treeOf_25 _ k a.1 a.2.1 a.2.2.1 t a.2.2.2) (fun t a ht hI ih => ?_) (fun a hI => ?_) 0 (0, 0, ((2 ^ (s 1 2).toNat : Nat) : Int), wr s 54 (cut (fun _ => 0) (s 54))) (by omega) ⟨fun k' i hk' => wr_ne hk', fun v hv => by show wr s 54 (cut (fun _ => 0) (s 54)) 54 v = 0; rw [wr_eq, cut_lt hv], rfl, rfl, rfl⟩
  · obtain ⟨x2, x3, x4, q⟩ := a
    obtain ⟨i1, i2, i3, i4, i5⟩ := hI
    dsimp only at i1 i2 i3 i4 i5 ⊢
    subst i3 i4 i5
    obtain ⟨b1, b2, b3, b4⟩ := wl_bd (dec := decC s (s k)) h t
    have q11 : q 1 1 = s 1 1 := i1 1 1 (by decide)
    have qF : q 2 = s 2 := funext fun i => i1 2 i (by decide)
    have qS : q 3 = s 3 := funext fun i => i1 3 i (by decide)
    have hq : WG q := h.of (fun k' i h1 h2 => i1 k' i (by omega))
    have p31 : (2 : Nat) ^ 20 < 2147483648 := by decide
    have p8 : (2 : Nat) ^ 8 < 2147483648 := by decide
    refine b_Tr_treeOf_25 hk ⟨by omega, fun c => absurd c (by omega), fun _ => ⟨_, k_Tr_lowestBorderEdge hq (by omega) (by omega), ?_⟩⟩
    rw [qF, qS, q11]
    rintro r q' ⟨rfl, hr⟩
    have hsp := fnd_spec (bdr (s 2) (s 3) (wl s (decC s (s k)) t).1 (wl s (decC s (s k)) t).2.1) (s 1 1).toNat
    have wst := wl_step (s := s) (dec := decC s (s k)) (t := t)
    have wsp := wlk_stop (F := s 2) (S := s 3) (M := (s 1 1).toNat) (K := (s 1 2).toNat) (dec := decC s (s k)) (t := t)
    generalize he : fnd (bdr (s 2) (s 3) (wl s (decC s (s k)) t).1 (wl s (decC s (s k)) t).2.1) (s 1 1).toNat = e at hr hsp wst wsp
    refine ⟨_, k_Gr_hasEdge hq.2.1 (by unfold R32; omega), ?_⟩
    rintro r2 q'' ⟨rfl, hr2⟩
    refine ⟨by omega, fun c => ?_, fun c => ⟨i1, ?_⟩⟩
    · have hlt : e < (s 1 1).toNat := by omega
      have hre : r = (e : Int) := by omega
      subst hre
      have wst := wst hlt
      have hu := une_lt (X := (wl s (decC s (s k)) t).1) h hlt
      refine ⟨_, by have := k_Tr_unmarkedEnd (X := (wl s (decC s (s k)) t).1) (e := e) hq (by omega) (by omega); exact this, ?_⟩
      rw [qF, qS]
      rintro r3 q3 ⟨rfl, rfl⟩
      generalize hv : une (s 2) (s 3) (wl s (decC s (s k)) t).1 e = v at hu wst
      rw [toNat_n]
      refine ⟨by omega, by omega, fun s1 e1 => ⟨by omega, ?_⟩⟩
      have g0 : s1 1 0 = s 1 0 := by rw [e1, up_k (by decide), i1 1 0 (by decide)]
      have f54 : s1 54 v = (wl s (decC s (s k)) t).2.2.2 v + 1 := by rw [e1, up_eq, i2 v (by omega)]
      have f1 : ∀ k' i, k' ≠ 54 → s1 k' i = s k' i := fun k' i hk' => by rw [e1, up_k hk']; exact i1 k' i hk'
      refine ⟨_, k_Gr_degreeOf (by rw [g0]; exact hn) (by unfold R32; omega), ?_⟩
      rintro r4 s2 ⟨rfl, hr4⟩
      rw [toNat_n] at hr4
      have hD := h.Dg hu
      have hd := h.dbd hu
      have e13 := f1 13 v (by decide)
      have ek := f1 k v (by omega)
      have hcv := hc v (by omega)
      have bv := b4 v
      have er4 : r4 = dgr (Jm s) (s 1 0).toNat v := by omega
      rw [f54, ek, er4, ior_bit (by omega) (by omega)]
      have f54a : ∀ u, u < 8 → s2 54 u = fu (wl s (decC s (s k)) t).2.2.2 v ((wl s (decC s (s k)) t).2.2.2 v + 1) u := fun u hu8 => by
        rw [e1]
        unfold fu
        by_cases d : u = v
        · rw [d, up_eq, if_pos rfl, i2 v (by omega)]
        · rw [up_i d, if_neg d]; exact i2 u hu8
      refine ⟨by omega, by omega, fun c2 => ?_, fun c2 => ?_⟩
      · rw [nat_suc]
        have hdec : decC s (s k) e v ((wl s (decC s (s k)) t).2.2.2 v + 1) = false := by show decide (dgr (Jm s) (s 1 0).toNat v - 1 - s k v < _) = false; exact decide_eq_false (by omega)
        rw [hdec] at wst
        simp only [if_neg (by decide : ¬ (false = true))] at wst
        refine ih (_, _, _, s2) ⟨f1, fun u hu8 => ?_, ?_, ?_, ?_⟩ <;> dsimp only <;> rw [wst]
        · exact f54a u hu8
      · rw [nat_suc, ior_bit (by omega) (by omega), ior_bit (by omega) (by omega)]
        have hdec : decC s (s k) e v ((wl s (decC s (s k)) t).2.2.2 v + 1) = true := by show decide (dgr (Jm s) (s 1 0).toNat v - 1 - s k v < _) = true; exact decide_eq_true (by omega)
        rw [hdec] at wst
        simp only [if_true] at wst
        refine ih (_, _, _, s2) ⟨f1, fun u hu8 => ?_, ?_, ?_, ?_⟩ <;> dsimp only <;> rw [wst]
        · exact f54a u hu8
    · have hnl : e = (s 1 1).toNat := by omega
      have := wsp hnl ((s 1 1).toNat - t)
      rw [show t + ((s 1 1).toNat - t) = (s 1 1).toNat by omega] at this
      show _ = (((wlk _ _ _ _ _ (s 1 1).toNat).2.2.1 : Nat) : Int)
      rw [this]
  · obtain ⟨x2, x3, x4, q⟩ := a
    obtain ⟨i1, i2, i3, i4, i5⟩ := hI
    dsimp only at i1 i2 i3 i4 i5 ⊢
    have q11 : q 1 1 = s 1 1 := i1 1 1 (by decide)
    exact b_Tr_treeOf_25 hk ⟨by omega, fun _ => ⟨i1, i3⟩, fun c => absurd c (by omega)⟩
theorem tb_or (a b i : Nat) : (a ||| 2 ^ b).testBit i = (a.testBit i || decide (b = i)) := by
  rw [Nat.testBit_or, Nat.testBit_two_pow]
theorem une_un {F S : Nat → Int} {X U e : Nat} (h : bdr F S X U e = true) : X.testBit (une F S X e) = false := by
  unfold bdr at h
  unfold une
  cases c1 : X.testBit (F e).toNat <;> cases c2 : X.testBit (S e).toNat <;> simp_all
theorem wlk_K (F S : Nat → Int) (M K : Nat) (dec : Nat → Nat → Int → Bool) (t : Nat) : (wlk F S M K dec t).1.testBit K = true := by
  induction t with
  | zero => show (2 ^ K).testBit K = true; simp
  | succ t ih =>
    show (wstep F S M dec (wlk F S M K dec t)).1.testBit K = true
    unfold wstep
    simp only
    split
    · split
      · rw [tb_or, ih]; rfl
      · exact ih
    · exact ih
/-- the chips that a walk leaves: the degree less the edges used when a node was marked -/
def treeC (s : Sto) (dec : Nat → Nat → Int → Bool) (t : Nat) (c : Nat → Int) (v : Nat) : Int := if (wl s dec t).1.testBit v = true ∧ v ≠ (s 1 2).toNat then dgr (Jm s) (s 1 0).toNat v - (wl s dec t).2.2.2 v else c v
theorem k_Tr_toStateOf {k T : Nat} (hk : ar SC k 1 8) (hkk : 54 < k) (hT : T < 2147483648) {s : Sto} (h : WG s) : K_Tr_toStateOf T k s (fun s' => (∀ k' i, k' ≠ 54 → k' ≠ k → s' k' i = s k' i) ∧ ∀ v, v < 8 → s' k v = treeC s (decT T) (s 1 1).toNat (s k) v) := by
  have hn := h.1
  have hm := h.2.1
  have hK := h.2.2.1
  refine e_Tr_toStateOf hk ⟨_, k_Cg_clearChips arSC_54, ?_⟩
  rintro s0 rfl
  have e12 : wr s 54 (cut (fun _ => 0) (s 54)) 1 2 = (((s 1 2).toNat : Nat) : Int) := by rw [wr_ne (by decide)]; omega
  rw [e12, ishl_one _ (by have := h.K; omega)]
  refine loop_inv (α := Int × Int × Sto) (N := (s 1 1).toNat) (fun t a => (∀ k' i, k' ≠ 54 → k' ≠ k → a.2.2 k' i = s k' i) ∧ (∀ v, v < 8 → a.2.2 54 v = (wl s (decT T) t).2.2.2 v) ∧ (∀ v, v < 8 → a.2.2 k v = treeC s (decT T) t (s k) v) ∧ a.1 = ((wl s (decT T) t).2.1 : Nat) ∧ a.2.1 = ((wl s (decT T) t).1 : Nat)) (fun t a => H_Tr_toStateOf_23 _ T k a.1 a.2.1 t a.2.2) (fun t a ht hI ih => ?_) (fun a hI => ?_) 0 (0, ((2 ^ (s 1 2).toNat : Nat) : Int), wr s 54 (cut (fun _ => 0) (s 54))) (by omega) ⟨fun k' i hk' _ => wr_ne hk', fun v hv => by show wr s 54 (cut (fun _ => 0) (s 54)) 54 v = 0; rw [wr_eq, cut_lt hv], fun v hv => ?_, rfl, rfl⟩
  · obtain ⟨x3, x4, q⟩ := a
    obtain ⟨i1, i2, i3, i4, i5⟩ := hI
    dsimp only at i1 i2 i3 i4 i5 ⊢
    subst i4 i5
    obtain ⟨b1, b2, b3, b4⟩ := wl_bd (dec := decT T) h t
    have q11 : q 1 1 = s 1 1 := i1 1 1 (by decide) (by omega)
    have qF : q 2 = s 2 := funext fun i => i1 2 i (by decide) (by omega)
    have qS : q 3 = s 3 := funext fun i => i1 3 i (by decide) (by omega)
    have hq : WG q := h.of (fun k' i h1 h2 => i1 k' i (by omega) (by omega))
    have p31 : (2 : Nat) ^ 20 < 2147483648 := by decide
    have p8 : (2 : Nat) ^ 8 < 2147483648 := by decide
    refine b_Tr_toStateOf_23 hk ⟨by omega, fun c => absurd c (by omega), fun _ => ⟨_, k_Tr_lowestBorderEdge hq (by omega) (by omega), ?_⟩⟩
    rw [qF, qS, q11]
    rintro r q' ⟨rfl, hr⟩
    have hsp := fnd_spec (bdr (s 2) (s 3) (wl s (decT T) t).1 (wl s (decT T) t).2.1) (s 1 1).toNat
    have wst := wl_step (s := s) (dec := decT T) (t := t)
    have wsp := wlk_stop (F := s 2) (S := s 3) (M := (s 1 1).toNat) (K := (s 1 2).toNat) (dec := decT T) (t := t)
    generalize he : fnd (bdr (s 2) (s 3) (wl s (decT T) t).1 (wl s (decT T) t).2.1) (s 1 1).toNat = e at hr hsp wst wsp
    refine ⟨_, k_Gr_hasEdge hq.2.1 (by unfold R32; omega), ?_⟩
    rintro r2 q'' ⟨rfl, hr2⟩
    refine ⟨by omega, fun c => ?_, fun c => ⟨i1, fun v hv => ?_⟩⟩
    · have hlt : e < (s 1 1).toNat := by omega
      have hre : r = (e : Int) := by omega
      subst hre
      have wst := wst hlt
      have hu := une_lt (X := (wl s (decT T) t).1) h hlt
      have hun := une_un (hsp.2.1 hlt)
      refine ⟨_, by have := k_Tr_unmarkedEnd (X := (wl s (decT T) t).1) (e := e) hq (by omega) (by omega); exact this, ?_⟩
      rw [qF, qS]
      rintro r3 q3 ⟨rfl, rfl⟩
      generalize hv : une (s 2) (s 3) (wl s (decT T) t).1 e = v at hu wst hun
      have hvK : v ≠ (s 1 2).toNat := fun z => by rw [z, wlk_K] at hun; cases hun
      rw [toNat_n]
      refine ⟨by omega, by omega, fun s1 e1 => ?_⟩
      have g0 : s1 1 0 = s 1 0 := by rw [e1, up_k (by decide), i1 1 0 (by decide) (by omega)]
      have f54 : s1 54 v = (wl s (decT T) t).2.2.2 v + 1 := by rw [e1, up_eq, i2 v (by omega)]
      have f1 : ∀ k' i, k' ≠ 54 → k' ≠ k → s1 k' i = s k' i := fun k' i hk' hk2 => by rw [e1, up_k hk']; exact i1 k' i hk' hk2
      have f54a : ∀ u, u < 8 → s1 54 u = fu (wl s (decT T) t).2.2.2 v ((wl s (decT T) t).2.2.2 v + 1) u := fun u hu8 => by
        rw [e1]
        unfold fu
        by_cases d : u = v
        · rw [d, up_eq, if_pos rfl, i2 v (by omega)]
        · rw [up_i d, if_neg d]; exact i2 u hu8
      have fk : ∀ u, s1 k u = q3 k u := fun u => by rw [e1, up_k (by omega)]
      have hb := bit_n (a := T) (e := e) hT (by omega)
      rw [hb]
      refine ⟨by split <;> decide, fun c2 => ?_, fun c2 => ⟨_, k_Gr_degreeOf (by rw [g0]; exact hn) (by unfold R32; omega), ?_⟩⟩
      · have hdec : decT T e v ((wl s (decT T) t).2.2.2 v + 1) = false := by
          show T.testBit e = false
          cases z : T.testBit e
          · rfl
          · rw [z] at c2; exact absurd c2 (by decide)
        rw [nat_suc, ior_bit (by omega) (by omega)]
        rw [hdec] at wst
        simp only [if_neg (by decide : ¬ (false = true))] at wst
        refine ih (_, _, s1) ⟨f1, fun u hu8 => ?_, fun u hu8 => ?_, ?_, ?_⟩ <;> dsimp only
        · rw [wst]; exact f54a u hu8
        · rw [fk, i3 u hu8]
          unfold treeC
          rw [wst]
          dsimp only
          by_cases d : u = v
          · rw [d, if_neg (fun z => by rw [hun] at z; cases z.1), if_neg (fun z => by rw [hun] at z; cases z.1)]
          · rw [fu_ne d]
        · rw [wst]
        · rw [wst]
      · rintro r4 s2 ⟨rfl, hr4⟩
        rw [toNat_n] at hr4
        have hD := h.Dg hu
        have e13 := f1 13 v (by decide) (by omega)
        have hdec : decT T e v ((wl s (decT T) t).2.2.2 v + 1) = true := by
          show T.testBit e = true
          cases z : T.testBit e
          · rw [z] at c2; exact absurd rfl c2
          · rfl
        refine ⟨by omega, by omega, fun s3 e3 => ?_⟩
        rw [nat_suc, ior_bit (by omega) (by omega), ior_bit (by omega) (by omega)]
        rw [hdec] at wst
        simp only [if_true] at wst
        refine ih (_, _, s3) ⟨fun k' i h1 h2 => by dsimp only; rw [e3, up_k h2]; exact f1 k' i h1 h2, fun u hu8 => ?_, fun u hu8 => ?_, ?_, ?_⟩ <;> dsimp only
        · rw [wst, e3, up_k (by omega)]; exact f54a u hu8
        · rw [e3]
          unfold treeC
          rw [wst]
          dsimp only
          rw [tb_or]
          by_cases d : u = v
          · rw [d, up_eq, f54, if_pos ⟨by simp, hvK⟩, fu_eq]
            omega
          · rw [up_i d, fk, i3 u hu8, fu_ne d]
            unfold treeC
            have : decide (v = u) = false := by simpa using fun z => d z.symm
            rw [this, Bool.or_false]
        · rw [wst]
        · rw [wst]
    · have hnl : e = (s 1 1).toNat := by omega
      have := wsp hnl ((s 1 1).toNat - t)
      rw [show t + ((s 1 1).toNat - t) = (s 1 1).toNat by omega] at this
      rw [i3 v hv]
      unfold treeC
      simp only [wl, this]
  · obtain ⟨x3, x4, q⟩ := a
    obtain ⟨i1, i2, i3, i4, i5⟩ := hI
    dsimp only at i1 i2 i3 i4 i5 ⊢
    have q11 : q 1 1 = s 1 1 := i1 1 1 (by decide) (by omega)
    exact b_Tr_toStateOf_23 hk ⟨by omega, fun _ => ⟨i1, i3⟩, fun c => absurd c (by omega)⟩
  · show wr s 54 (cut (fun _ => 0) (s 54)) k v = treeC s (decT T) 0 (s k) v
    rw [wr_ne (by omega)]
    unfold treeC
    refine (if_neg (fun z => ?_)).symm
    have z1 : (2 ^ (s 1 2).toNat).testBit v = true := z.1
    rw [Nat.testBit_two_pow] at z1
    have : (s 1 2).toNat = v := by simpa using z1
    exact z.2 this.symm
