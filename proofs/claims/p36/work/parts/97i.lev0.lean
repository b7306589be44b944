/-! there is a recurrent state of level 0 -/
theorem dgr_sum {s : Sto} (h : WG s) : sumN (nN s) (fun v => dgr (Jm s) (nN s) v) = 2 * s 1 1 := by
  have hn := h.1
  have hE := h.2.1
  have e1 : sumN (s 1 0).toNat (fun v => dgr (Jm s) (s 1 0).toNat v) = sumN (s 1 0).toNat (fun v => sumN (s 1 1).toNat (fun e => dgE (s 2) (s 3) v e)) := sumN_congr (fun v hv => by
    rw [← h.Dg hv]; exact h.2.2.2.2.2 v (by omega))
  show sumN (s 1 0).toNat (fun v => dgr (Jm s) (s 1 0).toNat v) = _
  rw [e1, sumN_comm]
  have e2 : sumN (s 1 1).toNat (fun e => sumN (s 1 0).toNat (fun v => dgE (s 2) (s 3) v e)) = sumN (s 1 1).toNat (fun _ => 2) := sumN_congr (fun e he => by
    have hF := h.2.2.2.1 e (by omega)
    rw [sumN_congr (g := fun v => (if v = (s 2 e).toNat then (1 : Int) else 0) + if v = (s 3 e).toNat then 1 else 0) (fun v hv => by
      unfold dgE
      by_cases c1 : s 2 e = v
      · rw [if_pos (Or.inl c1), if_pos (by omega), if_neg (by omega)]; rfl
      · by_cases c2 : s 3 e = v
        · rw [if_pos (Or.inr c2), if_neg (by omega), if_pos (by omega)]; rfl
        · rw [if_neg (by omega), if_neg (by omega), if_neg (by omega)]; rfl), sumN_add, sumN_one 1 (by omega), sumN_one 1 (by omega)]
    rfl)
  rw [e2, sumN_const]
  omega
/-- an order of the nodes in which each but the sink has a neighbour before it -/
def rk (b : Sto) (v : Nat) : Int := 8 * rnd (Jm b) (fun _ => 1) (nK b) (nN b) (nN b) v + v
theorem rk_all {b : Sto} (hb : OK b) (hC : Conn b) : AllB (Jm b) (fun _ => 1) (nK b) (nN b) := by
  intro u hu hz
  obtain ⟨x, y, hx, hy, h1, h2, h3⟩ := hC.cut hb.1 (fun v => v < nN b ∧ rnd (Jm b) (fun _ => 1) (nK b) (nN b) (nN b) v = -1) (fun z => by have := z.2; rw [rnd_K] at this; omega) ⟨u, hu, hu, hz⟩
  have a := rnd_fix (J := Jm b) (need := fun _ => 1) (K := nK b) (N := nN b) hb.1.K x hx h1.2
  have g := sumN_ge (n := nN b) (f := fun w => if rnd (Jm b) (fun _ => 1) (nK b) (nN b) (nN b) w = -1 then 0 else Jm b x w) (fun w hw => by
    have := hb.1.Jnn x w hx hw
    split
    · exact Int.le_refl 0
    · exact this) hy
  dsimp only at g a
  rw [if_neg (fun z => h2 ⟨hy, z⟩)] at g
  omega
theorem rk_K {b : Sto} (hb : OK b) (hC : Conn b) {v : Nat} (hv : v < nN b) (hk : v ≠ nK b) : rk b (nK b) < rk b v ∧ ∃ w, w < nN b ∧ rk b w < rk b v ∧ 0 < Jm b v w := by
  have n8 := nN_8 hb
  have hK : nK b < nN b := hb.1.K
  have a := rk_all hb hC
  obtain ⟨t, h1, h2, h3, h4⟩ := rnd_when hk (a v hv)
  have e0 : rnd (Jm b) (fun _ => 1) (nK b) (nN b) (nN b) (nK b) = 0 := rnd_K _
  obtain ⟨w, hw, hp⟩ := sum_pos (n := nN b) (f := fun w => if rnd (Jm b) (fun _ => 1) (nK b) (nN b) t w = -1 then 0 else Jm b v w) (by omega)
  refine ⟨by unfold rk; rw [e0, h2]; omega, w, hw, ?_, ?_⟩
  · by_cases z : rnd (Jm b) (fun _ => 1) (nK b) (nN b) t w = -1
    · rw [if_pos z] at hp; omega
    · have k := (not_congr (rnd_at (J := Jm b) (need := fun _ => 1) (K := nK b) (N := nN b) (t := t) (by omega) (w := w))).mp z
      have bd := rnd_bd (Jm b) (fun _ => 1) (nK b) (nN b) (nN b) w
      unfold rk
      rw [h2]
      omega
  · by_cases z : rnd (Jm b) (fun _ => 1) (nK b) (nN b) t w = -1
    · rw [if_pos z] at hp; omega
    · rw [if_neg z] at hp; exact hp
theorem rk_inj {b : Sto} (hb : OK b) {v w : Nat} (hv : v < nN b) (hw : w < nN b) (h : rk b v = rk b w) : v = w := by
  have n8 := nN_8 hb
  unfold rk at h
  omega
/-- each node has as many chips as edges to later ones -/
def low0 (b : Sto) (v : Nat) : Int := if v = nK b then 0 else sumN (nN b) (fun w => if rk b v < rk b w then Jm b v w else 0)
theorem low0_rec {b : Sto} (hb : OK b) (hC : Conn b) : Rec (Jm b) (nK b) (nN b) (low0 b) := by
  have n8 := nN_8 hb
  have hJ : ∀ u w, u < nN b → w < nN b → 0 ≤ Jm b u w := hb.1.Jnn
  refine ⟨fun v hv hk => ?_, nFS.allB hb.1.K ?_⟩
  · unfold low0
    rw [if_neg hk]
    refine ⟨sumN_nn (fun w hw => by have := hJ v w hv hw; split; exact this; exact Int.le_refl 0), ?_⟩
    obtain ⟨_, w, hw, h1, h2⟩ := rk_K hb hC hv hk
    have e : dgr (Jm b) (nN b) v = sumN (nN b) (fun w => if rk b v < rk b w then Jm b v w else 0) + sumN (nN b) (fun w => if rk b v < rk b w then 0 else Jm b v w) := by
      unfold dgr
      rw [← sumN_add]
      exact sumN_congr (fun w _ => by split <;> omega)
    have g := sumN_ge (n := nN b) (f := fun w => if rk b v < rk b w then 0 else Jm b v w) (fun w hw => by have := hJ v w hv hw; split; exact Int.le_refl 0; exact this) hw
    rw [if_neg (by omega)] at g
    omega
  · intro U hK ⟨u, hu, hU⟩
    -- the least of U
    have ex : ∃ v, (v < nN b ∧ U v) ∧ ∀ w, w < nN b → U w → rk b v ≤ rk b w := by
      have key : ∀ d : Nat, ∀ x, x < nN b → U x → rk b x < d → ∃ v, (v < nN b ∧ U v) ∧ ∀ w, w < nN b → U w → rk b v ≤ rk b w := by
        intro d
        induction d with
        | zero =>
          intro x hx _ hd
          have bd := rnd_bd (Jm b) (fun _ => 1) (nK b) (nN b) (nN b) x
          have a := rk_all hb hC x hx
          unfold rk at hd
          omega
        | succ d ih =>
          intro x hx hUx hd
          by_cases z : ∀ w, w < nN b → U w → rk b x ≤ rk b w
          · exact ⟨x, ⟨hx, hUx⟩, z⟩
          · obtain ⟨w, hw⟩ := Classical.not_forall.mp z
            have hw1 : w < nN b := Classical.byContradiction fun q => hw (fun y => absurd y q)
            have hw2 : U w := Classical.byContradiction fun q => hw (fun _ y => absurd y q)
            have hw3 : ¬ rk b x ≤ rk b w := fun q => hw (fun _ _ => q)
            exact ih w hw1 hw2 (by omega)
      exact key (rk b u + 1).toNat u hu hU (by omega)
    obtain ⟨v, ⟨hv, hUv⟩, hmin⟩ := ex
    have vk : v ≠ nK b := fun z => hK (z ▸ hUv)
    refine ⟨v, hv, hUv, ?_⟩
    unfold low0 sU
    rw [if_neg vk]
    refine sumN_le (fun w hw => ?_)
    have hj := hJ v w hv hw
    by_cases z : U w
    · rw [ind_t z]
      by_cases y : v = w
      · subst y
        rw [hb.1.Jz (by omega)]
        split <;> decide
      · have := hmin w hw z
        have : rk b v ≠ rk b w := fun q => y (rk_inj hb hv hw q)
        rw [if_pos (by omega)]; omega
    · rw [ind_f z]
      split <;> omega
theorem low0_sum {b : Sto} (hb : OK b) (hC : Conn b) : sumN (nN b) (low0 b) = b 1 1 - dgr (Jm b) (nN b) (nK b) := by
  have n8 := nN_8 hb
  have hK : nK b < nN b := hb.1.K
  have hS : ∀ u w, u < nN b → w < nN b → Jm b u w = Jm b w u := hb.1.Jsym
  have e1 : sumN (nN b) (low0 b) = sumN (nN b) (fun v => sumN (nN b) (fun w => if v ≠ nK b ∧ w ≠ nK b ∧ rk b v < rk b w then Jm b v w else 0)) := sumN_congr (fun v hv => by
    unfold low0
    by_cases c : v = nK b
    · rw [if_pos c]
      exact (sumN_z (fun w _ => if_neg (fun z => z.1 c))).symm
    · rw [if_neg c]
      refine sumN_congr (fun w hw => ite_congr (propext ⟨fun z => ⟨c, fun y => ?_, z⟩, fun z => z.2.2⟩) (fun _ => rfl) (fun _ => rfl))
      have := (rk_K hb hC hv c).1
      rw [y] at z
      omega)
  have e2 : sumN (nN b) (low0 b) = sumN (nN b) (fun v => sumN (nN b) (fun w => if v ≠ nK b ∧ w ≠ nK b ∧ rk b w < rk b v then Jm b v w else 0)) := by
    rw [e1, sumN_comm]
    exact sumN_congr (fun v hv => sumN_congr (fun w hw => by
      rw [hS w v hw hv]
      exact ite_congr (propext ⟨fun z => ⟨z.2.1, z.1, z.2.2⟩, fun z => ⟨z.2.1, z.1, z.2.2⟩⟩) (fun _ => rfl) (fun _ => rfl)))
  have e3 : sumN (nN b) (fun v => sumN (nN b) (fun w => if v ≠ nK b ∧ w ≠ nK b ∧ rk b v < rk b w then Jm b v w else 0)) + sumN (nN b) (fun v => sumN (nN b) (fun w => if v ≠ nK b ∧ w ≠ nK b ∧ rk b w < rk b v then Jm b v w else 0)) = sumN (nN b) (fun v => dgr (Jm b) (nN b) v - (if v = nK b then dgr (Jm b) (nN b) (nK b) else 0) - Jm b (nK b) v) := by
    rw [← sumN_add]
    refine sumN_congr (fun v hv => ?_)
    rw [← sumN_add]
    by_cases c : v = nK b
    · rw [sumN_z (fun w _ => by rw [if_neg (fun z => z.1 c), if_neg (fun z => z.1 c)]; rfl), if_pos c, c, hb.1.Jz (by omega)]
      omega
    · rw [if_neg c, hS (nK b) v hK hv]
      have : sumN (nN b) (fun w => Jm b v w - if w = nK b then Jm b v (nK b) else 0) = dgr (Jm b) (nN b) v - 0 - Jm b v (nK b) := by
        rw [sumN_sub, sumN_one _ hK]
        show dgr (Jm b) (nN b) v - _ = _
        omega
      rw [← this]
      refine sumN_congr (fun w hw => ?_)
      by_cases d : w = nK b
      · rw [if_neg (fun z => z.2.1 d), if_neg (fun z => z.2.1 d), if_pos d, d]; omega
      · rw [if_neg d]
        by_cases y : v = w
        · subst y
          rw [if_neg (by omega), hb.1.Jz (by omega)]; rfl
        · have : rk b v ≠ rk b w := fun q => y (rk_inj hb hv hw q)
          by_cases x : rk b v < rk b w
          · rw [if_pos ⟨c, d, x⟩, if_neg (by omega)]; omega
          · rw [if_neg (by omega), if_pos ⟨c, d, by omega⟩]; omega
  rw [sumN_sub, sumN_sub, dgr_sum hb.1, sumN_one _ hK] at e3
  have e4 : sumN (nN b) (fun v => Jm b (nK b) v) = dgr (Jm b) (nN b) (nK b) := rfl
  rw [← e1, ← e2] at e3
  have e5 : sumN (nN b) (low0 b) + sumN (nN b) (low0 b) = 2 * b 1 1 - dgr (Jm b) (nN b) (nK b) - dgr (Jm b) (nN b) (nK b) := e3
  omega
theorem lev0 {b : Sto} (hb : OK b) (hC : Conn b) : ∃ T, SpT b T ∧ lvT b T = 0 := by
  have hm := hb.1.2.1
  have hr := low0_rec hb hC
  have z : low0 b (b 1 2).toNat = 0 := if_pos rfl
  have l := hr.level hb.1 z
  have hT := hr.tree hb.1
  have ew := wl_tree hb.1 (decC b (low0 b)) (b 1 1).toNat (Nat.le_refl _)
  have et : (wl b (decC b (low0 b)) (b 1 1).toNat).2.2.1 = trOf b (low0 b) := rfl
  rw [et] at ew
  rw [ew] at l
  have s := low0_sum hb hC
  have c1 := cntD_bc (uOf b (trOf b (low0 b))) (b 1 1).toNat
  have c2 := cntD_not (fun e => (uOf b (trOf b (low0 b))).testBit e) (b 1 1).toNat
  have e3 : lvT b (trOf b (low0 b)) = cntD (fun e => !(uOf b (trOf b (low0 b))).testBit e) (b 1 1).toNat := rfl
  have e4 : sumN (nN b) (low0 b) - (b 1 1 - b 13 (nK b)) = b 1 1 - bc (uOf b (trOf b (low0 b))) (b 1 1).toNat := l
  have e6 : b 13 (nK b) = dgr (Jm b) (nN b) (nK b) := hb.1.Dg hb.1.K
  exact ⟨_, hT, by omega⟩
