/-! set firings; the recurrent state -/
def unb (s : Sto) (v : Nat) : Int := if s 38 v = -1 then 1 else 0
theorem k_Fi_fireUnburnt {k : Nat} (hk : ar SC k 1 8) (hkk : 41 < k) {s : Sto} (h : WG s) (hr : ∀ v : Nat, v < (s 1 0).toNat → R32 (s 38 v)) (hKb : s 38 (s 1 2).toNat ≠ -1) : K_Fi_fireUnburnt k s (fun s' => (∀ k' i, k' ≠ k → s' k' i = s k' i) ∧ (∀ v : Nat, v < (s 1 0).toNat → v ≠ (s 1 2).toNat → s' k v = s k v - lap (Jm s) (s 1 0).toNat (unb s) v) ∧ ∀ v : Nat, (v = (s 1 2).toNat ∨ (s 1 0).toNat ≤ v) → s' k v = s k v) := by
  have hK := h.2.2.1
  have hn := h.1
  refine e_Fi_fireUnburnt hk ?_
  generalize hN : (s 1 0).toNat = N at *
  generalize hKK : (s 1 2).toNat = K at *
  have hJd : ∀ u v, u < N → v < N → 0 ≤ Jm s u v := fun u v hu hv => h.Jnn u v (by omega) (by omega)
  refine loop_inv (α := Sto) (N := N) (fun m q => (∀ k' i, k' ≠ k → q k' i = s k' i) ∧ ∀ i, q k i = s k i - (if i < m ∧ s 38 i = -1 then sumN N (fun v => if s 38 v ≠ -1 then Jm s i v else 0) else 0) + (if i < N ∧ s 38 i ≠ -1 ∧ i ≠ K then sumN m (fun u => if s 38 u = -1 then Jm s u i else 0) else 0)) (fun m q => H_Fi_fireUnburnt_2 _ k m q) (fun m q hm hI ih => ?_) (fun q hI => ?_) 0 s (by omega) ⟨fun _ _ _ => rfl, fun i => by rw [if_neg (by omega)]; simp [sumN]⟩
  · obtain ⟨i1, i2⟩ := hI
    have q0 : q 1 0 = s 1 0 := i1 1 0 (by omega)
    have q2 : q 1 2 = s 1 2 := i1 1 2 (by omega)
    refine b_Fi_fireUnburnt_2 hk ⟨by omega, fun c => absurd c (by omega), fun _ => ?_⟩
    refine loop_inv (α := Sto) (N := N) (fun j p => (∀ k' i, k' ≠ k → p k' i = s k' i) ∧ ∀ i, p k i = q k i - (if i = m ∧ s 38 m = -1 then sumN j (fun v => if s 38 v ≠ -1 then Jm s m v else 0) else 0) + (if i < j ∧ s 38 i ≠ -1 ∧ i ≠ K ∧ s 38 m = -1 then Jm s m i else 0)) (fun j p => H_Fi_fireUnburnt_15 _ k m j p) (fun j p hj hJ ih2 => ?_) (fun p hJ => ?_) 0 q (by omega) ⟨i1, fun i => by rw [if_neg (by omega : ¬ (i < 0 ∧ s 38 i ≠ -1 ∧ i ≠ K ∧ s 38 m = -1))]; simp [sumN]⟩
    · obtain ⟨j1, j2⟩ := hJ
      have p0 : p 1 0 = s 1 0 := j1 1 0 (by omega)
      have p2 : p 1 2 = s 1 2 := j1 1 2 (by omega)
      have hp : WG p := h.of (fun k' i h1 h2 => j1 k' i (by omega))
      have pm : p 38 m = s 38 m := j1 38 m (by omega)
      have pj : p 38 j = s 38 j := j1 38 j (by omega)
      refine b_Fi_fireUnburnt_15 hk ⟨by omega, fun c => absurd c (by omega), fun _ => ⟨_, k_Bu_hasBurnt (by omega) (by omega) (by rw [pm]; exact hr m (by omega)), ?_⟩⟩
      rintro r p' ⟨rfl, hr1⟩
      rw [nat_suc]
      refine ⟨by omega, fun c => ?_, fun c => ⟨_, k_Bu_hasBurnt (by omega) (by omega) (by rw [pj]; exact hr j (by omega)), ?_⟩⟩
      · have hb : s 38 m ≠ -1 := by omega
        refine ih2 p' ⟨j1, fun i => ?_⟩
        rw [j2 i, if_neg (fun z => hb z.2), if_neg (fun z => hb z.2.2.2), if_neg (fun z => hb z.2), if_neg (fun z => hb z.2.2.2)]
      · have hm1 : s 38 m = -1 := by omega
        rintro r2 p'' ⟨rfl, hr2⟩
        refine ⟨by omega, fun c2 => ?_, fun c2 => ⟨_, k_Fi_giveAlong hk (by omega) hp (by omega) (by omega), ?_⟩⟩
        · have hj1 : s 38 j = -1 := by omega
          refine ih2 p'' ⟨j1, fun i => ?_⟩
          rw [j2 i]
          have hj2 : ¬ (s 38 j ≠ -1) := fun z => z hj1
          simp only [sumN, if_neg hj2, Int.add_zero]
          congr 1
          refine ite_congr (propext ⟨fun z => ⟨by omega, z.2⟩, fun z => ⟨?_, z.2⟩⟩) (fun _ => rfl) (fun _ => rfl)
          by_cases e : i = j
          · rw [e] at z; exact absurd hj1 z.2.1
          · omega
        · have hj1 : s 38 j ≠ -1 := by omega
          rintro p3 rfl
          refine ih2 _ ⟨fun k' i hk' => by rw [wr_ne hk']; exact j1 k' i hk', fun i => ?_⟩
          rw [wr_eq, j2 i, p2, j1 (5 + m) j (by omega)]
          simp only [sumN]
          rw [if_pos hj1, Int.one_mul]
          have e9 : s (5 + m) j = Jm s m j := rfl
          rw [e9]
          by_cases d : i = j
          · subst d
            have dm : i ≠ m := fun z => hj1 (by rw [z]; exact hm1)
            (repeat' split) <;> omega
          · (repeat' split) <;> omega
    · obtain ⟨j1, j2⟩ := hJ
      have p0 : p 1 0 = s 1 0 := j1 1 0 (by omega)
      refine b_Fi_fireUnburnt_15 hk ⟨by omega, fun _ => ?_, fun c => absurd c (by omega)⟩
      rw [nat_suc]
      refine ih p ⟨j1, fun i => ?_⟩
      rw [j2 i, i2 i]
      simp only [sumN]
      by_cases d : i = m
      · subst d
        by_cases d2 : s 38 i = -1
        · (repeat' split) <;> omega
        · (repeat' split) <;> omega
      · (repeat' split) <;> omega
  · obtain ⟨i1, i2⟩ := hI
    have q0 : q 1 0 = s 1 0 := i1 1 0 (by omega)
    refine b_Fi_fireUnburnt_2 hk ⟨by omega, fun _ => ⟨i1, fun v hv hvk => ?_, fun v hv => ?_⟩, fun c => absurd c (by omega)⟩
    · rw [i2 v]
      by_cases d : s 38 v = -1
      · have e : lap (Jm s) N (unb s) v = sumN N (fun w => if s 38 w ≠ -1 then Jm s v w else 0) := sumN_congr (fun w hw => by
          unfold unb
          rw [if_pos d]
          by_cases d2 : s 38 w = -1
          · rw [if_pos d2, if_neg (fun z => z d2)]; simp
          · rw [if_neg d2, if_pos d2]; simp)
        rw [e, if_pos ⟨hv, d⟩, if_neg (fun z => z.2.1 d)]
        omega
      · have e : lap (Jm s) N (unb s) v = - sumN N (fun u => if s 38 u = -1 then Jm s u v else 0) := by
          unfold lap
          rw [← sumN_neg]
          refine sumN_congr (fun w hw => ?_)
          unfold unb
          rw [if_neg d]
          by_cases d2 : s 38 w = -1
          · rw [if_pos d2, if_pos d2, h.Jsym v w (by omega) (by omega)]; simp
          · rw [if_neg d2, if_neg d2]; simp
        rw [e, if_neg (fun z => d z.2), if_pos ⟨hv, d, hvk⟩]
        omega
    · rw [i2 v]
      rcases hv with e | e
      · rw [e, if_neg (fun z => hKb z.2), if_neg (fun z => z.2.2 rfl)]; omega
      · rw [if_neg (by omega), if_neg (by omega)]; omega
/-- where set firings stand: h tells how often each node took part -/
def FI (s : Sto) (k : Nat) (q : Sto) (f : Nat → Int) : Prop := (∀ k' i, k' ≠ k → k' ≠ 38 → k' ≠ 39 → q k' i = s k' i) ∧ (∀ v, v < 8 → 0 ≤ q k v) ∧ (∀ v : Nat, ((v : Int) = s 1 2 ∨ s 1 0 ≤ v) → q k v = s k v) ∧
  (∀ v : Nat, v < (s 1 0).toNat → v ≠ (s 1 2).toNat → q k v = s k v - lap (Jm s) (s 1 0).toNat f v) ∧ (∀ v : Nat, v < (s 1 0).toNat → 0 ≤ f v) ∧ f (s 1 2).toNat = 0
theorem FI.bound {s q : Sto} {k : Nat} {B : Int} {f : Nat → Int} (h : WG s) (hC : Conn s) (hc : ChOK s k B) (hB : 0 ≤ B) (hI : FI s k q f) : sumN (s 1 0).toNat f ≤ 56 * B := by
  obtain ⟨i1, i2, i3, i5, i6, i7⟩ := hI
  have hn := h.1
  have e8 := sum8 (f := s k) (N := (s 1 0).toNat) (by omega) (fun v hv h1 => hc.2.1 v hv (Or.inr (by omega)))
  have h1 : ∀ v, v < (s 1 0).toNat → f v ≤ ((s 1 0).toNat - 1) * B := fun v hv => fire_bound (c := s k) h.Jnn h.Jsym (hC.cut h) h.K i7 (fun u hu => hc.1 u (by omega)) (by rw [← e8]; exact hc.2.2) (fun u hu huk => by
    have := i5 u hu huk
    have := i2 u (by omega)
    omega) hv
  have h2 := sumN_le (n := (s 1 0).toNat) (f := f) (g := fun _ => 7 * B) (fun v hv => by
    have := h1 v hv
    have h3 : (((s 1 0).toNat : Int) - 1) * B ≤ 7 * B := Int.mul_le_mul_of_nonneg_right (by omega) hB
    omega)
  rw [sumN_const] at h2
  have h4 : ((s 1 0).toNat : Int) * (7 * B) ≤ 8 * (7 * B) := Int.mul_le_mul_of_nonneg_right (by omega) (by omega)
  omega
theorem AllB.congr {J J' : Nat → Nat → Int} {need need' : Nat → Int} {K N : Nat} (hJ : ∀ v w, v < N → w < N → J v w = J' v w) (hn : ∀ v, v < N → need v = need' v) : AllB J need K N ↔ AllB J' need' K N := by
  have hR := rnd_congr (K := K) hJ hn
  unfold AllB
  constructor
  · intro z v hv; rw [← hR _ v hv]; exact z v hv
  · intro z v hv; rw [hR _ v hv]; exact z v hv
theorem lapJ_congr {J J' : Nat → Nat → Int} {N : Nat} (hJ : ∀ v w, v < N → w < N → J v w = J' v w) {f : Nat → Int} {v : Nat} (hv : v < N) : lap J N f v = lap J' N f v := sumN_congr (fun w hw => by rw [hJ v w hv hw])
/-- what set firings leave -/
def RedP (s : Sto) (k : Nat) (s' : Sto) (r : Int) : Prop := (∃ f, FI s k s' f ∧ 0 ≤ r ∧ r ≤ sumN (s 1 0).toNat f) ∧ AllB (Jm s) (fun v => s' k v + 1) (s 1 2).toNat (s 1 0).toNat ∧ (AllB (Jm s) (fun v => s k v + 1) (s 1 2).toNat (s 1 0).toNat → r = 0 ∧ ∀ v, s' k v = s k v)
theorem k_Fi_fireSets {k : Nat} (hk : ar SC k 1 8) (hkk : 41 < k) {s : Sto} (h : WG s) (hC : Conn s) (hc : ChOK s k 17000) : K_Fi_fireSets k s (fun r s' => RedP s k s' r) := by
  have hK := h.2.2.1
  have hn := h.1
  refine e_Fi_fireSets hk ?_
  have hout := loop_wf (α := Int × (Nat → Int) × Sto) (fun a => FI s k a.2.2 a.2.1 ∧ 0 ≤ a.1 ∧ a.1 ≤ sumN (s 1 0).toNat a.2.1 ∧ sumN (s 1 0).toNat (a.2.2 k) ≤ sumN (s 1 0).toNat (s k) ∧ (AllB (Jm s) (fun v => s k v + 1) (s 1 2).toNat (s 1 0).toNat → a.1 = 0 ∧ ∀ v, a.2.2 k v = s k v)) (fun a => H_Fi_fireSets_2 (fun r s' => RedP s k s' r) k a.1 a.2.2) (fun a => (952000 - sumN (s 1 0).toNat a.2.1).toNat) ?_ (0, (fun _ => 0), s) ⟨⟨fun _ _ _ _ _ => rfl, hc.1, fun _ _ => rfl, fun v hv _ => by rw [lap_zero]; show s k v = _; omega, fun _ _ => Int.le_refl 0, rfl⟩, Int.le_refl 0, by rw [sumN_zero]; exact Int.le_refl 0, Int.le_refl _, fun _ => ⟨rfl, fun _ => rfl⟩⟩
  · exact hout
  · rintro ⟨x, f, q⟩ ⟨hI, hx0, hx1, hs, hA⟩ ih
    dsimp only at *
    have hbd := hI.bound h hC hc (by decide)
    obtain ⟨i1, i2, i3, i4, i5, i6⟩ := hI
    have q0 : q 1 0 = s 1 0 := i1 1 0 (by omega) (by omega) (by omega)
    have q2 : q 1 2 = s 1 2 := i1 1 2 (by omega) (by omega) (by omega)
    have hq : WG q := h.of (fun k' i h1 h2 => i1 k' i (by omega) (by omega) (by omega))
    have hJ : ∀ v w, v < (s 1 0).toNat → w < (s 1 0).toNat → Jm q v w = Jm s v w := fun v w hv hw => i1 (5 + v) w (by omega) (by omega) (by omega)
    have hqk : ∀ v, v < 8 → -1000000 ≤ q k v ∧ q k v ≤ 1000000 := fun v hv => by
      have h5 := sum8 (f := s k) (N := (s 1 0).toNat) (by omega) (fun v hv h1 => hc.2.1 v hv (Or.inr (by omega)))
      have h6 := hc.2.2
      have h7 := i2 v hv
      by_cases d : v < (s 1 0).toNat
      · have := sumN_ge (n := (s 1 0).toNat) (f := q k) (fun i hi => i2 i (by omega)) d
        omega
      · have := i3 v (Or.inr (by omega))
        have := hc.bd hv
        omega
    refine b_Fi_fireSets_2 hk ⟨by omega, fun c => absurd c (by omega), fun _ => ⟨_, k_Bu_allBurnBySecondRule hk (by omega) hq hqk, ?_⟩⟩
    rintro r q1 ⟨b1, b2, b3⟩
    rw [q0, q2] at b2 b3
    have hAq := AllB.congr (need := fun v => q k v + 1) (need' := fun v => q k v + 1) (K := (s 1 2).toNat) hJ (fun _ _ => rfl)
    rw [hAq] at b3
    have eqk : q1 k = q k := funext fun i => b1 k i (by omega) (by omega)
    refine ⟨by omega, fun c => ⟨⟨f, ⟨fun k' i h1 h2 h3 => by rw [b1 k' i h2 h3]; exact i1 k' i h1 h2 h3, fun v hv => by rw [eqk]; exact i2 v hv, fun v hv => by rw [eqk]; exact i3 v hv, fun v hv hvk => by rw [eqk]; exact i4 v hv hvk, i5, i6⟩, hx0, hx1⟩, by rw [eqk]; exact (b3.resolve_right (fun z => c z.1)).2, fun z => by rw [eqk]; exact hA z⟩, fun c => ?_⟩
    have hnb := (b3.resolve_left (fun z => by omega)).2
    have q10 : q1 1 0 = s 1 0 := by rw [b1 1 0 (by omega) (by omega), q0]
    have q12 : q1 1 2 = s 1 2 := by rw [b1 1 2 (by omega) (by omega), q2]
    have hq1 : WG q1 := hq.of (fun k' i h1 h2 => b1 k' i (by omega) (by omega))
    have hJ1 : ∀ v w, v < (s 1 0).toNat → w < (s 1 0).toNat → Jm q1 v w = Jm s v w := fun v w hv hw => by
      have : Jm q1 v w = Jm q v w := b1 (5 + v) w (by omega) (by omega)
      rw [this]; exact hJ v w hv hw
    have hrd : ∀ v : Nat, v < (s 1 0).toNat → q1 38 v = rnd (Jm s) (fun v => q k v + 1) (s 1 2).toNat (s 1 0).toNat (s 1 0).toNat v := fun v hv => by
      rw [b2 v hv]
      exact rnd_congr hJ (fun _ _ => rfl) _ v hv
    have hK0 : q1 38 (s 1 2).toNat ≠ -1 := by
      rw [hrd _ h.K]
      have e0 : rnd (Jm s) (fun v => q k v + 1) (s 1 2).toNat (s 1 0).toNat 0 (s 1 2).toNat = 0 := if_pos rfl
      have := rnd_keeps (J := Jm s) (need := fun v => q k v + 1) (K := (s 1 2).toNat) (N := (s 1 0).toNat) (t := 0) (v := (s 1 2).toNat) (by rw [e0]; decide) (s 1 0).toNat
      rw [Nat.zero_add] at this
      rw [this, e0]; decide
    refine ⟨_, k_Fi_fireUnburnt hk hkk hq1 (fun v hv => ?_) (by rw [q12]; exact hK0), ?_⟩
    · rw [q10] at hv
      rw [hrd v hv]
      have := rnd_bd (Jm s) (fun v => q k v + 1) (s 1 2).toNat (s 1 0).toNat (s 1 0).toNat v
      unfold R32; omega
    · rintro q3 ⟨c1, c2, c3⟩
      rw [q10, q12] at c2 c3
      have hu0 : ∀ v, 0 ≤ unb q1 v := fun v => by unfold unb; split <;> decide
      have huK : unb q1 (s 1 2).toNat = 0 := if_neg hK0
      have hl : ∀ v, v < (s 1 0).toNat → lap (Jm q1) (s 1 0).toNat (unb q1) v = lap (Jm s) (s 1 0).toNat (unb q1) v := fun v hv => lapJ_congr hJ1 hv
      -- some node doesn't burn
      obtain ⟨w, hw, hwb⟩ : ∃ w, w < (s 1 0).toNat ∧ q1 38 w = -1 := by
        apply Classical.byContradiction
        intro z
        exact hnb (fun v hv e => z ⟨v, hv, by rw [hrd v hv]; exact e⟩)
      have hus : 1 ≤ sumN (s 1 0).toNat (unb q1) := by
        have := sumN_ge (n := (s 1 0).toNat) (f := unb q1) (fun v _ => hu0 v) hw
        have e : unb q1 w = 1 := if_pos hwb
        omega
      -- the unburnt have enough chips
      have hle : ∀ v, v < (s 1 0).toNat → v ≠ (s 1 2).toNat → 0 ≤ q k v - lap (Jm s) (s 1 0).toNat (unb q1) v := fun v hv hvk => by
        by_cases d : q1 38 v = -1
        · have hf := rnd_fix (J := Jm s) (need := fun v => q k v + 1) h.K v hv (by rw [← hrd v hv]; exact d)
          have e : lap (Jm s) (s 1 0).toNat (unb q1) v = sumN (s 1 0).toNat (fun w => if rnd (Jm s) (fun v => q k v + 1) (s 1 2).toNat (s 1 0).toNat (s 1 0).toNat w = -1 then 0 else Jm s v w) := sumN_congr (fun w hw => by
            unfold unb
            rw [if_pos d, hrd w hw]
            by_cases d2 : rnd (Jm s) (fun v => q k v + 1) (s 1 2).toNat (s 1 0).toNat (s 1 0).toNat w = -1
            · rw [if_pos d2, if_pos d2]; simp
            · rw [if_neg d2, if_neg d2]; simp)
          dsimp only at hf
          omega
        · have e : lap (Jm s) (s 1 0).toNat (unb q1) v ≤ 0 := by
            have := sumN_le (n := (s 1 0).toNat) (f := fun w => Jm s v w * (unb q1 v - unb q1 w)) (g := fun _ => 0) (fun w hw => by
              have h1 := h.Jnn v w hv hw
              have h2 := hu0 w
              have e2 : unb q1 v = 0 := if_neg d
              rw [e2]
              have := Int.mul_nonneg h1 h2
              grind)
            rw [sumN_zero] at this
            exact this
          have := i2 v (by omega)
          omega
      have hF : FI s k q3 (fun v => f v + unb q1 v) := by
        refine ⟨fun k' i h1 h2 h3 => by rw [c1 k' i h1, b1 k' i h2 h3]; exact i1 k' i h1 h2 h3, fun v hv => ?_, fun v hv => ?_, fun v hv hvk => ?_, fun v hv => by have := i5 v hv; have := hu0 v; dsimp only; omega, by dsimp only; rw [i6, huK]; rfl⟩
        · by_cases d : v < (s 1 0).toNat ∧ v ≠ (s 1 2).toNat
          · rw [c2 v d.1 d.2, hl v d.1, eqk]; exact hle v d.1 d.2
          · rw [c3 v (by omega), eqk]; exact i2 v hv
        · rw [c3 v (by omega), eqk]; exact i3 v hv
        · rw [c2 v hv hvk, hl v hv, eqk, i4 v hv hvk, lap_add]; omega
      refine ih (x + 1, (fun v => f v + unb q1 v), q3) ⟨hF, by dsimp only; omega, by dsimp only; rw [sumN_add]; omega, ?_, fun z => ?_⟩ ?_
      · dsimp only
        -- the sum over all nodes but the sink can only fall
        have hfl : sumN (s 1 0).toNat (q3 k) ≤ sumN (s 1 0).toNat (q k) := by
          have e1 : sumN (s 1 0).toNat (q3 k) = sumN (s 1 0).toNat (q k) - sumN (s 1 0).toNat (fun v => if v = (s 1 2).toNat then 0 else lap (Jm s) (s 1 0).toNat (unb q1) v) := by
            rw [← sumN_sub]
            refine sumN_congr (fun v hv => ?_)
            by_cases d : v = (s 1 2).toNat
            · rw [if_pos d, c3 v (Or.inl d), eqk]; omega
            · rw [if_neg d, c2 v hv d, hl v hv, eqk]
          have e2 : sumN (s 1 0).toNat (fun v => lap (Jm s) (s 1 0).toNat (unb q1) v) = 0 := by
            have a : sumN (s 1 0).toNat (fun v => lap (Jm s) (s 1 0).toNat (unb q1) v) = - sumN (s 1 0).toNat (fun v => lap (Jm s) (s 1 0).toNat (unb q1) v) := by
              conv => lhs; unfold lap; rw [sumN_comm]
              rw [← sumN_neg]
              refine sumN_congr (fun v hv => ?_)
              unfold lap
              rw [← sumN_neg]
              refine sumN_congr (fun u hu => ?_)
              rw [h.Jsym u v hu hv]; grind
            omega
          have e3 := sumN_up (n := (s 1 0).toNat) (f := fun v => lap (Jm s) (s 1 0).toNat (unb q1) v) (g := fun v => if v = (s 1 2).toNat then 0 else lap (Jm s) (s 1 0).toNat (unb q1) v) h.K (fun v _ hv => if_neg hv)
          rw [if_pos rfl, e2] at e3
          have e4 : lap (Jm s) (s 1 0).toNat (unb q1) (s 1 2).toNat ≤ 0 := by
            have := sumN_le (n := (s 1 0).toNat) (f := fun w => Jm s (s 1 2).toNat w * (unb q1 (s 1 2).toNat - unb q1 w)) (g := fun _ => 0) (fun w hw => by
              have h1 := h.Jnn (s 1 2).toNat w h.K hw
              have h2 := hu0 w
              rw [huK]
              have := Int.mul_nonneg h1 h2
              grind)
            rw [sumN_zero] at this
            exact this
          omega
        omega
      · exfalso
        obtain ⟨z1, z2⟩ := hA z
        exact hnb ((AllB.congr (fun _ _ _ _ => rfl) (fun v _ => by rw [z2 v])).mp z)
      · have hb3 := hF.bound h hC hc (by decide)
        rw [sumN_add] at hb3
        dsimp only
        rw [sumN_add]
        omega
