/-! the recurrent state of a class -/
def mirF (s : Sto) (c : Nat → Int) : Nat → Int := fun i => if i < (s 1 0).toNat ∧ i ≠ (s 1 2).toNat then dgr (Jm s) (s 1 0).toNat i - 1 - c i else c i
theorem k_Fi_mirror {k : Nat} (hk : ar SC k 1 8) (hkk : 13 < k) {s : Sto} (h : WG s) : K_Fi_mirror k s (fun s' => s' = wr s k (mirF s (s k))) := by
  have hK := h.2.2.1
  have hn := h.1
  refine e_Fi_mirror hk ?_
  refine loop_inv (α := Sto) (N := (s 1 0).toNat) (fun j q => q = wr s k (fun i => if i < j ∧ i ≠ (s 1 2).toNat then dgr (Jm s) (s 1 0).toNat i - 1 - s k i else s k i)) (fun j q => H_Fi_mirror_2 _ k j q) (fun j q hj hI ih => ?_) (fun q hI => ?_) 0 s (by omega) ?_
  · have hq : WG q := h.of (fun k' i h1 h2 => by rw [hI, wr_ne (by omega)])
    have q0 : q 1 0 = s 1 0 := by rw [hI, wr_ne (by omega)]
    have q2 : q 1 2 = s 1 2 := by rw [hI, wr_ne (by omega)]
    have q13 : q 13 j = s 13 j := by rw [hI, wr_ne (by omega)]
    refine b_Fi_mirror_2 hk ⟨by omega, fun c => absurd c (by omega), fun _ => ⟨by omega, fun c => ?_, fun c => ⟨_, k_Gr_degreeOf hq.1 (by unfold R32; omega), ?_⟩⟩⟩
    · rw [nat_suc]
      refine ih q ?_
      rw [hI]
      congr 1
      funext i
      by_cases d : i = j
      · rw [if_neg (by omega), if_neg (by omega)]
      · exact ite_congr (propext (by omega)) (fun _ => rfl) (fun _ => rfl)
    · rintro r q' ⟨rfl, hr⟩
      refine ⟨by omega, by omega, fun s1 e1 => ?_⟩
      rw [nat_suc]
      rw [toNat_n] at hr e1
      refine ih s1 ?_
      have hd := h.Dg hj
      have e2 : q' k j = s k j := by rw [hI, wr_eq, if_neg (by omega)]
      rw [e1, e2, hI, up_wr_wr]
      congr 1
      funext i
      unfold fu
      by_cases d : i = j
      · rw [if_pos d, if_pos (by omega), d]; omega
      · rw [if_neg d]
        exact ite_congr (propext (by omega)) (fun _ => rfl) (fun _ => rfl)
  · have q0 : q 1 0 = s 1 0 := by rw [hI, wr_ne (by omega)]
    exact b_Fi_mirror_2 hk ⟨by omega, fun _ => hI, fun c => absurd c (by omega)⟩
  · show s = _
    rw [show (fun i => if i < 0 ∧ i ≠ (s 1 2).toNat then dgr (Jm s) (s 1 0).toNat i - 1 - s k i else s k i) = s k from funext fun i => if_neg (by omega), wr_self]
section RR
variable {J : Nat → Nat → Int} {K N : Nat}
/-- recurrent -/
def Rec (J : Nat → Nat → Int) (K N : Nat) (c : Nat → Int) : Prop := (∀ v, v < N → v ≠ K → 0 ≤ c v ∧ c v < dgr J N v) ∧ AllB J (fun v => dgr J N v - c v) K N
/-- all burn by needs that agree but at the sink -/
theorem rnd_K {need : Nat → Int} (t : Nat) : rnd J need K N t K = 0 := by
  have e0 : rnd J need K N 0 K = 0 := if_pos rfl
  have := rnd_keeps (J := J) (need := need) (K := K) (N := N) (t := 0) (v := K) (by rw [e0]; decide) t
  rw [Nat.zero_add] at this
  rw [this, e0]
theorem rnd_congrK {need need' : Nat → Int} (hn : ∀ v, v < N → v ≠ K → need v = need' v) : ∀ t v, v < N → rnd J need K N t v = rnd J need' K N t v := by
  intro t
  induction t with
  | zero => intro v hv; rfl
  | succ t ih =>
    intro v hv
    by_cases e : v = K
    · rw [e, rnd_K, rnd_K]
    · unfold rnd
      rw [ih v hv, hn v hv e, sumN_congr (g := fun w => if rnd J need' K N t w = -1 then 0 else J v w) (fun w hw => by rw [ih w hw])]
theorem AllB.congrK {need need' : Nat → Int} (hn : ∀ v, v < N → v ≠ K → need v = need' v) : AllB J need K N ↔ AllB J need' K N := by
  unfold AllB
  constructor
  · intro z v hv; rw [← rnd_congrK hn _ v hv]; exact z v hv
  · intro z v hv; rw [rnd_congrK hn _ v hv]; exact z v hv
theorem Rec.mir {c : Nat → Int} (h : Rec J K N c) : SSt J K N (fun v => dgr J N v - 1 - c v) := by
  refine ⟨fun v hv hk => by have := h.1 v hv hk; dsimp only; omega, (AllB.congrK (fun v _ _ => ?_)).mp h.2⟩
  dsimp only; omega
theorem Rec.uniq {c c' : Nat → Int} (hJ : ∀ u w, u < N → w < N → 0 ≤ J u w) (h : Rec J K N c) (h' : Rec J K N c') (hc : Cls J K N c c') {v : Nat} (hv : v < N) (hk : v ≠ K) : c v = c' v := by
  obtain ⟨g, g0, g1⟩ := hc
  have := h.mir.uniq hJ h'.mir (⟨fun u => 0 - g u, by dsimp only; omega, fun u hu huk => by rw [lap_sub, lap_zero, g1 u hu huk]; omega⟩ : Cls J K N _ _) hv hk
  omega
/-- a state that is superstable is stable -/
theorem SSt.stb {c : Nat → Int} (hJ : ∀ u w, u < N → w < N → 0 ≤ J u w) (h : SSt J K N c) {v : Nat} (hv : v < N) (hk : v ≠ K) : c v < dgr J N v := by
  obtain ⟨t, h1, h2, h3, h4⟩ := rnd_when hk (h.2 v hv)
  have : sumN N (fun w => if rnd J (fun v => c v + 1) K N t w = -1 then 0 else J v w) ≤ dgr J N v := sumN_le (fun w hw => by
    have := hJ v w hv hw
    split <;> omega)
  omega
end RR
def TrP (s : Sto) (k : Nat) (s' : Sto) : Prop := (∀ k' i, k' ≠ k → k' ≠ 38 → k' ≠ 39 → k' ≠ 41 → s' k' i = s k' i) ∧ Rec (Jm s) (s 1 2).toNat (s 1 0).toNat (s' k) ∧ Cls (Jm s) (s 1 2).toNat (s 1 0).toNat (s k) (s' k) ∧ (∀ v : Nat, v < 8 → ((v : Int) = s 1 2 ∨ s 1 0 ≤ v) → s' k v = 0) ∧ (∀ v, v < 8 → 0 ≤ s' k v ∧ s' k v ≤ 20)
theorem Stb.con {s : Sto} (h : WG s) (hC : Conn s) {c : Nat → Int} (hs : Stb (Jm s) (s 1 2).toNat (s 1 0).toNat c) {v : Nat} (hv : v < (s 1 0).toNat) (hk : v ≠ (s 1 2).toNat) : c v < dgr (Jm s) (s 1 0).toNat v := hs v hv hk (hC.deg h hv hk)
theorem WG.dbd {s : Sto} (h : WG s) {v : Nat} (hv : v < (s 1 0).toNat) : 0 ≤ dgr (Jm s) (s 1 0).toNat v ∧ dgr (Jm s) (s 1 0).toNat v ≤ 20 := by
  have hn := h.1
  rw [← h.Dg hv]
  exact h.D (by omega)
/-- connected is connected where the graph is the same -/
theorem Conn.of {s s' : Sto} (h : Conn s) (e : ∀ k i, 1 ≤ k → k ≤ 13 → s' k i = s k i) : Conn s' := by
  obtain ⟨L, l1, l2⟩ := h
  have e2 : s' 2 = s 2 := funext fun i => e 2 i (by decide) (by decide)
  have e3 : s' 3 = s 3 := funext fun i => e 3 i (by decide) (by decide)
  refine ⟨L, ?_, ?_⟩
  · rw [e2, e3, e 1 0 (by decide) (by decide), e 1 1 (by decide) (by decide)]; exact l1
  · rw [e 1 0 (by decide) (by decide)]; exact l2
/-- the pictures of two stores with one graph -/
theorem Jm_of {s s' : Sto} (hn : 2 ≤ s 1 0 ∧ s 1 0 ≤ 8) (e : ∀ k i, 1 ≤ k → k ≤ 13 → s' k i = s k i) : ∀ v w, v < (s 1 0).toNat → w < (s 1 0).toNat → Jm s' v w = Jm s v w := fun v w hv hw => e (5 + v) w (by omega) (by omega)
theorem dgrJ_congr {J J' : Nat → Nat → Int} {N : Nat} (hJ : ∀ v w, v < N → w < N → J v w = J' v w) {v : Nat} (hv : v < N) : dgr J N v = dgr J' N v := sumN_congr (fun w hw => hJ v w hv hw)
theorem k_Fi_toRecurrent {k : Nat} (hk : ar SC k 1 8) (hkk : 41 < k) {s : Sto} (h : WG s) (hC : Conn s) (hc : ChOK s k 17000) : K_Fi_toRecurrent k s (fun s' => TrP s k s') := by
  have hK := h.2.2.1
  have hn := h.1
  refine e_Fi_toRecurrent hk ⟨_, k_Fi_settle hk hkk h hC hc, ?_⟩
  rintro r s1 ⟨hI, hst, -⟩
  obtain ⟨i1, i2, i3, i4, i5, i6, i7, i8⟩ := hI
  have g1 : ∀ k' i, 1 ≤ k' → k' ≤ 13 → s1 k' i = s k' i := fun k' i a b => i1 k' i (by omega) (by omega)
  have hw1 : WG s1 := h.of g1
  have a0 : s1 1 0 = s 1 0 := g1 1 0 (by omega) (by omega)
  have a2 : s1 1 2 = s 1 2 := g1 1 2 (by omega) (by omega)
  have hJ1 := Jm_of hn g1
  have hdg : ∀ v, v < (s 1 0).toNat → dgr (Jm s1) (s 1 0).toNat v = dgr (Jm s) (s 1 0).toNat v := fun v hv => dgrJ_congr hJ1 hv
  have hlt : ∀ v, v < (s 1 0).toNat → v ≠ (s 1 2).toNat → s1 k v < dgr (Jm s) (s 1 0).toNat v := fun v hv hvk => hst.con h hC hv hvk
  refine ⟨_, k_Fi_mirror hk (by omega) hw1, ?_⟩
  rintro s2 rfl
  generalize hs2 : wr s1 k (mirF s1 (s1 k)) = s2
  have b1 : ∀ k' i, k' ≠ k → s2 k' i = s1 k' i := fun k' i hk' => by rw [← hs2, wr_ne hk']
  have b2 : ∀ v, s2 k v = if v < (s 1 0).toNat ∧ v ≠ (s 1 2).toNat then dgr (Jm s) (s 1 0).toNat v - 1 - s1 k v else s1 k v := fun v => by
    rw [← hs2, wr_eq]
    unfold mirF
    rw [a0, a2]
    by_cases d : v < (s 1 0).toNat ∧ v ≠ (s 1 2).toNat
    · rw [if_pos d, if_pos d, hdg v d.1]
    · rw [if_neg d, if_neg d]
  have g2 : ∀ k' i, 1 ≤ k' → k' ≤ 13 → s2 k' i = s k' i := fun k' i a b => by rw [b1 k' i (by omega)]; exact g1 k' i a b
  have hw2 : WG s2 := h.of g2
  have c0 : s2 1 0 = s 1 0 := g2 1 0 (by omega) (by omega)
  have c2 : s2 1 2 = s 1 2 := g2 1 2 (by omega) (by omega)
  have hJ2 := Jm_of hn g2
  have z2 : ∀ v : Nat, v < 8 → ((v : Int) = s 1 2 ∨ s 1 0 ≤ v) → s2 k v = 0 := fun v hv hz => by
    rw [b2, if_neg (by omega)]; exact i3 v hv hz
  have p2 : ∀ v, v < 8 → 0 ≤ s2 k v ∧ s2 k v ≤ 20 := fun v hv => by
    by_cases d : v < (s 1 0).toNat ∧ v ≠ (s 1 2).toNat
    · have := hlt v d.1 d.2
      have := h.dbd d.1
      have := i2 v hv
      rw [b2, if_pos d]; omega
    · rw [z2 v hv (by omega)]; omega
  have hs3 : sumN 8 (s2 k) ≤ 160 := by
    have := sumN_le (n := 8) (f := s2 k) (g := fun _ => 20) (fun v hv => (p2 v hv).2)
    rw [sumN_const] at this
    omega
  refine ⟨_, k_Fi_fireSets hk hkk hw2 (hC.of g2) ⟨fun v hv => (p2 v hv).1, by rw [c0, c2]; exact z2, by omega⟩, ?_⟩
  rintro r3 s3 ⟨⟨f, hF, -⟩, hA, -⟩
  obtain ⟨f1, f2, f3, f4, f5, f6⟩ := hF
  simp only [c0, c2] at f3 f4 f5 f6 hA
  have hA2 : AllB (Jm s) (fun v => s3 k v + 1) (s 1 2).toNat (s 1 0).toNat := (AllB.congr hJ2 (fun _ _ => rfl)).mp hA
  have g3 : ∀ k' i, 1 ≤ k' → k' ≤ 13 → s3 k' i = s k' i := fun k' i a b => by rw [f1 k' i (by omega) (by omega) (by omega)]; exact g2 k' i a b
  have hw3 : WG s3 := h.of g3
  have e0 : s3 1 0 = s 1 0 := g3 1 0 (by omega) (by omega)
  have e2 : s3 1 2 = s 1 2 := g3 1 2 (by omega) (by omega)
  have hJ3 := Jm_of hn g3
  have hS : SSt (Jm s) (s 1 2).toNat (s 1 0).toNat (s3 k) := ⟨fun v hv _ => f2 v (by omega), hA2⟩
  refine ⟨_, k_Fi_mirror hk (by omega) hw3, ?_⟩
  rintro s4 rfl
  have d2 : ∀ v, wr s3 k (mirF s3 (s3 k)) k v = if v < (s 1 0).toNat ∧ v ≠ (s 1 2).toNat then dgr (Jm s) (s 1 0).toNat v - 1 - s3 k v else s3 k v := fun v => by
    rw [wr_eq]
    unfold mirF
    rw [e0, e2]
    by_cases d : v < (s 1 0).toNat ∧ v ≠ (s 1 2).toNat
    · rw [if_pos d, if_pos d, dgrJ_congr hJ3 d.1]
    · rw [if_neg d, if_neg d]
  have z4 : ∀ v : Nat, v < 8 → ((v : Int) = s 1 2 ∨ s 1 0 ≤ v) → wr s3 k (mirF s3 (s3 k)) k v = 0 := fun v hv hz => by
    rw [d2, if_neg (by omega), f3 v hz]; exact z2 v hv hz
  have hrec : ∀ v, v < (s 1 0).toNat → v ≠ (s 1 2).toNat → 0 ≤ wr s3 k (mirF s3 (s3 k)) k v ∧ wr s3 k (mirF s3 (s3 k)) k v < dgr (Jm s) (s 1 0).toNat v := fun v hv hvk => by
    have := hS.stb h.Jnn hv hvk
    have := f2 v (by omega)
    rw [d2, if_pos ⟨hv, hvk⟩]; omega
  refine ⟨fun k' i h1 h2 h3 h4 => by rw [wr_ne h1, f1 k' i h1 h2 h3, b1 k' i h1]; exact i1 k' i h1 h4, ⟨hrec, ?_⟩, ?_, z4, fun v hv => ?_⟩
  · refine (AllB.congrK (fun v hv hvk => ?_)).mp hA2
    rw [d2, if_pos ⟨hv, hvk⟩]; omega
  · refine ⟨fun v => s1 41 v - f v, by dsimp only; rw [i7, f6]; rfl, fun v hv hvk => ?_⟩
    rw [d2, if_pos ⟨hv, hvk⟩, f4 v hv hvk, b2, if_pos ⟨hv, hvk⟩, i5 v hv hvk, lap_sub, lapJ_congr hJ2 hv]
    omega
  · by_cases d : v < (s 1 0).toNat ∧ v ≠ (s 1 2).toNat
    · have := hrec v d.1 d.2
      have := h.dbd d.1
      omega
    · rw [z4 v hv (by omega)]; omega
