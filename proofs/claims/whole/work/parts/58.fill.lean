/-! the matrix of a graph -/
/-- a node that stands for itself and isn't the sink's -/
def fre (s : Sto) (v : Nat) : Bool := decide (v < (s 1 0).toNat) && decide (s 14 v = (v : Int)) && !decide (s 14 (s 1 2).toNat = (v : Int))
theorem fre_iff (s : Sto) (v : Nat) : fre s v = true ↔ v < (s 1 0).toNat ∧ s 14 v = (v : Int) ∧ s 14 (s 1 2).toNat ≠ (v : Int) := by
  unfold fre
  rw [Bool.and_eq_true, Bool.and_eq_true, decide_eq_true_eq, decide_eq_true_eq, Bool.not_eq_true', decide_eq_false_iff_not]
  exact ⟨fun z => ⟨z.1.1, z.1.2, z.2⟩, fun z => ⟨⟨z.1, z.2.1⟩, z.2.2⟩⟩
def LbR (s : Sto) : Prop := ∀ v : Nat, v < (s 1 0).toNat → 0 ≤ s 14 v ∧ s 14 v < s 1 0
theorem k_Ma_isFree {v : Nat} {s : Sto} (h : WG s) (hv : v < 8) (hL : LbR s) : K_Ma_isFree v s (fun r s' => s' = s ∧ (r = 1 ∧ fre s v = true ∨ r = 0 ∧ fre s v = false)) := by
  have hn := h.1
  have hK := h.2.2.1
  have hLK := hL (s 1 2).toNat (by omega)
  have no : ¬ (v < (s 1 0).toNat ∧ s 14 v = (v : Int) ∧ s 14 (s 1 2).toNat ≠ (v : Int)) → fre s v = false := fun z => by
    cases c : fre s v
    · rfl
    · exact absurd ((fre_iff s v).mp c) z
  refine e_Ma_isFree ⟨_, k_Gr_hasNode h.1 (by unfold R32; omega), ?_⟩
  rintro r s' ⟨rfl, hr⟩
  refine ⟨by omega, fun c => ⟨rfl, Or.inr ⟨rfl, no (fun z => by omega)⟩⟩, fun c => ?_⟩
  have hv2 : v < (s' 1 0).toNat := by omega
  have hLv := hL v hv2
  rw [toNat_n]
  refine ⟨by omega, ⟨by omega, by omega⟩, fun d => ⟨rfl, Or.inr ⟨rfl, no (fun z => d z.2.1)⟩⟩, fun d => ⟨by omega, ⟨by omega, by omega⟩, fun e => ⟨rfl, Or.inr ⟨rfl, no (fun z => z.2.2 e.symm)⟩⟩, fun e => ⟨rfl, Or.inl ⟨rfl, (fre_iff s' v).mpr ⟨hv2, d, fun z => e z.symm⟩⟩⟩⟩⟩
def ad (s : Sto) (a b : Nat) (x : Int) : Sto := up s (45 + a) b (s (45 + a) b + x)
theorem ad_at (s : Sto) (a b : Nat) (x : Int) (i j : Nat) : ad s a b x (45 + i) j = s (45 + i) j + if i = a ∧ j = b then x else 0 := by
  unfold ad
  rw [up_wr]
  by_cases c : i = a
  · rw [c, wr_eq]
    unfold fu
    by_cases d : j = b
    · rw [if_pos d, if_pos ⟨rfl, d⟩, d]
    · rw [if_neg d, if_neg (fun z => d z.2)]; omega
  · rw [wr_ne (by omega), if_neg (fun z => c z.1)]; omega
theorem ad_ne (s : Sto) (a b : Nat) (x : Int) {k : Nat} (hk : k < 45) : ad s a b x k = s k := by
  unfold ad
  rw [up_wr]
  funext i
  exact wr_ne (by omega)
theorem ad_hi (s : Sto) {a : Nat} (b : Nat) (x : Int) {k : Nat} (ha : a < 8) (hk : 52 < k) : ad s a b x k = s k := by
  unfold ad
  rw [up_wr]
  funext i
  exact wr_ne (by omega)
theorem fre_of {s q : Sto} (h1 : q 1 = s 1) (h14 : q 14 = s 14) : fre q = fre s := by
  funext v
  unfold fre
  rw [h1, h14]
def dl (a i : Nat) : Int := if a = i then 1 else 0
/-- what one edge from a to b adds -/
def eJ (s : Sto) (a b i j : Nat) : Int := if fre s i = true ∧ fre s j = true then (dl a i - dl b i) * (dl a j - dl b j) else 0
theorem k_Ma_fillEdge {a b : Nat} {s : Sto} (h : WG s) (ha : a < (s 1 0).toNat) (hb : b < (s 1 0).toNat) (hab : a ≠ b) (hL : LbR s) : K_Ma_fillEdge a b s (fun s' => (∀ k i, k < 45 ∨ 52 < k → s' k i = s k i) ∧ ∀ i j, s' (45 + i) j = s (45 + i) j + eJ s a b i j) := by
  have hn := h.1
  have fine : ∀ q : Sto, (∀ k i, k < 45 ∨ 52 < k → q k i = s k i) → WG q ∧ LbR q ∧ fre q = fre s := fun q hq => by
    refine ⟨h.of (fun k i _ _ => hq k i (by omega)), fun v hv => ?_, fre_of (funext fun i => hq 1 i (by omega)) (funext fun i => hq 14 i (by omega))⟩
    rw [hq 1 0 (by omega)] at hv ⊢
    rw [hq 14 v (by omega)]
    exact hL v hv
  have adf : ∀ (q : Sto) (u v : Nat) (x : Int), u < 8 → (∀ k i, k < 45 ∨ 52 < k → q k i = s k i) → ∀ k i, k < 45 ∨ 52 < k → ad q u v x k i = s k i := fun q u v x hu hq k i hk => by
    rcases hk with z | z
    · rw [ad_ne q u v x z]; exact hq k i (by omega)
    · rw [ad_hi q v x hu z]; exact hq k i (by omega)
  refine e_Ma_fillEdge ⟨_, k_Ma_isFree h (by omega) hL, ?_⟩
  rintro r s' ⟨rfl, hr⟩
  refine ⟨fun q => (∀ k i, k < 45 ∨ 52 < k → q k i = s' k i) ∧ ∀ i j, q (45 + i) j = s' (45 + i) j + if fre s' a = true ∧ i = a ∧ j = a then 1 else 0, ?_, by omega, fun c => ⟨fun _ _ _ => rfl, fun i j => ?_⟩, fun c => ⟨by omega, by omega, by omega, ?_⟩⟩
  · rintro s10 ⟨f10, v10⟩
    obtain ⟨g1, g2, g3⟩ := fine s10 f10
    refine ⟨_, k_Ma_isFree g1 (by omega) g2, ?_⟩
    rintro r2 s16 ⟨rfl, hr2⟩
    rw [g3] at hr2
    refine ⟨fun q => (∀ k i, k < 45 ∨ 52 < k → q k i = s' k i) ∧ ∀ i j, q (45 + i) j = s' (45 + i) j + (if fre s' a = true ∧ i = a ∧ j = a then 1 else 0) + (if fre s' b = true ∧ i = b ∧ j = b then 1 else 0), ?_, by omega, fun c => ⟨f10, fun i j => ?_⟩, fun c => ⟨by omega, by omega, by omega, ?_⟩⟩
    · rintro s23 ⟨f23, v23⟩
      obtain ⟨g4, g5, g6⟩ := fine s23 f23
      refine ⟨_, k_Ma_isFree g4 (by omega) g5, ?_⟩
      rintro r3 s29 ⟨rfl, hr3⟩
      rw [g6] at hr3
      have fin0 : fre s' a = false ∨ fre s' b = false → (∀ k i, k < 45 ∨ 52 < k → s29 k i = s' k i) ∧ ∀ i j, s29 (45 + i) j = s' (45 + i) j + eJ s' a b i j := fun z => by
        refine ⟨f23, fun i j => ?_⟩
        rw [v23]
        unfold eJ dl
        rcases z with z | z <;> grind
      refine ⟨by omega, fun c => fin0 (Or.inl (hr3.resolve_left (fun z => by omega)).2), fun c => ⟨_, k_Ma_isFree g4 (by omega) g5, ?_⟩⟩
      rintro r4 s36 ⟨rfl, hr4⟩
      rw [g6] at hr4
      refine ⟨by omega, fun c2 => fin0 (Or.inr (hr4.resolve_left (fun z => by omega)).2), fun c2 => ⟨by omega, by omega, by omega, ?_⟩⟩
      have fa := (hr3.resolve_right (fun z => c z.1)).2
      have fb := (hr4.resolve_right (fun z => c2 z.1)).2
      rw [toNat_n, toNat_n]
      intro s44 e44
      have e44' : s44 = ad s36 a b (-1) := e44
      refine ⟨by omega, by omega, by omega, fun s48 e48 => ?_⟩
      have e48' : s48 = ad s44 b a (-1) := e48
      refine ⟨?_, fun i j => ?_⟩
      · rw [e48', e44']
        exact adf _ b a (-1) (by omega) (adf _ a b (-1) (by omega) f23)
      · rw [e48', e44', ad_at, ad_at, v23]
        unfold eJ dl
        grind
    · rw [v10, if_neg (c := fre s' b = true ∧ i = b ∧ j = b) (fun z => by rw [(hr2.resolve_left (fun z => by omega)).2] at z; cases z.1)]
      omega
    · rw [toNat_n]
      intro s54 e54
      have e54' : s54 = ad s16 b b 1 := e54
      refine ⟨by rw [e54']; exact adf _ b b 1 (by omega) f10, fun i j => ?_⟩
      rw [e54', ad_at, v10]
      congr 1
      exact ite_congr (propext ⟨fun z => ⟨(hr2.resolve_right (fun z => c z.1)).2, z⟩, fun z => z.2⟩) (fun _ => rfl) (fun _ => rfl)
  · rw [if_neg (fun z => by rw [(hr.resolve_left (fun z => by omega)).2] at z; cases z.1)]
    omega
  · rw [toNat_n]
    intro s61 e61
    have e61' : s61 = ad s' a a 1 := e61
    refine ⟨by rw [e61']; exact adf _ a a 1 (by omega) (fun _ _ _ => rfl), fun i j => ?_⟩
    rw [e61', ad_at]
    congr 1
    exact ite_congr (propext ⟨fun z => ⟨(hr.resolve_right (fun z => c z.1)).2, z⟩, fun z => z.2⟩) (fun _ => rfl) (fun _ => rfl)
