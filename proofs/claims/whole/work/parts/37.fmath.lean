/-! firing: the mathematics -/
section FM
variable {J : Nat → Nat → Int} {K N : Nat}
/-- what firing v f v times takes from v -/
def lap (J : Nat → Nat → Int) (N : Nat) (f : Nat → Int) (v : Nat) : Int := sumN N (fun w => J v w * (f v - f w))
def dgr (J : Nat → Nat → Int) (N : Nat) (v : Nat) : Int := sumN N (J v)
theorem lap_congr {f g : Nat → Int} (h : ∀ v, v < N → f v = g v) {v : Nat} (hv : v < N) : lap J N f v = lap J N g v := sumN_congr (fun w hw => by rw [h v hv, h w hw])
theorem lap_zero (v : Nat) : lap J N (fun _ => 0) v = 0 := sumN_z (fun w _ => by simp)
theorem lap_add (f g : Nat → Int) (v : Nat) : lap J N (fun u => f u + g u) v = lap J N f v + lap J N g v := by
  unfold lap
  rw [← sumN_add]
  exact sumN_congr (fun w _ => by grind)
theorem lap_sub (f g : Nat → Int) (v : Nat) : lap J N (fun u => f u - g u) v = lap J N f v - lap J N g v := by
  unfold lap
  rw [← sumN_sub]
  exact sumN_congr (fun w _ => by grind)
/-- one node fires t times -/
theorem lap_fu {f : Nat → Int} {v : Nat} {t : Int} (hv : v < N) (hz : J v v = 0) (u : Nat) : lap J N (fu f v (f v + t)) u = lap J N f u + (if u = v then t * dgr J N v else - (t * J u v)) := by
  unfold lap
  by_cases e : u = v
  · subst e
    rw [if_pos rfl]
    unfold dgr
    rw [← sumN_mul, ← sumN_add]
    refine sumN_congr (fun w _ => ?_)
    rw [fu_eq]
    by_cases c : w = u
    · subst c; rw [fu_eq, hz]; simp
    · rw [fu_ne c]; grind
  · rw [if_neg e, sumN_up (f := fun w => J u w * (f u - f w)) (k := v) hv (fun w _ hw => by rw [fu_ne e, fu_ne hw]), fu_ne e, fu_eq]
    grind
def Stb (J : Nat → Nat → Int) (K N : Nat) (c : Nat → Int) : Prop := ∀ v, v < N → v ≠ K → 0 < dgr J N v → c v < dgr J N v
def LAP (J : Nat → Nat → Int) (K N : Nat) (c f : Nat → Int) : Prop := ∀ g : Nat → Int, (∀ v, v < N → 0 ≤ g v) → g K = 0 → Stb J K N (fun v => c v - lap J N g v) → ∀ v, v < N → f v ≤ g v
theorem LAP.zero {c : Nat → Int} : LAP J K N c (fun _ => 0) := fun g h _ _ v hv => h v hv
theorem LAP.step {c f : Nat → Int} {v : Nat} {t : Int} (hJ : ∀ u w, u < N → w < N → 0 ≤ J u w) (hv : v < N) (hK : v ≠ K) (hD : 0 < dgr J N v) (ht : t * dgr J N v ≤ c v - lap J N f v) (h : LAP J K N c f) : LAP J K N c (fu f v (f v + t)) := by
  intro g h1 h2 h3 u hu
  have hg := h g h1 h2 h3
  by_cases e : u = v
  · subst e
    rw [fu_eq]
    apply Classical.byContradiction
    intro c9
    have hs := h3 u hu hK hD
    have hl : lap J N g u - lap J N f u ≤ (g u - f u) * dgr J N u := by
      rw [← lap_sub]
      unfold lap dgr
      rw [← sumN_mul]
      refine sumN_le (fun w hw => ?_)
      have a := hJ u w hu hw
      have b := hg w hw
      have : J u w * (g u - f u - (g w - f w)) ≤ J u w * (g u - f u) := Int.mul_le_mul_of_nonneg_left (by omega) a
      rw [Int.mul_comm (g u - f u)]
      exact this
    have h5 : (t - (g u - f u)) * dgr J N u ≥ 1 * dgr J N u := Int.mul_le_mul_of_nonneg_right (by omega) (by omega)
    have h6 : (t - (g u - f u)) * dgr J N u = t * dgr J N u - (g u - f u) * dgr J N u := by grind
    have hs : c u - lap J N g u < dgr J N u := hs
    omega
  · rw [fu_ne e]
    exact hg u hu
/-- f is how often each node fires until all is stable -/
def Stl (J : Nat → Nat → Int) (K N : Nat) (c f : Nat → Int) : Prop := (∀ v, v < N → 0 ≤ f v) ∧ f K = 0 ∧ Stb J K N (fun v => c v - lap J N f v) ∧ LAP J K N c f
theorem Stl.uniq {c f g : Nat → Int} (h : Stl J K N c f) (h' : Stl J K N c g) {v : Nat} (hv : v < N) : f v = g v := by
  have a := h.2.2.2 g h'.1 h'.2.1 h'.2.2.1 v hv
  have b := h'.2.2.2 f h.1 h.2.1 h.2.2.1 v hv
  omega
theorem Stl.congr {c c' f : Nat → Int} (h : Stl J K N c f) (e : ∀ v, v < N → c v = c' v) : Stl J K N c' f := by
  refine ⟨h.1, h.2.1, fun v hv hK hD => by have := h.2.2.1 v hv hK hD; simp only [e v hv] at this; exact this, fun g h1 h2 h3 => h.2.2.2 g h1 h2 (fun v hv hK hD => by have := h3 v hv hK hD; simp only [e v hv]; exact this)⟩
theorem Stl.congrf {c f f' : Nat → Int} (hK : K < N) (h : Stl J K N c f) (e : ∀ v, v < N → f v = f' v) : Stl J K N c f' := by
  refine ⟨fun v hv => by rw [← e v hv]; exact h.1 v hv, by rw [← e K hK]; exact h.2.1, fun v hv hk hD => ?_, fun g h1 h2 h3 v hv => by rw [← e v hv]; exact h.2.2.2 g h1 h2 h3 v hv⟩
  have := h.2.2.1 v hv hk hD
  simp only [lap_congr e hv] at this
  exact this
/-- some of the firings done first -/
theorem Stl.part {c f d : Nat → Int} (h : Stl J K N c f) (hd : ∀ v, v < N → 0 ≤ d v) (hdK : d K = 0) (hdf : ∀ v, v < N → d v ≤ f v) : Stl J K N (fun v => c v - lap J N d v) (fun v => f v - d v) := by
  refine ⟨fun v hv => by have := hdf v hv; dsimp only; omega, by dsimp only; rw [h.2.1, hdK]; rfl, fun v hv hK hD => ?_, fun g h1 h2 h3 v hv => ?_⟩
  · have := h.2.2.1 v hv hK hD
    simp only [lap_sub] at this ⊢
    omega
  · have := h.2.2.2 (fun u => g u + d u) (fun u hu => by have := h1 u hu; have := hd u hu; omega) (by rw [h2, hdK]; rfl) (fun u hu hK hD => by
      have := h3 u hu hK hD
      simp only [lap_add] at this ⊢
      omega) v hv
    dsimp only at this ⊢
    omega
/-- every set without the sink has an edge out of it -/
def Cut (J : Nat → Nat → Int) (K N : Nat) : Prop := ∀ X : Nat → Prop, ¬ X K → (∃ v, v < N ∧ X v) → ∃ x y, x < N ∧ y < N ∧ X x ∧ ¬ X y ∧ 0 < J x y
theorem flow {f : Nat → Int} (hS : ∀ u w, u < N → w < N → J u w = J w u) (t : Int) : sumN N (fun x => if t < f x then lap J N f x else 0) = sumN N (fun x => sumN N (fun y => if t < f x ∧ ¬ t < f y then J x y * (f x - f y) else 0)) := by
  have h1 : sumN N (fun x => if t < f x then lap J N f x else 0) = sumN N (fun x => sumN N (fun y => if t < f x ∧ ¬ t < f y then J x y * (f x - f y) else 0)) + sumN N (fun x => sumN N (fun y => if t < f x ∧ t < f y then J x y * (f x - f y) else 0)) := by
    rw [← sumN_add]
    refine sumN_congr (fun x _ => ?_)
    rw [← sumN_add]
    by_cases c : t < f x
    · rw [if_pos c]
      refine sumN_congr (fun y _ => ?_)
      by_cases d : t < f y
      · rw [if_neg (by omega), if_pos ⟨c, d⟩]; omega
      · rw [if_pos ⟨c, d⟩, if_neg (by omega)]; omega
    · rw [if_neg c]
      exact (sumN_z (fun y _ => by rw [if_neg (by omega), if_neg (by omega)]; rfl)).symm
  have h2 : sumN N (fun x => sumN N (fun y => if t < f x ∧ t < f y then J x y * (f x - f y) else 0)) = - sumN N (fun x => sumN N (fun y => if t < f x ∧ t < f y then J x y * (f x - f y) else 0)) := by
    conv => lhs; rw [sumN_comm]
    rw [← sumN_neg]
    refine sumN_congr (fun x hx => ?_)
    rw [← sumN_neg]
    refine sumN_congr (fun y hy => ?_)
    by_cases c : t < f x ∧ t < f y
    · rw [if_pos ⟨c.2, c.1⟩, if_pos c, hS y x hy hx]; grind
    · rw [if_neg (fun z => c ⟨z.2, z.1⟩), if_neg c]; rfl
  omega
theorem gap {c f : Nat → Int} {T t : Int} (hJ : ∀ u w, u < N → w < N → 0 ≤ J u w) (hS : ∀ u w, u < N → w < N → J u w = J w u) (hC : Cut J K N) (hf : f K = 0) (hc : ∀ v, v < N → 0 ≤ c v) (hT : sumN N c ≤ T) (hl : ∀ v, v < N → v ≠ K → lap J N f v ≤ c v) (ht : 0 ≤ t) (hv : ∃ v, v < N ∧ t < f v) : ∃ x, x < N ∧ t < f x ∧ f x ≤ t + T := by
  obtain ⟨x, y, hx, hy, h1, h2, h3⟩ := hC (fun u => t < f u) (by omega) hv
  refine ⟨x, hx, h1, ?_⟩
  have e := flow (J := J) (f := f) hS t
  have h4 : sumN N (fun x => if t < f x then lap J N f x else 0) ≤ sumN N c := sumN_le (fun u hu => by
    by_cases d : t < f u
    · rw [if_pos d]
      exact hl u hu (fun q => by rw [q] at d; omega)
    · rw [if_neg d]; exact hc u hu)
  have nn : ∀ u w, u < N → w < N → 0 ≤ (if t < f u ∧ ¬ t < f w then J u w * (f u - f w) else 0) := fun u w hu hw => by
    by_cases d : t < f u ∧ ¬ t < f w
    · rw [if_pos d]; exact Int.mul_nonneg (hJ u w hu hw) (by omega)
    · rw [if_neg d]; exact Int.le_refl 0
  have h5 := sumN_ge (n := N) (f := fun x => sumN N (fun y => if t < f x ∧ ¬ t < f y then J x y * (f x - f y) else 0)) (fun u hu => sumN_nn (fun w hw => nn u w hu hw)) hx
  have h6 := sumN_ge (n := N) (f := fun y => if t < f x ∧ ¬ t < f y then J x y * (f x - f y) else 0) (fun w hw => nn x w hx hw) hy
  rw [if_pos ⟨h1, h2⟩] at h6
  have h7 : 1 * (f x - f y) ≤ J x y * (f x - f y) := Int.mul_le_mul_of_nonneg_right (by omega) (by omega)
  omega
theorem fire_bound {c f : Nat → Int} {T : Int} (hJ : ∀ u w, u < N → w < N → 0 ≤ J u w) (hS : ∀ u w, u < N → w < N → J u w = J w u) (hC : Cut J K N) (hK : K < N) (hf : f K = 0) (hc : ∀ v, v < N → 0 ≤ c v) (hT : sumN N c ≤ T) (hl : ∀ v, v < N → v ≠ K → lap J N f v ≤ c v) {v : Nat} (hv : v < N) : f v ≤ (N - 1) * T := by
  have hT0 : 0 ≤ T := Int.le_trans (sumN_nn hc) hT
  have key : ∀ i : Nat, (∃ v, v < N ∧ i * T < f v) → (i : Int) + 1 ≤ sumN N (fun u => if f u ≤ i * T then 1 else 0) := by
    intro i
    induction i with
    | zero =>
      intro _
      have := sumN_ge (n := N) (f := fun u => if f u ≤ (0 : Nat) * T then (1 : Int) else 0) (fun u _ => by split <;> decide) hK
      rw [if_pos (by rw [hf]; simp)] at this
      exact this
    | succ i ih =>
      rintro ⟨w, hw, h1⟩
      have e1 : ((i + 1 : Nat) : Int) * T = i * T + T := by rw [Int.natCast_succ, Int.add_mul, Int.one_mul]
      rw [e1] at h1
      have h2 := ih ⟨w, hw, by omega⟩
      obtain ⟨x, hx, h3, h4⟩ := gap (t := i * T) hJ hS hC hf hc hT hl (Int.mul_nonneg (by omega) hT0) ⟨w, hw, by omega⟩
      have h5 := sumN_up (n := N) (f := fun u => if f u ≤ i * T then (1 : Int) else 0) (g := fun u => if u = x then 1 else if f u ≤ i * T then 1 else 0) hx (fun u _ hu => if_neg hu)
      rw [if_pos rfl, if_neg (by omega)] at h5
      have h6 := sumN_le (n := N) (f := fun u => if u = x then (1 : Int) else if f u ≤ i * T then 1 else 0) (g := fun u => if f u ≤ ((i + 1 : Nat) : Int) * T then 1 else 0) (fun u _ => by
        rw [e1]
        by_cases d : u = x
        · rw [if_pos d, d, if_pos h4]; decide
        · rw [if_neg d]
          by_cases d2 : f u ≤ i * T
          · rw [if_pos d2, if_pos (by omega)]; decide
          · rw [if_neg d2]; split <;> decide)
      omega
  apply Classical.byContradiction
  intro h
  have hN : ((N - 1 : Nat) : Int) = N - 1 := by omega
  have h1 := key (N - 1) ⟨v, hv, by rw [hN]; omega⟩
  rw [hN] at h1
  have h2 := sumN_up (n := N) (f := fun _ => (1 : Int)) (g := fun u => if u = v then 0 else 1) hv (fun u _ hu => if_neg hu)
  have h3 := sumN_le (n := N) (f := fun u => if f u ≤ (N - 1) * T then (1 : Int) else 0) (g := fun u => if u = v then 0 else 1) (fun u _ => by
    by_cases d : u = v
    · rw [d, if_neg (by omega), if_pos rfl]; decide
    · rw [if_neg d]; split <;> decide)
  rw [sumN_const, if_pos rfl] at h2
  omega
/-- the two states differ by firings -/
def Cls (J : Nat → Nat → Int) (K N : Nat) (c c' : Nat → Int) : Prop := ∃ g : Nat → Int, g K = 0 ∧ ∀ v, v < N → v ≠ K → c' v = c v - lap J N g v
theorem Cls.refl (c : Nat → Int) : Cls J K N c c := ⟨fun _ => 0, rfl, fun v _ _ => by rw [lap_zero]; omega⟩
theorem Cls.symm {c c' : Nat → Int} (h : Cls J K N c c') : Cls J K N c' c := by
  obtain ⟨g, h1, h2⟩ := h
  refine ⟨fun v => 0 - g v, by dsimp only; omega, fun v hv hk => ?_⟩
  rw [lap_sub, lap_zero, h2 v hv hk]
  omega
theorem Cls.trans {a b c : Nat → Int} (h : Cls J K N a b) (h' : Cls J K N b c) : Cls J K N a c := by
  obtain ⟨g, h1, h2⟩ := h
  obtain ⟨g', h3, h4⟩ := h'
  refine ⟨fun v => g v + g' v, by dsimp only; omega, fun v hv hk => ?_⟩
  rw [lap_add, h4 v hv hk, h2 v hv hk]
  omega
theorem Cls.of {a b a' b' : Nat → Int} (h : Cls J K N a b) (ha : ∀ v, v < N → v ≠ K → a' v = a v) (hb : ∀ v, v < N → v ≠ K → b' v = b v) : Cls J K N a' b' := by
  obtain ⟨g, h1, h2⟩ := h
  exact ⟨g, h1, fun v hv hk => by rw [ha v hv hk, hb v hv hk]; exact h2 v hv hk⟩
/-- superstable -/
def SSt (J : Nat → Nat → Int) (K N : Nat) (c : Nat → Int) : Prop := (∀ v, v < N → v ≠ K → 0 ≤ c v) ∧ AllB J (fun v => c v + 1) K N
/-- in a superstable state each set without the sink has a node with fewer chips than edges out of the set -/
theorem SSt.out {c : Nat → Int} (hJ : ∀ u w, u < N → w < N → 0 ≤ J u w) (h : SSt J K N c) {U : Nat → Prop} (hK : ¬ U K) {u : Nat} (hu : u < N) (hU : U u) : ∃ v, v < N ∧ U v ∧ ∃ f : Nat → Int, (∀ w, w < N → f w = 0 ∨ ¬ U w ∧ f w = J v w) ∧ c v + 1 ≤ sumN N f := by
  apply Classical.byContradiction
  intro hn
  refine h.2 u hu (rnd_unb hJ hK (fun v hv hUv f hf => ?_) N u hu hU)
  apply Classical.byContradiction
  intro c9
  exact hn ⟨v, hv, hUv, f, hf, by omega⟩
theorem max_at (g : Nat → Int) : ∀ n, 0 < n → ∃ m, m < n ∧ ∀ w, w < n → g w ≤ g m := by
  intro n
  induction n with
  | zero => intro h; omega
  | succ n ih =>
    intro _
    by_cases d : n = 0
    · exact ⟨0, by omega, fun w hw => by rw [show w = 0 by omega]; exact Int.le_refl _⟩
    · obtain ⟨m, h1, h2⟩ := ih (by omega)
      by_cases d2 : g n ≤ g m
      · refine ⟨m, by omega, fun w hw => ?_⟩
        by_cases q : w = n
        · rw [q]; exact d2
        · exact h2 w (by omega)
      · refine ⟨n, by omega, fun w hw => ?_⟩
        by_cases q : w = n
        · rw [q]; exact Int.le_refl _
        · have := h2 w (by omega); omega
theorem SSt.le {c c' : Nat → Int} (hJ : ∀ u w, u < N → w < N → 0 ≤ J u w) (h : SSt J K N c) (h' : ∀ v, v < N → v ≠ K → 0 ≤ c' v) {g : Nat → Int} (hg : g K = 0) (e : ∀ v, v < N → v ≠ K → c' v = c v - lap J N g v) {v : Nat} (hv : v < N) : g v ≤ 0 := by
  apply Classical.byContradiction
  intro c9
  obtain ⟨m, hm, hmx⟩ := max_at g N (by omega)
  have hm0 : 0 < g m := by have := hmx v hv; omega
  obtain ⟨x, hx, hxU, f, hf, hs⟩ := h.out hJ (U := fun u => g u = g m) (by omega) hm rfl
  have hxU : g x = g m := hxU
  have hxK : x ≠ K := fun q => by rw [q] at hxU; omega
  have h1 := e x hx hxK
  have h2 := h' x hx hxK
  have h3 : sumN N f ≤ lap J N g x := sumN_le (fun w hw => by
    have hj := hJ x w hx hw
    rcases hf w hw with q | ⟨q1, q2⟩
    · rw [q]
      exact Int.mul_nonneg hj (by have := hmx w hw; omega)
    · rw [q2]
      have := hmx w hw
      have : J x w * 1 ≤ J x w * (g x - g w) := Int.mul_le_mul_of_nonneg_left (by omega) hj
      omega)
  omega
/-- one superstable state a class -/
theorem SSt.uniq {c c' : Nat → Int} (hJ : ∀ u w, u < N → w < N → 0 ≤ J u w) (h : SSt J K N c) (h' : SSt J K N c') (hc : Cls J K N c c') {v : Nat} (hv : v < N) (hk : v ≠ K) : c v = c' v := by
  obtain ⟨g, hg, e⟩ := hc
  have a : ∀ v, v < N → g v ≤ 0 := fun v hv => h.le hJ h'.1 hg e hv
  have b : ∀ v, v < N → 0 - g v ≤ 0 := fun v hv => h'.le (c' := c) (g := fun u => 0 - g u) hJ h.1 (by omega) (fun u hu huk => by rw [lap_sub, lap_zero, e u hu huk]; omega) hv
  have z : ∀ v, v < N → g v = (fun _ => (0 : Int)) v := fun v hv => by have := a v hv; have := b v hv; dsimp only; omega
  rw [e v hv hk, lap_congr z hv, lap_zero]
  omega
end FM
