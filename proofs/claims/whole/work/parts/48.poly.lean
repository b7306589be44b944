/-! polynomials as sequences; sums over sets of edges -/
noncomputable def ind (p : Prop) : Int := @ite Int p (Classical.propDecidable p) 1 0
theorem ind_t {p : Prop} (h : p) : ind p = 1 := if_pos h
theorem ind_f {p : Prop} (h : ¬ p) : ind p = 0 := if_neg h
theorem ind_c {p q : Prop} (h : p ↔ q) : ind p = ind q := by rw [show p = q from propext h]
theorem ind_bd (p : Prop) : 0 ≤ ind p ∧ ind p ≤ 1 := by
  by_cases h : p
  · rw [ind_t h]; decide
  · rw [ind_f h]; decide
/-- times y; times y - 1 -/
def sh (f : Nat → Int) : Nat → Int := fun i => if i = 0 then 0 else f (i - 1)
def zm (f : Nat → Int) : Nat → Int := fun i => sh f i - f i
def shn : Nat → (Nat → Int) → (Nat → Int)
  | 0, f => f
  | n + 1, f => sh (shn n f)
def zmn : Nat → (Nat → Int) → (Nat → Int)
  | 0, f => f
  | n + 1, f => zm (zmn n f)
def del0 : Nat → Int := fun i => if i = 0 then 1 else 0
def pad (f g : Nat → Int) : Nat → Int := fun i => f i + g i
def nul : Nat → Int := fun _ => 0
theorem pad_zm (f : Nat → Int) : pad f (zm f) = sh f := by
  funext i
  show f i + (sh f i - f i) = sh f i
  omega
theorem sh_pad (f g : Nat → Int) : sh (pad f g) = pad (sh f) (sh g) := by
  funext i
  unfold sh pad
  dsimp only
  split <;> rfl
theorem zm_pad (f g : Nat → Int) : zm (pad f g) = pad (zm f) (zm g) := by
  funext i
  unfold zm
  rw [sh_pad]
  unfold pad
  dsimp only
  omega
theorem sh_zm (f : Nat → Int) : sh (zm f) = zm (sh f) := by
  funext i
  show (if i = 0 then 0 else sh f (i - 1) - f (i - 1)) = (if i = 0 then 0 else sh f (i - 1)) - (if i = 0 then 0 else f (i - 1))
  split <;> omega
theorem shn_sh (n : Nat) (f : Nat → Int) : shn n (sh f) = sh (shn n f) := by
  induction n with
  | zero => rfl
  | succ n ih => show sh (shn n (sh f)) = _; rw [ih]; rfl
theorem zmn_zm (n : Nat) (f : Nat → Int) : zmn n (zm f) = zm (zmn n f) := by
  induction n with
  | zero => rfl
  | succ n ih => show zm (zmn n (zm f)) = _; rw [ih]; rfl
theorem shn_zm (n : Nat) (f : Nat → Int) : shn n (zm f) = zm (shn n f) := by
  induction n with
  | zero => rfl
  | succ n ih => show sh (shn n (zm f)) = _; rw [ih, sh_zm]; rfl
theorem zmn_sh (n : Nat) (f : Nat → Int) : zmn n (sh f) = sh (zmn n f) := by
  induction n with
  | zero => rfl
  | succ n ih => show zm (zmn n (sh f)) = _; rw [ih, ← sh_zm]; rfl
theorem shn_pad (n : Nat) (f g : Nat → Int) : shn n (pad f g) = pad (shn n f) (shn n g) := by
  induction n with
  | zero => rfl
  | succ n ih => show sh (shn n (pad f g)) = _; rw [ih, sh_pad]; rfl
theorem sh_nul : sh nul = nul := by funext i; unfold sh nul; split <;> rfl
theorem zm_nul : zm nul = nul := by funext i; unfold zm; rw [sh_nul]; rfl
theorem pad_nul (f : Nat → Int) : pad f nul = f := by funext i; show f i + 0 = f i; omega
theorem nul_pad (f : Nat → Int) : pad nul f = f := by funext i; show 0 + f i = f i; omega
theorem shn_at (n : Nat) (f : Nat → Int) (i : Nat) : shn n f i = if i < n then 0 else f (i - n) := by
  induction n generalizing i with
  | zero => rfl
  | succ n ih =>
    show (if i = 0 then 0 else shn n f (i - 1)) = _
    by_cases c : i = 0
    · rw [if_pos c, if_pos (by omega)]
    · rw [if_neg c, ih]
      by_cases d : i - 1 < n
      · rw [if_pos d, if_pos (by omega)]
      · rw [if_neg d, if_neg (by omega), show i - 1 - n = i - (n + 1) by omega]
/-- the sum over the sets of edges below m in D, put to a, of (y - 1) to the number chosen, weighted by g -/
def SW (D : Nat → Bool) (g : Nat → Int) : Nat → Nat → (Nat → Int)
  | 0, a => fun i => g a * del0 i
  | m + 1, a => if D m then pad (SW D g m a) (zm (SW D g m (a ||| 2 ^ m))) else SW D g m a
def cntD (D : Nat → Bool) : Nat → Nat
  | 0 => 0
  | m + 1 => if D m then cntD D m + 1 else cntD D m
theorem SW_congr {D D' : Nat → Bool} {g g' : Nat → Int} (hD : ∀ m, D m = D' m) (hg : ∀ a, g a = g' a) (m a : Nat) : SW D g m a = SW D' g' m a := by
  rw [show D = D' from funext hD, show g = g' from funext hg]
theorem SW_one {D : Nat → Bool} (m a : Nat) : SW D (fun _ => 1) m a = shn (cntD D m) del0 := by
  induction m generalizing a with
  | zero => funext i; show 1 * del0 i = del0 i; omega
  | succ m ih =>
    unfold SW cntD
    by_cases c : D m = true
    · rw [if_pos c, if_pos c, ih, ih, pad_zm]; rfl
    · rw [if_neg c, if_neg c, ih]
theorem SW_zero {D : Nat → Bool} {g : Nat → Int} (m a : Nat) (h : ∀ b, (∀ e, a.testBit e = true → b.testBit e = true) → g b = 0) : SW D g m a = nul := by
  induction m generalizing a with
  | zero => funext i; show g a * del0 i = 0; rw [h a (fun _ q => q)]; simp
  | succ m ih =>
    unfold SW
    split
    · rw [ih a h, ih (a ||| 2 ^ m) (fun b hb => h b (fun e q => hb e (by rw [tb_or, q]; rfl))), zm_nul, pad_nul]
    · exact ih a h
/-- edges that don't matter to g -/
theorem SW_free {D1 D2 : Nat → Bool} {g : Nat → Int} (hd : ∀ e, D1 e = true → D2 e = false) (hg : ∀ a b, (∀ e, D2 e = false → a.testBit e = b.testBit e) → g a = g b) (m : Nat) : ∀ a b, (∀ e, D2 e = false → a.testBit e = b.testBit e) → SW (fun e => D1 e || D2 e) g m a = shn (cntD D2 m) (SW D1 g m b) := by
  induction m with
  | zero => intro a b hab; funext i; show g a * del0 i = g b * del0 i; rw [hg a b hab]
  | succ m ih =>
    intro a b hab
    unfold SW cntD
    cases c1 : D1 m <;> cases c2 : D2 m
    · simp only [Bool.or_self, Bool.false_eq_true, if_false]
      exact ih a b hab
    · simp only [Bool.or_true, if_true, Bool.false_eq_true, if_false]
      rw [ih a b hab, ih (a ||| 2 ^ m) b (fun e he => by
        rw [tb_or, ← hab e he]
        have : decide (m = e) = false := by simpa using fun z => by rw [z, he] at c2; cases c2
        rw [this, Bool.or_false]), pad_zm]
      rfl
    · simp only [Bool.or_false, if_true, Bool.false_eq_true, if_false]
      rw [ih a b hab, ih (a ||| 2 ^ m) (b ||| 2 ^ m) (fun e he => by rw [tb_or, tb_or, hab e he]), ← shn_zm, ← shn_pad]
    · have := hd m c1; rw [c2] at this; cases this
/-- edges that g forbids -/
theorem SW_forbid {D D3 : Nat → Bool} {g : Nat → Int} (hd : ∀ e, D e = true → D3 e = false) (hg : ∀ a e, D3 e = true → a.testBit e = true → g a = 0) (m a : Nat) : SW (fun e => D e || D3 e) g m a = SW D g m a := by
  induction m generalizing a with
  | zero => rfl
  | succ m ih =>
    unfold SW
    cases c1 : D m <;> cases c2 : D3 m
    · simp only [Bool.or_self, Bool.false_eq_true, if_false]
      exact ih a
    · simp only [Bool.or_true, if_true, Bool.false_eq_true, if_false]
      rw [ih a, SW_zero (D := fun e => D e || D3 e) m (a ||| 2 ^ m) (fun b hb => hg b m c2 (hb m (by rw [tb_or]; simp))), zm_nul, pad_nul]
    · simp only [Bool.or_false, if_true]
      rw [ih a, ih (a ||| 2 ^ m)]
    · have := hd m c1; rw [c2] at this; cases this
/-- a sum of weights -/
theorem SW_sum {D : Nat → Bool} {K : Nat} {g : Nat → Nat → Int} (m a i : Nat) : SW D (fun b => sumN K (fun t => g t b)) m a i = sumN K (fun t => SW D (g t) m a i) := by
  induction m generalizing a i with
  | zero => show sumN K _ * del0 i = sumN K (fun t => g t a * del0 i); rw [sumN_mulr]
  | succ m ih =>
    unfold SW
    by_cases c : D m = true
    · simp only [c, if_true]
      show SW D _ m a i + (sh (SW D _ m (a ||| 2 ^ m)) i - SW D _ m (a ||| 2 ^ m) i) = sumN K (fun t => SW D (g t) m a i + (sh (SW D (g t) m (a ||| 2 ^ m)) i - SW D (g t) m (a ||| 2 ^ m) i))
      have e : sh (SW D (fun b => sumN K (fun t => g t b)) m (a ||| 2 ^ m)) i = sumN K (fun t => sh (SW D (g t) m (a ||| 2 ^ m)) i) := by
        unfold sh
        by_cases d : i = 0
        · simp only [if_pos d]; exact (sumN_zero K).symm
        · simp only [if_neg d]; exact ih _ _
      rw [ih, e, ih, sumN_add, sumN_sub]
    · simp only [if_neg c]
      exact ih a i
theorem SW_scale {D : Nat → Bool} {c : Int} {g : Nat → Int} (m a i : Nat) : SW D (fun b => c * g b) m a i = c * SW D g m a i := by
  induction m generalizing a i with
  | zero => show c * g a * del0 i = c * (g a * del0 i); rw [Int.mul_assoc]
  | succ m ih =>
    unfold SW
    by_cases d : D m = true
    · simp only [d, if_true]
      show SW D _ m a i + (sh (SW D _ m (a ||| 2 ^ m)) i - SW D _ m (a ||| 2 ^ m) i) = c * (SW D g m a i + (sh (SW D g m (a ||| 2 ^ m)) i - SW D g m (a ||| 2 ^ m) i))
      have e : sh (SW D (fun b => c * g b) m (a ||| 2 ^ m)) i = c * sh (SW D g m (a ||| 2 ^ m)) i := by
        unfold sh
        by_cases d : i = 0
        · simp only [if_pos d]; simp
        · simp only [if_neg d]; exact ih _ _
      rw [ih, e, ih, Int.mul_add, Int.mul_sub]
    · simp only [if_neg d]
      exact ih a i
theorem SW_zero2 {D : Nat → Bool} {g : Nat → Int} (m a : Nat) (h : ∀ b, (∀ e, m ≤ e → b.testBit e = a.testBit e) → g b = 0) : SW D g m a = nul := by
  induction m generalizing a with
  | zero => funext i; show g a * del0 i = 0; rw [h a (fun _ _ => rfl)]; simp
  | succ m ih =>
    unfold SW
    have h1 : SW D g m a = nul := ih a (fun b hb => h b (fun e he => hb e (by omega)))
    have h2 : SW D g m (a ||| 2 ^ m) = nul := ih (a ||| 2 ^ m) (fun b hb => h b (fun e he => by
      rw [hb e (by omega), tb_or]
      have : decide (m = e) = false := by simpa using fun z => by omega
      rw [this, Bool.or_false]))
    rw [h1, h2, zm_nul, pad_nul]
    split <;> rfl
/-- the sets that agree with T on U -/
theorem SW_agree {M U T : Nat} (m : Nat) : ∀ a, m ≤ M → (∀ e, e < m → a.testBit e = false) → (∀ e, m ≤ e → e < M → U.testBit e = true → a.testBit e = T.testBit e) → SW (fun _ => true) (fun b => ind (∀ e, e < M → U.testBit e = true → b.testBit e = T.testBit e)) m a = zmn (cntD (fun e => U.testBit e && T.testBit e) m) (shn (cntD (fun e => !U.testBit e) m) del0) := by
  induction m with
  | zero =>
    intro a _ _ h
    funext i
    show ind _ * del0 i = del0 i
    rw [ind_t (fun e => h e (Nat.zero_le e))]
    omega
  | succ m ih =>
    intro a hm h0 h1
    have am : a.testBit m = false := h0 m (by omega)
    have bm : (a ||| 2 ^ m).testBit m = true := by rw [tb_or]; simp
    have bo : ∀ e, e ≠ m → (a ||| 2 ^ m).testBit e = a.testBit e := fun e he => by
      rw [tb_or]
      have : decide (m = e) = false := by simpa using fun z => he z.symm
      rw [this, Bool.or_false]
    have b0 : ∀ e, e < m → (a ||| 2 ^ m).testBit e = false := fun e he => by rw [bo e (by omega)]; exact h0 e (by omega)
    unfold SW cntD
    simp only [if_true]
    cases cU : U.testBit m
    · have hA : ∀ b : Nat, (∀ e, e ≠ m → b.testBit e = a.testBit e) → ∀ e, m ≤ e → e < M → U.testBit e = true → b.testBit e = T.testBit e := fun b hb e he hM hu => by
        by_cases d : e = m
        · rw [d, cU] at hu; cases hu
        · rw [hb e d]; exact h1 e (by omega) hM hu
      rw [ih a (by omega) (fun e he => h0 e (by omega)) (hA a (fun _ _ => rfl)), ih (a ||| 2 ^ m) (by omega) b0 (hA _ bo), pad_zm]
      simp only [Bool.false_and, Bool.false_eq_true, if_false, Bool.not_false, if_true]
      rw [← zmn_sh]
      rfl
    · cases cT : T.testBit m
      · rw [ih a (by omega) (fun e he => h0 e (by omega)) (fun e he hM hu => by
          by_cases d : e = m
          · rw [d, am, cT]
          · exact h1 e (by omega) hM hu), SW_zero2 m (a ||| 2 ^ m) (fun b hb => ind_f (fun z => by
          have := z m (by omega) cU
          rw [hb m (Nat.le_refl m), bm, cT] at this; cases this)), zm_nul, pad_nul]
        simp
      · rw [ih (a ||| 2 ^ m) (by omega) b0 (fun e he hM hu => by
          by_cases d : e = m
          · rw [d, bm, cT]
          · rw [bo e d]; exact h1 e (by omega) hM hu), SW_zero2 m a (fun b hb => ind_f (fun z => by
          have := z m (by omega) cU
          rw [hb m (Nat.le_refl m), am, cT] at this; cases this)), nul_pad]
        simp only [Bool.and_self, if_true, Bool.not_true, Bool.false_eq_true, if_false]
        rfl
theorem cntD_bc (a m : Nat) : (cntD (fun e => a.testBit e) m : Int) = bc a m := by
  induction m with
  | zero => rfl
  | succ m ih =>
    unfold cntD
    show _ = bc a m + (if a.testBit m then 1 else 0)
    rw [← ih]
    split <;> rfl
theorem cntD_congr {D D' : Nat → Bool} {m : Nat} (h : ∀ e, e < m → D e = D' e) : cntD D m = cntD D' m := by
  induction m with
  | zero => rfl
  | succ m ih => unfold cntD; rw [ih (fun e he => h e (by omega)), h m (by omega)]
theorem cntD_le (D : Nat → Bool) (m : Nat) : cntD D m ≤ m := by
  induction m with
  | zero => exact Nat.le_refl 0
  | succ m ih => unfold cntD; split <;> omega
theorem cntD_not (D : Nat → Bool) (m : Nat) : cntD D m + cntD (fun e => !D e) m = m := by
  induction m with
  | zero => rfl
  | succ m ih =>
    unfold cntD
    cases D m
    · simp only [Bool.false_eq_true, if_false, Bool.not_false, if_true]; omega
    · simp only [if_true, Bool.not_true, Bool.false_eq_true, if_false]; omega
