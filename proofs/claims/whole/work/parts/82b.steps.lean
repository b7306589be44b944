/-! the steps of the diagonal form are told by the cells alone -/
def Cr (N : Nat) (s : Sto) : Nat → Nat → Int := fun i j => if i < N ∧ j < N then s (45 + i) j else 0
theorem Cr_in {N : Nat} {s : Sto} {i j : Nat} (hi : i < N) (hj : j < N) : Cr N s i j = s (45 + i) j := if_pos ⟨hi, hj⟩
def oSw (N t : Nat) (X : Nat → Nat → Int) (a b : Nat) : Nat → Nat → Int := fun i j => if i < N ∧ j < N then X (sw2 t a i) (sw2 t b j) else 0
def oCc (N t : Nat) (D : Int) (X : Nat → Nat → Int) : Nat → Nat → Int := fun i j => if i < N ∧ j < N then (if t < i then (X i j + -(X i t / X t t) * X t j) % D else X i j) else 0
def oCr (N t : Nat) (D : Int) (X : Nat → Nat → Int) : Nat → Nat → Int := fun i j => if i < N ∧ j < N then (if t < j then (X i j + -(X t j / X t t) * X i t) % D else X i j) else 0
def oAr (N t : Nat) (D : Int) (X : Nat → Nat → Int) (i0 : Nat) : Nat → Nat → Int := fun i j => if i < N ∧ j < N then (if i = t then (X t j + 1 * X i0 j) % D else X i j) else 0
def o3 (N t : Nat) (D : Int) (X : Nat → Nat → Int) (a b : Nat) : Nat → Nat → Int := oCr N t D (oCc N t D (oSw N t X a b))
def oClr (N t : Nat) (X : Nat → Nat → Int) : Prop := (∀ i, t < i → i < N → X i t = 0) ∧ ∀ j, t < j → j < N → X t j = 0
def oFL (N t : Nat) (X : Nat → Nat → Int) (a b : Nat) : Prop := (t ≤ a ∧ a < N) ∧ (t ≤ b ∧ b < N) ∧ X a b ≠ 0 ∧ ∀ i j, t ≤ i → i < N → t ≤ j → j < N → X i j ≠ 0 → X a b < X i j ∨ X a b = X i j ∧ (a < i ∨ a = i ∧ b ≤ j)
def oFU (N t : Nat) (X : Nat → Nat → Int) (i : Nat) : Prop := t < i ∧ i < N ∧ (∃ j, t < j ∧ j < N ∧ ¬ X t t ∣ X i j) ∧ ∀ i' j, t < i' → i' < i → t < j → j < N → X t t ∣ X i' j
def oNU (N t : Nat) (X : Nat → Nat → Int) : Prop := ∀ i j, t < i → i < N → t < j → j < N → X t t ∣ X i j
theorem oFL.uniq {N t : Nat} {X : Nat → Nat → Int} {a b a' b' : Nat} (h : oFL N t X a b) (h' : oFL N t X a' b') : a = a' ∧ b = b' := by
  have u := h.2.2.2 a' b' h'.1.1 h'.1.2 h'.2.1.1 h'.2.1.2 h'.2.2.1
  have v := h'.2.2.2 a b h.1.1 h.1.2 h.2.1.1 h.2.1.2 h.2.2.1
  omega
theorem oFU.uniq {N t : Nat} {X : Nat → Nat → Int} {i i' : Nat} (h : oFU N t X i) (h' : oFU N t X i') : i = i' := by
  obtain ⟨h1, h2, ⟨j, h3, h4, h5⟩, h6⟩ := h
  obtain ⟨g1, g2, ⟨j', g3, g4, g5⟩, g6⟩ := h'
  by_cases c : i < i'
  · exact absurd (g6 i j h1 c h3 h4) h5
  · by_cases d : i' < i
    · exact absurd (h6 i' j' g1 d g3 g4) g5
    · omega
theorem oFU.no {N t : Nat} {X : Nat → Nat → Int} {i : Nat} (h : oFU N t X i) (h' : oNU N t X) : False := by
  obtain ⟨h1, h2, ⟨j, h3, h4, h5⟩, h6⟩ := h
  exact h5 (h' i j h1 h2 h3 h4)
/-- one round: it goes on (true), or has come to its end -/
def Rl (N t : Nat) (D : Int) (X : Nat → Nat → Int) (fl : Bool) (Y : Nat → Nat → Int) : Prop :=
  (fl = false ∧ Y = X ∧ ∀ i j, t ≤ i → i < N → t ≤ j → j < N → X i j = 0) ∨
  ∃ a b, oFL N t X a b ∧ ((fl = true ∧ ¬ oClr N t (o3 N t D X a b) ∧ Y = o3 N t D X a b) ∨ (fl = true ∧ oClr N t (o3 N t D X a b) ∧ ∃ i, oFU N t (o3 N t D X a b) i ∧ Y = oAr N t D (o3 N t D X a b) i) ∨ (fl = false ∧ oClr N t (o3 N t D X a b) ∧ oNU N t (o3 N t D X a b) ∧ Y = o3 N t D X a b))
theorem Rl.uniq {N t : Nat} {D : Int} {X Y Y' : Nat → Nat → Int} {f f' : Bool} (h : Rl N t D X f Y) (h' : Rl N t D X f' Y') : f = f' ∧ Y = Y' := by
  rcases h with ⟨h1, h2, h3⟩ | ⟨a, b, h1, h2⟩
  · rcases h' with ⟨g1, g2, g3⟩ | ⟨a', b', g1, g2⟩
    · exact ⟨h1.trans g1.symm, h2.trans g2.symm⟩
    · exact absurd (h3 a' b' g1.1.1 g1.1.2 g1.2.1.1 g1.2.1.2) g1.2.2.1
  · rcases h' with ⟨g1, g2, g3⟩ | ⟨a', b', g1, g2⟩
    · exact absurd (g3 a b h1.1.1 h1.1.2 h1.2.1.1 h1.2.1.2) h1.2.2.1
    · obtain ⟨rfl, rfl⟩ := h1.uniq g1
      rcases h2 with ⟨p1, p2, p3⟩ | ⟨p1, p2, i, p3, p4⟩ | ⟨p1, p2, p3, p4⟩ <;> rcases g2 with ⟨q1, q2, q3⟩ | ⟨q1, q2, i', q3, q4⟩ | ⟨q1, q2, q3, q4⟩
      · exact ⟨p1.trans q1.symm, p3.trans q3.symm⟩
      · exact absurd q2 p2
      · exact absurd q2 p2
      · exact absurd p2 q2
      · rw [p3.uniq q3] at p4
        exact ⟨p1.trans q1.symm, p4.trans q4.symm⟩
      · exact (p3.no q3).elim
      · exact absurd p2 q2
      · exact (q3.no p3).elim
      · exact ⟨p1.trans q1.symm, p4.trans q4.symm⟩
def Pre (N t : Nat) (D : Int) : Nat → (Nat → Nat → Int) → (Nat → Nat → Int) → Prop
  | 0, X, Y => X = Y
  | j + 1, X, Y => ∃ Z, Rl N t D X true Z ∧ Pre N t D j Z Y
theorem Pre.snoc {N t : Nat} {D : Int} : ∀ (j : Nat) {X Y Z : Nat → Nat → Int}, Pre N t D j X Y → Rl N t D Y true Z → Pre N t D (j + 1) X Z
  | 0, _, _, _, h, h' => by
    have e := h
    subst e
    exact ⟨_, h', rfl⟩
  | j + 1, _, _, _, ⟨W, h1, h2⟩, h' => ⟨W, h1, Pre.snoc j h2 h'⟩
theorem Pre.uniq {N t : Nat} {D : Int} : ∀ (j j' : Nat) {X Y Y' Z Z' : Nat → Nat → Int}, Pre N t D j X Y → Rl N t D Y false Z → Pre N t D j' X Y' → Rl N t D Y' false Z' → Z = Z'
  | 0, 0, _, _, _, _, _, h, r, h', r' => by
    have e := h
    have e' := h'
    subst e
    subst e'
    exact (r.uniq r').2
  | 0, j' + 1, _, _, _, _, _, h, r, ⟨W, h1, _⟩, _ => by
    have e := h
    subst e
    exact absurd (r.uniq h1).1 (by decide)
  | j + 1, 0, _, _, _, _, _, ⟨W, h1, _⟩, _, h', r' => by
    have e := h'
    subst e
    exact absurd (r'.uniq h1).1 (by decide)
  | j + 1, j' + 1, _, _, _, _, _, ⟨W, h1, h2⟩, r, ⟨W', g1, g2⟩, r' => by
    have e := (h1.uniq g1).2
    subst e
    exact Pre.uniq j j' h2 r g2 r'
/-- what a corner's clearing makes of the cells -/
def CaR (N t : Nat) (D : Int) (X Z : Nat → Nat → Int) : Prop := ∃ j Y, Pre N t D j X Y ∧ Rl N t D Y false Z
theorem CaR.uniq {N t : Nat} {D : Int} {X Z Z' : Nat → Nat → Int} (h : CaR N t D X Z) (h' : CaR N t D X Z') : Z = Z' := by
  obtain ⟨j, Y, h1, h2⟩ := h
  obtain ⟨j', Y', g1, g2⟩ := h'
  exact Pre.uniq j j' h1 h2 g1 g2
