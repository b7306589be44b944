/-! the fresh objects, run -/
def tbl0 (S : Shp) : Tb := (List.range (nc S)).map fun k => List.replicate (ln S k) 0
def thn (c : Option (Int × Tb)) (f : Tb → Option (Int × Tb)) : Option (Int × Tb) := bnd c fun _ t => f t
def tC0 : Tb := (tbl0 SC).set 1 (((tbl0 SC).getD 1 []).set 0 2)
def tCs : Option (Int × Tb) := thn (x_Gr_clear 100 2 tC0) (fun t => x_Gr_append 100 0 1 t)
def tMs : Option (Int × Tb) := thn (x_Mo_begin 100 2 (tbl0 SM)) (fun t => x_Mo_join 100 0 1 t)
def tC : Tb := match tCs with
  | some p => p.2
  | none => []
def tM : Tb := match tMs with
  | some p => p.2
  | none => []
/-- both run, and answer alike -/
def both (c d : Option (Int × Tb)) : Bool := match c, d with
  | some p, some q => decide (p.1 = q.1)
  | _, _ => false
theorem both_of {c d : Option (Int × Tb)} (h : both c d = true) : ∃ v t t', c = some (v, t) ∧ d = some (v, t') := by
  cases c with
  | none => cases h
  | some p =>
    cases d with
    | none => cases h
    | some q =>
      have e : p.1 = q.1 := of_decide_eq_true h
      obtain ⟨p1, p2⟩ := p
      obtain ⟨q1, q2⟩ := q
      have e : p1 = q1 := e
      subst e
      exact ⟨_, _, _, rfl, rfl⟩
theorem both_eq {v : Int} {t t' : Tb} : both (some (v, t)) (some (v, t')) = true := decide_eq_true rfl
/-- the relation for one call: the first starts from the fresh objects, after it nothing is wanted -/
def Fr (k : Nat) (x y : Sto) : Prop := k = 0 → x = tof tC ∧ y = tof tM
theorem ob {KC KM : (Int → Sto → Prop) → Prop} {c d : Option (Int × Tb)} {k : Nat} (h : both c d = true) (hC : ∀ r t, c = some (r, t) → KC (fun r' _ => r' = r)) (hM : ∀ r t, d = some (r, t) → KM (fun r' _ => r' = r)) : ∃ Q : Int → Sto → Prop, KC Q ∧ ∀ r x', Q r x' → ∃ Q2 : Int → Sto → Prop, KM Q2 ∧ ∀ r2 y', Q2 r2 y' → r = r2 ∧ Fr (k + 1) x' y' := by
  obtain ⟨v, t, t', e1, e2⟩ := both_of h
  exact ⟨_, hC v t e1, fun r x' q => ⟨_, hM v t' e2, fun r2 y' q2 => ⟨q.trans q2.symm, fun z => absurd z (by omega)⟩⟩⟩
theorem r1_f {x : Int} (h : -2147483648 ≤ x ∧ x < 2147483648) (P : Prop) [Decidable P] {β : Type} (A : β) (B : β) (hP : P ↔ True) : (if P then A else B) = A := if_pos (hP.mpr trivial)
theorem bnd_some {β : Type} {r : Int} {t : Tb} {f : Int → Tb → Option β} : bnd (some (r, t)) f = f r t := rfl
theorem r3_0 : -2147483648 ≤ (0 : Int) ∧ (0 : Int) < 2147483648 := by decide
theorem r3_1 : -2147483648 ≤ (1 : Int) ∧ (1 : Int) < 2147483648 := by decide
theorem n10 : ¬ (1 : Int) = 0 := by decide
/-! guards of the fresh objects -/
theorem c00 : tof tC 1 0 = 2 := by decide +kernel
theorem c01 : tof tC 1 1 = 1 := by decide +kernel
theorem c02 : tof tC 1 2 = 0 := by decide +kernel
theorem m00 : tof tM 0 0 = 2 := by decide +kernel
theorem m01 : tof tM 0 1 = 1 := by decide +kernel
theorem m02 : tof tM 0 2 = 0 := by decide +kernel
theorem gC_node {a : Int} (h : -2147483648 ≤ a ∧ a < 2147483648) (n : a < 0 ∨ 2 ≤ a) : x_Gr_hasNode 100 a tC = some (0, tC) := by
  unfold x_Gr_hasNode xb_Gr_hasNode_e
  rw [if_pos h, c00]
  rcases n with n | n
  · rw [if_pos n]
  · rw [if_neg (by omega), if_pos ⟨h, by decide, by decide⟩, if_pos n]
theorem gC_chips {a : Int} (h : -2147483648 ≤ a ∧ a < 2147483648) (n : a < 1 ∨ 2 ≤ a) : x_Gr_hasChipsAt 100 a tC = some (0, tC) := by
  by_cases c : a = 0
  · subst c; decide +kernel
  · unfold x_Gr_hasChipsAt xb_Gr_hasChipsAt_e
    rw [gC_node h (by omega), bnd_some, if_pos r3_0, if_pos rfl]
theorem gC_edge {a : Int} (h : -2147483648 ≤ a ∧ a < 2147483648) (n : a < 0 ∨ 1 ≤ a) : x_Gr_hasEdge 100 a tC = some (0, tC) := by
  unfold x_Gr_hasEdge xb_Gr_hasEdge_e
  rw [if_pos h, c01]
  rcases n with n | n
  · rw [if_pos n]
  · rw [if_neg (by omega), if_pos ⟨h, by decide, by decide⟩, if_pos n]
theorem gC_slot {a : Int} (h : -2147483648 ≤ a ∧ a < 2147483648) (n : a < 0 ∨ 3 ≤ a) : x_Sl_has 100 a tC = some (0, tC) := by
  unfold x_Sl_has xb_Sl_has_e
  rw [if_pos h]
  rcases n with n | n
  · rw [if_pos n]
  · rw [if_neg (by omega), if_pos h, if_pos n]
theorem gM_in {a u v : Int} {t : Tb} (h : -2147483648 ≤ a ∧ a < 2147483648) (hu : -2147483648 ≤ u ∧ u < 2147483648) (hv : -2147483648 ≤ v ∧ v < 2147483648) (n : a < u ∨ v < a) : x_Mo_in 100 a u v t = some (0, t) := by
  unfold x_Mo_in xb_Mo_in_e
  rw [if_pos ⟨h, hu⟩]
  by_cases c : a < u
  · rw [if_pos c]
  · rw [if_neg c, if_pos ⟨h, hv⟩, if_pos (by omega)]
theorem gM_in1 {a u v : Int} {t : Tb} (h : -2147483648 ≤ a ∧ a < 2147483648) (hu : -2147483648 ≤ u ∧ u < 2147483648) (hv : -2147483648 ≤ v ∧ v < 2147483648) (n : u ≤ a ∧ a ≤ v) : x_Mo_in 100 a u v t = some (1, t) := by
  unfold x_Mo_in xb_Mo_in_e
  rw [if_pos ⟨h, hu⟩, if_neg (by omega), if_pos ⟨h, hv⟩, if_neg (by omega)]
theorem gM_node {a : Int} (h : -2147483648 ≤ a ∧ a < 2147483648) (n : a < 0 ∨ 2 ≤ a) : x_Mo_isNode 100 a tM = some (0, tM) := by
  unfold x_Mo_isNode xb_Mo_isNode_e
  rw [m00, gM_in h (by decide) (by decide) (by omega), bnd_some, if_pos (Or.inl rfl)]
theorem gM_chips {a : Int} (h : -2147483648 ≤ a ∧ a < 2147483648) (n : a < 1 ∨ 2 ≤ a) : x_Mo_hasChips 100 a tM = some (0, tM) := by
  by_cases c : a = 0
  · subst c; decide +kernel
  · unfold x_Mo_hasChips xb_Mo_hasChips_e
    rw [gM_node h (by omega), bnd_some, if_pos r3_0, if_pos rfl]
theorem gM_slot {a : Int} (h : -2147483648 ≤ a ∧ a < 2147483648) (n : a < 0 ∨ 3 ≤ a) : x_Mo_noSlot 100 a tM = some (1, tM) := by
  unfold x_Mo_noSlot xb_Mo_noSlot_e
  rw [gM_in h (by decide) (by decide) (by omega), bnd_some, if_pos r3_0, if_neg (fun q => q rfl)]
/-! the calls -/
abbrev R3 (a : Int) : Prop := -2147483648 ≤ a ∧ a < 2147483648
theorem t_chips (a : Int) (h : R3 a) : both (x_Cg_chips 100 a tC) (x_Mo_chips 100 a tM) = true := by
  by_cases c : a = 1
  · subst c; decide +kernel
  · unfold x_Cg_chips xb_Cg_chips_e x_Mo_chips xb_Mo_chips_e
    rw [gC_chips h (by omega), gM_chips h (by omega)]
    exact both_eq
theorem t_fire (a : Int) (h : R3 a) : both (x_Cg_fire 100 a tC) (x_Mo_fire 100 a tM) = true := by
  by_cases c : a = 1
  · subst c; decide +kernel
  · unfold x_Cg_fire xb_Cg_fire_e x_Mo_fire xb_Mo_fire_e
    rw [gC_chips h (by omega), gM_chips h (by omega)]
    exact both_eq
theorem t_firings (a : Int) (h : R3 a) : both (x_Cg_firings 100 a tC) (x_Mo_firings 100 a tM) = true := by
  by_cases c : a = 1
  · subst c; decide +kernel
  · unfold x_Cg_firings xb_Cg_firings_e x_Mo_firings xb_Mo_firings_e
    rw [gC_chips h (by omega), gM_chips h (by omega)]
    exact both_eq
theorem t_identity (a : Int) (h : R3 a) : both (x_Cg_identity 100 a tC) (x_Mo_identity 100 a tM) = true := by
  by_cases c : a = 1
  · subst c; decide +kernel
  · unfold x_Cg_identity xb_Cg_identity_e x_Mo_identity xb_Mo_identity_e
    rw [gC_chips h (by omega), gM_chips h (by omega)]
    exact both_eq
theorem t_degree (a : Int) (h : R3 a) : both (x_Cg_degree 100 a tC) (x_Mo_degree 100 a tM) = true := by
  by_cases c : 0 ≤ a ∧ a < 2
  · rcases (show a = 0 ∨ a = 1 by omega) with rfl | rfl <;> decide +kernel
  · unfold x_Cg_degree xb_Cg_degree_e x_Mo_degree xb_Mo_degree_e
    rw [gC_node h (by omega), gM_node h (by omega)]
    exact both_eq
theorem t_burnt (a : Int) (h : R3 a) : both (x_Cg_burnt 100 a tC) (x_Mo_burnt 100 a tM) = true := by
  by_cases c : 0 ≤ a ∧ a < 2
  · rcases (show a = 0 ∨ a = 1 by omega) with rfl | rfl <;> decide +kernel
  · unfold x_Cg_burnt xb_Cg_burnt_e x_Mo_burnt xb_Mo_burnt_e
    rw [gC_node h (by omega), gM_node h (by omega)]
    exact both_eq
theorem t_setSink (a : Int) (h : R3 a) : both (x_Cg_setSink 100 a tC) (x_Mo_setSink 100 a tM) = true := by
  by_cases c : 0 ≤ a ∧ a < 2
  · rcases (show a = 0 ∨ a = 1 by omega) with rfl | rfl <;> decide +kernel
  · unfold x_Cg_setSink xb_Cg_setSink_e x_Mo_setSink xb_Mo_setSink_e
    rw [gC_node h (by omega), gM_node h (by omega)]
    exact both_eq
theorem t_removeEdge (a : Int) (h : R3 a) : both (x_Cg_removeEdge 100 a tC) (x_Mo_removeEdge 100 a tM) = true := by
  by_cases c : a = 0
  · subst c; decide +kernel
  · unfold x_Cg_removeEdge xb_Cg_removeEdge_e x_Mo_removeEdge xb_Mo_removeEdge_e
    rw [gC_edge h (by omega), m01, gM_in h (by decide) (by decide) (by omega)]
    exact both_eq
theorem t_edge (a b : Int) (h : R3 a) (hb : b = 0 ∨ b = 1) : both (x_Cg_edge 100 a b tC) (x_Mo_edge 100 a b tM) = true := by
  by_cases c : a = 0
  · subst c; rcases hb with rfl | rfl <;> decide +kernel
  · unfold x_Cg_edge xb_Cg_edge_e x_Mo_edge xb_Mo_edge_e
    rw [gC_edge h (by omega), m01, gM_in h (by decide) (by decide) (by omega)]
    exact both_eq
theorem t_keep (a : Int) (h : R3 a) : both (x_Cg_keep 100 a tC) (x_Mo_keep 100 a tM) = true := by
  by_cases c : 0 ≤ a ∧ a < 3
  · rcases (show a = 0 ∨ a = 1 ∨ a = 2 by omega) with rfl | rfl | rfl <;> decide +kernel
  · unfold x_Cg_keep xb_Cg_keep_e x_Mo_keep xb_Mo_keep_e
    rw [gC_slot h (by omega), gM_slot h (by omega)]
    exact both_eq
theorem t_load (a : Int) (h : R3 a) : both (x_Cg_load 100 a tC) (x_Mo_load 100 a tM) = true := by
  by_cases c : 0 ≤ a ∧ a < 3
  · rcases (show a = 0 ∨ a = 1 ∨ a = 2 by omega) with rfl | rfl | rfl <;> decide +kernel
  · unfold x_Cg_load xb_Cg_load_e x_Mo_load xb_Mo_load_e
    rw [gC_slot h (by omega), gM_slot h (by omega)]
    exact both_eq
theorem t_add (a : Int) (h : R3 a) : both (x_Cg_add 100 a tC) (x_Mo_add 100 a tM) = true := by
  by_cases c : 0 ≤ a ∧ a < 3
  · rcases (show a = 0 ∨ a = 1 ∨ a = 2 by omega) with rfl | rfl | rfl <;> decide +kernel
  · unfold x_Cg_add xb_Cg_add_e x_Mo_add xb_Mo_add_e
    rw [gC_slot h (by omega), gM_slot h (by omega)]
    exact both_eq
theorem t_isSameClass (a : Int) (h : R3 a) : both (x_Cg_isSameClass 100 a tC) (x_Mo_isSameClass 100 a tM) = true := by
  by_cases c : 0 ≤ a ∧ a < 3
  · rcases (show a = 0 ∨ a = 1 ∨ a = 2 by omega) with rfl | rfl | rfl <;> decide +kernel
  · unfold x_Cg_isSameClass xb_Cg_isSameClass_e x_Mo_isSameClass xb_Mo_isSameClass_e
    rw [gC_slot h (by omega), gM_slot h (by omega)]
    exact both_eq
theorem t_reset (a : Int) (h : R3 a) : both (x_Cg_reset 100 a tC) (x_Mo_reset 100 a tM) = true := by
  by_cases c : 2 ≤ a ∧ a ≤ 8
  · rcases (show a = 2 ∨ a = 3 ∨ a = 4 ∨ a = 5 ∨ a = 6 ∨ a = 7 ∨ a = 8 by omega) with rfl | rfl | rfl | rfl | rfl | rfl | rfl <;> decide +kernel
  · unfold x_Cg_reset xb_Cg_reset_e x_Mo_reset xb_Mo_reset_e
    rw [gM_in h (by decide) (by decide) (by omega), if_pos h]
    by_cases c2 : a < 2
    · rw [if_pos c2]; exact both_eq
    · rw [if_neg c2, if_pos h, if_neg (by omega)]; exact both_eq
theorem t_value (a : Int) (h : R3 a) : both (x_Cg_value 100 a tC) (x_Mo_value 100 a tM) = true := by
  by_cases c : 0 ≤ a ∧ a < 7
  · rcases (show a = 0 ∨ a = 1 ∨ a = 2 ∨ a = 3 ∨ a = 4 ∨ a = 5 ∨ a = 6 by omega) with rfl | rfl | rfl | rfl | rfl | rfl | rfl <;> decide +kernel
  · unfold x_Cg_value xb_Cg_value_e x_Mo_value xb_Mo_value_e
    rw [if_pos h, if_neg (by omega), if_neg (by omega), if_neg (by omega), if_neg (by omega), if_neg (by omega), if_neg (by omega), if_neg (by omega), if_pos h, if_neg (by omega), if_neg (by omega), if_neg (by omega), if_neg (by omega), if_neg (by omega), if_neg (by omega), if_neg (by omega)]
    exact both_eq
theorem t_addEdge (a b : Int) (h : R3 a) (hb : R3 b) : both (x_Cg_addEdge 100 a b tC) (x_Mo_addEdge 100 a b tM) = true := by
  by_cases c : 0 ≤ a ∧ a < 2
  · by_cases c2 : 0 ≤ b ∧ b < 2
    · rcases (show a = 0 ∨ a = 1 by omega) with rfl | rfl <;> rcases (show b = 0 ∨ b = 1 by omega) with rfl | rfl <;> decide +kernel
    · have e1 : x_Gr_hasNode 100 a tC = some (1, tC) := by rcases (show a = 0 ∨ a = 1 by omega) with rfl | rfl <;> decide +kernel
      have e2 : x_Mo_isNode 100 a tM = some (1, tM) := by rcases (show a = 0 ∨ a = 1 by omega) with rfl | rfl <;> decide +kernel
      unfold x_Cg_addEdge xb_Cg_addEdge_e x_Mo_addEdge xb_Mo_addEdge_e
      rw [e1, e2, bnd_some, bnd_some, if_pos r3_1, if_pos r3_1, if_neg n10, if_neg n10]
      rw [gC_node hb (by omega), gM_node hb (by omega)]
      exact both_eq
  · unfold x_Cg_addEdge xb_Cg_addEdge_e x_Mo_addEdge xb_Mo_addEdge_e
    rw [gC_node h (by omega), gM_node h (by omega)]
    exact both_eq
theorem t_stabilize : both (x_Cg_stabilize 100 tC) (x_Mo_stabilize 100 tM) = true := by decide +kernel
theorem t_reduce : both (x_Cg_reduce 100 tC) (x_Mo_reduce 100 tM) = true := by decide +kernel
theorem t_makeRecurrent : both (x_Cg_makeRecurrent 100 tC) (x_Mo_makeRecurrent 100 tM) = true := by decide +kernel
theorem t_kind : both (x_Cg_kind 100 tC) (x_Mo_kind 100 tM) = true := by decide +kernel
theorem t_undo : both (x_Cg_undo 100 tC) (x_Mo_undo 100 tM) = true := by decide +kernel
theorem t_treeCount : both (x_Cg_treeCount 100 tC) (x_Mo_treeCount 100 tM) = true := by decide +kernel
theorem t_order : both (x_Cg_order 100 tC) (x_Mo_order 100 tM) = true := by decide +kernel
theorem t_level : both (x_Cg_level 100 tC) (x_Mo_level 100 tM) = true := by decide +kernel
theorem t_tree : both (x_Cg_tree 100 tC) (x_Mo_tree 100 tM) = true := by decide +kernel
theorem t_clearText : both (x_Cg_clearText 100 tC) (x_Mo_clearText 100 tM) = true := by decide +kernel
