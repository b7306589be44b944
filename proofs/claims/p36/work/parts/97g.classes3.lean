/-! the law's classes: recurrent state, level, tree -/
theorem TreeOf.gg {b s : Sto} (hb : OK b) (E : GG b s) {T : Nat} {c : Nat → Int} : TreeOf s T c ↔ TreeOf b T c := by
  have tc : ∀ (c0 : Nat → Int) v, v < nN b → treeC s (decT T) (s 1 1).toNat c0 v = treeC b (decT T) (b 1 1).toNat c0 v := fun c0 v hv => by
    have e2 : s 2 = b 2 := funext fun i => E 2 i (by decide) (by decide)
    have e3 : s 3 = b 3 := funext fun i => E 3 i (by decide) (by decide)
    have eN : (s 1 0).toNat = nN b := E.N
    have eK : (s 1 2).toNat = nK b := E.K
    have e11 := E 1 1 (by decide) (by decide)
    unfold treeC wl
    rw [e2, e3, e11, eN, eK, dgrJ_congr (E.J hb) hv]
  have sp : SpT s T ↔ SpT b T := SpT.of (fun k i q1 q2 => E k i q1 (by omega))
  unfold TreeOf
  rw [E.N, E.K, sp]
  exact and_congr Iff.rfl ⟨fun h c0 v hv hk => by rw [← tc c0 v hv]; exact h c0 v hv hk, fun h c0 v hv hk => by rw [tc c0 v hv]; exact h c0 v hv hk⟩
theorem bas_tree {b : Sto} {T : Nat} (hT : SpT b T) : 1 ≤ bas b (lvT b T) := by
  rw [bas_eq]
  have := sumN_ge (n := 2 ^ (b 1 1).toNat) (f := fun T' => ind (SpT b T' ∧ lvT b T' = lvT b T)) (fun _ _ => (ind_bd _).1) hT.lt
  rw [ind_t ⟨hT, rfl⟩] at this
  exact this
theorem bas_bd (b : Sto) (i : Nat) : 0 ≤ bas b i ∧ bas b i ≤ trs b := by
  rw [bas_eq]
  refine ⟨sumN_nn (fun _ _ => (ind_bd _).1), sumN_le (fun T _ => ?_)⟩
  by_cases c : SpT b T ∧ lvT b T = i
  · rw [ind_t c, ind_t c.1]; exact Int.le_refl 1
  · rw [ind_f c]; exact (ind_bd _).1
theorem lev_eq {b : Sto} (hb : OK b) (hr : RecB b) {T : Nat} (hT : TreeOf b T (b 187)) : sumN 8 (b 187) - (b 1 1 - b 13 (nK b)) = (lvT b T : Int) ∧ lvT b T ≤ 14 := by
  have n8 := nN_8 hb
  have hm := hb.1.2.1
  have hm14 := hb.2.1
  have z : b 187 (b 1 2).toNat = 0 := R_sum hb (by have := hb.1.K; have := hb.1.1; omega) (fun y => y.2 rfl)
  have l := hr.2.level hb.1 z
  have e8 : sumN 8 (b 187) = sumN (nN b) (b 187) := sum8 n8.2 (fun w hw hz => R_sum hb hw (fun y => by omega))
  have et : trOf b (b 187) = T := (hT.1.recur hb.1 (c0 := b 187) (c := b 187) (fun v hv hk => (hT.2 _ v hv hk).symm)).2
  have ew := wl_tree hb.1 (decC b (b 187)) (b 1 1).toNat (Nat.le_refl _)
  have et2 : (wl b (decC b (b 187)) (b 1 1).toNat).2.2.1 = T := et
  rw [et2] at ew
  rw [ew] at l
  have c1 := cntD_bc (uOf b T) (b 1 1).toNat
  have c2 := cntD_not (fun e => (uOf b T).testBit e) (b 1 1).toNat
  have c3 := cntD_le (fun e => !(uOf b T).testBit e) (b 1 1).toNat
  have e3 : lvT b T = cntD (fun e => !(uOf b T).testBit e) (b 1 1).toNat := rfl
  have e4 : sumN (nN b) (b 187) - (b 1 1 - b 13 (nK b)) = b 1 1 - bc (uOf b T) (b 1 1).toNat := l
  omega
def CZ (b : Sto) (c : Nat → Int) (q : Sto) : Prop := GG b q ∧ OK q ∧ q 32 2 = b 32 2 ∧ (q 32 0 = 1 ∧ ∀ v, v < 8 → q 34 v = ext b c v) ∧ (∀ v, v < nN b → v ≠ nK b → q 190 v = c v) ∧ ∀ v, nN b ≤ v → v < 8 → q 191 v = 0
theorem CZ.same {b q q' : Sto} {c : Nat → Int} (H : CZ b c q) (S : SameG q q') (hi : ∀ k i, k = 190 ∨ k = 191 → q' k i = q k i) (ok : OK q') : CZ b c q' := by
  obtain ⟨h1, h2, h3, ⟨h4, h5⟩, h6, h7⟩ := H
  exact ⟨fun k i a b => (S k i (Or.inl ⟨a, b⟩)).trans (h1 k i a b), ok, (S 32 2 (by omega)).trans h3, ⟨(S 32 0 (by omega)).trans h4, fun v hv => (S 34 v (by omega)).trans (h5 v hv)⟩, fun v hv hk => (hi 190 v (Or.inl rfl)).trans (h6 v hv hk), fun v hv hv8 => (hi 191 v (Or.inr rfl)).trans (h7 v hv hv8)⟩
theorem CZ.q {b q q' : Sto} {c : Nat → Int} (H : CZ b c q) (E : Eqv q q') (hi : Ah q q') : CZ b c q' := H.same E.same (fun k i hk => hi k i (by omega)) (E.ok H.2.1)
theorem CZ.up {b q q' : Sto} {c : Nat → Int} (H : CZ b c q) (U : UpP q q') (hi : Ah q q') (ok : OK q') : CZ b c q' := H.same U.same (fun k i hk => hi k i (by omega)) ok
theorem CZ.lay {b q : Sto} {c d : Nat → Int} {k : Nat} (hk : ar (SL 3) k 1 8) (hkk : 190 ≤ k) (H : CZ b c q) (hd : ∀ v, v < nN b → v ≠ nK b → 0 ≤ d v ∧ d v ≤ 1000) (hq : ∀ v, v < nN b → v ≠ nK b → q k v = d v) : K_La_lay 3 k q (fun s' => CZ b c s' ∧ SameG q s' ∧ Ah q s' ∧ ∀ v, v < nN b → v ≠ nK b → s' 187 v = d v) := by
  have n' := H.1.N
  have k' := H.1.K
  have kk := la_lay (n := 3) (b := q) (a := q) hk hkk (fun v hv hvk => by
    rw [n'] at hv
    rw [k'] at hvk
    rw [hq v hv hvk]; exact hd v hv hvk) H.2.1 (Eqv.refl q) (Ah.refl q)
  refine Sp.mono ?_ kk
  rintro r s' ⟨rfl, S', hi', ok', v'⟩
  exact ⟨rfl, H.same S' (fun k i hk => hi' k i (by omega)) ok', S', hi', fun v hv hvk => by rw [v' v (by rw [n']; exact hv) (by rw [k']; exact hvk), hq v hv hvk]⟩
theorem cl_mid {b s6 s : Sto} {c h : Nat → Int} (hb : OK b) (hC : Conn b) (hc : ∀ v, v < nN b → v ≠ nK b → 0 ≤ c v ∧ c v < dgr (Jm b) (nN b) v) (hh : Rec (Jm b) (nK b) (nN b) h) (hch : Cls (Jm b) (nK b) (nN b) c h) (H : CZ b c s6) (h1 : s6 32 1 = 1) (h35 : ∀ v, v < 8 → s6 35 v = ext b h v) (h187 : ∀ v, v < nN b → v ≠ nK b → s6 187 v = h v) (h192 : ∀ v, v < nN b → v ≠ nK b → s6 192 v = h v) (E : Eqv s6 s) (hi : Ah s6 s) {lev : Int} {T : Nat} (hT : TreeOf s6 T (s6 187)) : K_La_lay 3 190 s (fun s145 => ∃ Q148 : Int → Sto → Prop, K_Cg_takeTree 3 T s145 Q148 ∧ ∀ r151 s150, Q148 r151 s150 → ((-2147483648 ≤ r151 ∧ r151 < 2147483648) ∧ -2147483648 ≤ sumN 8 (s6 187) ∧ sumN 8 (s6 187) < 2147483648) ∧ ((¬ r151 = sumN 8 (s6 187)) → (Qc b) 0 s150) ∧ ((r151 = sumN 8 (s6 187)) → ∃ Q155 : Int → Sto → Prop, K_La_are 3 192 s150 Q155 ∧ ∀ r158 s157, Q155 r158 s157 → (-2147483648 ≤ r158 ∧ r158 < 2147483648) ∧ ((r158 = 0) → (Qc b) 0 s157) ∧ ((¬ r158 = 0) → ∃ Q162 : Int → Sto → Prop, K_Cg_tree 3 s157 Q162 ∧ ∀ r165 s164, Q162 r165 s164 → ((-2147483648 ≤ r165 ∧ r165 < 2147483648) ∧ -2147483648 ≤ (T : Int) ∧ (T : Int) < 2147483648) ∧ ((¬ r165 = (T : Int)) → (Qc b) 0 s164) ∧ ((r165 = (T : Int)) → ∃ Q169 : Int → Sto → Prop, K_Cg_value 3 1 s164 Q169 ∧ ∀ r172 s171, Q169 r172 s171 → ∃ Q174 : Int → Sto → Prop, K_Cg_takeTree 3 (ior T (ishl 1 r172)) s171 Q174 ∧ ∀ r177 s176, Q174 r177 s176 → (-2147483648 ≤ r177 ∧ r177 < 2147483648) ∧ ((r177 = (-10002)) → ∃ Q181 : Int → Sto → Prop, K_Cg_order 3 s176 Q181 ∧ ∀ r184 s183, Q181 r184 s183 → H_La_classes_311 3 (Qc b) (b 1 0) (b 1 2) (sumN 8 (s6 187)) r184 0 s183) ∧ ((¬ r177 = (-10002)) → (Qc b) 0 s176))))) := by
  have n8 := nN_8 hb
  have hm := hb.1.2.1
  have hm14 := hb.2.1
  have Hs := H.q E hi
  have cb : ∀ v, v < nN b → v ≠ nK b → 0 ≤ c v ∧ c v ≤ 1000 := fun v hv hvk => by
    have := hc v hv hvk
    have d : 0 ≤ dgr (Jm b) (nN b) v ∧ dgr (Jm b) (nN b) v ≤ 20 := hb.1.dbd hv
    omega
  have kk := Hs.lay (arX (k := 190) (by decide) (by decide)) (by decide) cb Hs.2.2.2.2.1
  refine Sp.mono ?_ kk
  rintro r s7 ⟨rfl, H7, S7, hi7, v7⟩
  refine ⟨rfl, ?_⟩
  have hTb : TreeOf b T (s6 187) := (TreeOf.gg hb H.1).mp hT
  have hT7 : SpT s7 T := (SpT.of (fun k i q1 q2 => H7.1 k i q1 (by omega))).mpr hTb.1
  have lT : T < 1048576 := by
    have := hTb.1.lt
    have : 2 ^ (b 1 1).toNat ≤ 2 ^ 20 := Nat.pow_le_pow_right (by decide) (by omega)
    have : (2 : Nat) ^ 20 = 1048576 := by decide
    omega
  have e187 : ∀ v, v < 8 → s6 187 v = ext b h v := ch_ext H.1 H.2.1 h187
  have sm : sumN 8 (s6 187) = sumN 8 (ext b h) := sumN_congr e187
  have sb : 0 ≤ sumN 8 (ext b h) ∧ sumN 8 (ext b h) ≤ 160 := by
    have l1 := sumN_nn (n := 8) (f := ext b h) (fun v _ => (rec_bd hb hh v).1)
    have l2 := sumN_le (n := 8) (f := ext b h) (g := fun _ => 20) (fun v _ => (rec_bd hb hh v).2)
    rw [sumN_const] at l2
    omega
  rw [sm]
  refine ⟨_, u_takeTree (b := s7) (a := s7) hT7 H7.2.1 (Eqv.refl s7) (Ah.refl s7), ?_⟩
  rintro r8 s8 ⟨U8, hi8, r8e, ok8, rec8, t8⟩
  have H8 := H7.up U8 hi8 ok8
  have n8' := H8.1.N
  have k8' := H8.1.K
  have t8b : TreeOf b T (s8 187) := (TreeOf.gg hb H7.1).mp t8
  have v8 : ∀ v, v < nN b → v ≠ nK b → s8 187 v = h v := fun v hv hvk => by
    rw [← t8b.2 (fun _ => 0) v hv hvk, hTb.2 (fun _ => 0) v hv hvk]
    exact h187 v hv hvk
  have e8 : ∀ v, v < 8 → s8 187 v = ext b h v := ch_ext H8.1 ok8 v8
  have r8s : r8 = sumN 8 (ext b h) := r8e.trans (sumN_congr e8)
  have a192 : ∀ v, v < nN b → v ≠ nK b → s8 192 v = h v := fun v hv hvk => by rw [hi8 192 v (by decide), hi7 192 v (by decide), hi 192 v (by decide)]; exact h192 v hv hvk
  refine ⟨by omega, fun z => absurd r8s z, fun _ => ⟨_, la_are (b := s8) (a := s8) (arX (by decide) (by decide)) (by decide) (fun v hv hvk => ?_) ok8 (Eqv.refl s8) (Ah.refl s8), ?_⟩⟩
  · rw [n8'] at hv
    rw [k8'] at hvk
    have := rec_bd hb hh v
    have y : ext b h v = h v := if_pos ⟨hv, hvk⟩
    rw [a192 v hv hvk]
    unfold R32
    omega
  rintro _ s9 ⟨E, hi9, rfl⟩
  rw [ind_t (fun v hv hvk => by rw [n8'] at hv; rw [k8'] at hvk; rw [v8 v hv hvk, a192 v hv hvk])]
  refine ⟨by decide, fun z => absurd z (by decide), fun _ => ⟨_, q_tree (b := s8) (a := s8) rec8 ok8 E hi9, ?_⟩⟩
  rintro _ s10 ⟨E, hi10, T', rfl, t10⟩
  have eT : T' = T := ((TreeOf.gg hb H8.1).mp t10).uniq hb.1 t8b
  subst eT
  refine ⟨by omega, fun z => absurd rfl z, fun _ => ⟨_, q_value1 (b := s8) (a := s8) ok8 E hi10, ?_⟩⟩
  rintro _ s11 ⟨E, hi11, rfl⟩
  have em : s8 1 1 = (((b 1 1).toNat : Nat) : Int) := by rw [H8.1 1 1 (by decide) (by decide)]; omega
  rw [em, ior_bit (a := T') (e := (b 1 1).toNat) (by omega) (by omega)]
  have l31 : T' ||| 2 ^ (b 1 1).toNat < 2 ^ 20 := Nat.or_lt_two_pow (by omega) (Nat.pow_lt_pow_right (by decide) (by omega))
  refine ⟨_, q_takeTree_no (b := s8) (a := s8) (by unfold R32; omega) (fun z => ?_) ok8 E hi11, ?_⟩
  · rw [toNat_n] at z
    have := z.2.1 (b 1 1).toNat (by rw [tb_or]; simp)
    rw [H8.1 1 1 (by decide) (by decide)] at this
    omega
  rintro _ s12 ⟨E, hi12, rfl⟩
  have C8 := H8.1.conn.mpr hC
  have st8 : StbB s8 := ((rec_of ok8 C8).mpr rec8.2).1
  refine ⟨by decide, fun _ => ⟨_, q_order (b := s8) (a := s8) C8 st8 ok8 E hi12, ?_⟩, fun z => absurd rfl z⟩
  rintro ord s13 ⟨E, hi13, o12, o3, o4⟩
  have H13 := H8.q E hi13
  rw [H8.1.trs] at o12 o3
  have E35 : ∀ v, v < 8 → s13 35 v = ext b h v := fun v hv => by rw [E 35 v (by omega), U8.1 35 v (by omega), S7 35 v (by omega), ‹Eqv s6 s› 35 v (by omega)]; exact h35 v hv
  have E321 : s13 32 1 = 1 := by rw [E 32 1 (by omega), U8.1 32 1 (by omega), S7 32 1 (by omega), ‹Eqv s6 s› 32 1 (by omega)]; exact h1
  have o5 : ∀ k : Int, Cls (Jm b) (nK b) (nN b) (fun v => k * h v) (fun _ => 0) ↔ ord ∣ k := fun k => by
    rw [← o4 k, H8.1.cls hb]
    exact ⟨fun z => z.of (fun v hv hvk => by rw [v8 v hv hvk]) (fun _ _ _ => rfl), fun z => z.of (fun v hv hvk => by rw [v8 v hv hvk]) (fun _ _ _ => rfl)⟩
  exact cl_311 hb hC hc hh hch o12 o3 o5 ⟨H13.1, H13.2.1, H13.2.2.1, ⟨E321, E35⟩, H13.2.2.2.2.1⟩ (fun v hv hvk => by rw [hi13 192 v (by decide)]; exact a192 v hv hvk) H13.2.2.2.2.2 rfl
