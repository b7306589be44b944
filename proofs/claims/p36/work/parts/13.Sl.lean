/-! blocks of ChipGame$Slots -/
theorem dX7_has_0 : decode cX7_has 0 = .ok (.iload_n 1, 1) := by decide +kernel
theorem dX7_has_1 : decode cX7_has 1 = .ok (.ifCond .lt 12, 3) := by decide +kernel
theorem dX7_has_4 : decode cX7_has 4 = .ok (.iload_n 1, 1) := by decide +kernel
theorem dX7_has_5 : decode cX7_has 5 = .ok (.iconst 3, 1) := by decide +kernel
theorem dX7_has_6 : decode cX7_has 6 = .ok (.if_icmp .ge 7, 3) := by decide +kernel
theorem dX7_has_9 : decode cX7_has 9 = .ok (.iconst 1, 1) := by decide +kernel
theorem dX7_has_10 : decode cX7_has 10 = .ok (.goto 4, 3) := by decide +kernel
theorem dX7_has_13 : decode cX7_has 13 = .ok (.iconst 0, 1) := by decide +kernel
theorem dX7_has_14 : decode cX7_has 14 = .ok (.ireturn, 1) := by decide +kernel
theorem dX7_isEmpty_0 : decode cX7_isEmpty 0 = .ok (.aload_n 0, 1) := by decide +kernel
theorem dX7_isEmpty_1 : decode cX7_isEmpty 1 = .ok (.iload_n 1, 1) := by decide +kernel
theorem dX7_isEmpty_2 : decode cX7_isEmpty 2 = .ok (.invokevirtual 20, 3) := by decide +kernel
theorem dX7_isEmpty_5 : decode cX7_isEmpty 5 = .ok (.ifCond .eq 12, 3) := by decide +kernel
theorem dX7_isEmpty_8 : decode cX7_isEmpty 8 = .ok (.aload_n 0, 1) := by decide +kernel
theorem dX7_isEmpty_9 : decode cX7_isEmpty 9 = .ok (.getfield 9, 3) := by decide +kernel
theorem dX7_isEmpty_12 : decode cX7_isEmpty 12 = .ok (.iload_n 1, 1) := by decide +kernel
theorem dX7_isEmpty_13 : decode cX7_isEmpty 13 = .ok (.baload, 1) := by decide +kernel
theorem dX7_isEmpty_14 : decode cX7_isEmpty 14 = .ok (.ifCond .ne 7, 3) := by decide +kernel
theorem dX7_isEmpty_17 : decode cX7_isEmpty 17 = .ok (.iconst 1, 1) := by decide +kernel
theorem dX7_isEmpty_18 : decode cX7_isEmpty 18 = .ok (.goto 4, 3) := by decide +kernel
theorem dX7_isEmpty_21 : decode cX7_isEmpty 21 = .ok (.iconst 0, 1) := by decide +kernel
theorem dX7_isEmpty_22 : decode cX7_isEmpty 22 = .ok (.ireturn, 1) := by decide +kernel
theorem dX7_put_0 : decode cX7_put 0 = .ok (.aload_n 0, 1) := by decide +kernel
theorem dX7_put_1 : decode cX7_put 1 = .ok (.iload_n 1, 1) := by decide +kernel
theorem dX7_put_2 : decode cX7_put 2 = .ok (.invokevirtual 20, 3) := by decide +kernel
theorem dX7_put_5 : decode cX7_put 5 = .ok (.ifCond .eq 20, 3) := by decide +kernel
theorem dX7_put_8 : decode cX7_put 8 = .ok (.aload_n 2, 1) := by decide +kernel
theorem dX7_put_9 : decode cX7_put 9 = .ok (.aload_n 0, 1) := by decide +kernel
theorem dX7_put_10 : decode cX7_put 10 = .ok (.getfield 17, 3) := by decide +kernel
theorem dX7_put_13 : decode cX7_put 13 = .ok (.iload_n 1, 1) := by decide +kernel
theorem dX7_put_14 : decode cX7_put 14 = .ok (.aaload, 1) := by decide +kernel
theorem dX7_put_15 : decode cX7_put 15 = .ok (.invokestatic 24, 3) := by decide +kernel
theorem dX7_put_18 : decode cX7_put 18 = .ok (.aload_n 0, 1) := by decide +kernel
theorem dX7_put_19 : decode cX7_put 19 = .ok (.getfield 9, 3) := by decide +kernel
theorem dX7_put_22 : decode cX7_put 22 = .ok (.iload_n 1, 1) := by decide +kernel
theorem dX7_put_23 : decode cX7_put 23 = .ok (.iconst 1, 1) := by decide +kernel
theorem dX7_put_24 : decode cX7_put 24 = .ok (.bastore, 1) := by decide +kernel
theorem dX7_put_25 : decode cX7_put 25 = .ok (.return_, 1) := by decide +kernel
theorem dX7_copyTo_0 : decode cX7_copyTo 0 = .ok (.aload_n 0, 1) := by decide +kernel
theorem dX7_copyTo_1 : decode cX7_copyTo 1 = .ok (.iload_n 1, 1) := by decide +kernel
theorem dX7_copyTo_2 : decode cX7_copyTo 2 = .ok (.invokevirtual 20, 3) := by decide +kernel
theorem dX7_copyTo_5 : decode cX7_copyTo 5 = .ok (.ifCond .eq 13, 3) := by decide +kernel
theorem dX7_copyTo_8 : decode cX7_copyTo 8 = .ok (.aload_n 0, 1) := by decide +kernel
theorem dX7_copyTo_9 : decode cX7_copyTo 9 = .ok (.getfield 17, 3) := by decide +kernel
theorem dX7_copyTo_12 : decode cX7_copyTo 12 = .ok (.iload_n 1, 1) := by decide +kernel
theorem dX7_copyTo_13 : decode cX7_copyTo 13 = .ok (.aaload, 1) := by decide +kernel
theorem dX7_copyTo_14 : decode cX7_copyTo 14 = .ok (.aload_n 2, 1) := by decide +kernel
theorem dX7_copyTo_15 : decode cX7_copyTo 15 = .ok (.invokestatic 24, 3) := by decide +kernel
theorem dX7_copyTo_18 : decode cX7_copyTo 18 = .ok (.return_, 1) := by decide +kernel
theorem dX7_forgetAll_0 : decode cX7_forgetAll 0 = .ok (.iconst 0, 1) := by decide +kernel
theorem dX7_forgetAll_1 : decode cX7_forgetAll 1 = .ok (.istore_n 1, 1) := by decide +kernel
theorem dX7_forgetAll_2 : decode cX7_forgetAll 2 = .ok (.iload_n 1, 1) := by decide +kernel
theorem dX7_forgetAll_3 : decode cX7_forgetAll 3 = .ok (.iconst 3, 1) := by decide +kernel
theorem dX7_forgetAll_4 : decode cX7_forgetAll 4 = .ok (.if_icmp .ge 16, 3) := by decide +kernel
theorem dX7_forgetAll_7 : decode cX7_forgetAll 7 = .ok (.aload_n 0, 1) := by decide +kernel
theorem dX7_forgetAll_8 : decode cX7_forgetAll 8 = .ok (.getfield 9, 3) := by decide +kernel
theorem dX7_forgetAll_11 : decode cX7_forgetAll 11 = .ok (.iload_n 1, 1) := by decide +kernel
theorem dX7_forgetAll_12 : decode cX7_forgetAll 12 = .ok (.iconst 0, 1) := by decide +kernel
theorem dX7_forgetAll_13 : decode cX7_forgetAll 13 = .ok (.bastore, 1) := by decide +kernel
theorem dX7_forgetAll_14 : decode cX7_forgetAll 14 = .ok (.iinc 1 1, 3) := by decide +kernel
theorem dX7_forgetAll_17 : decode cX7_forgetAll 17 = .ok (.goto (-15), 3) := by decide +kernel
theorem dX7_forgetAll_20 : decode cX7_forgetAll 20 = .ok (.return_, 1) := by decide +kernel
abbrev H_Sl_forgetAll_2 (n : Nat) (Q : Sto → Prop) (x1 : Int) (s : Sto) : Prop := Go (SL n) M_Sl_forgetAll (fV0 Q) 0 0 2 [(0, .ref 31), (1, iV x1)] [] s
set_option maxRecDepth 20000 in
theorem b_Sl_forgetAll_2 {n : Nat} {Q : Sto → Prop} {x1 : Int} {s : Sto} (hT : (-2147483648 ≤ x1 ∧ x1 < 2147483648) ∧ ((3 ≤ x1) → Q s) ∧ ((x1 < 3) → (0 ≤ x1 ∧ x1 < 3) ∧ ∀ s4, s4 = up s 32 (Int.toNat x1) 0 → H_Sl_forgetAll_2 n Q (x1 + 1) s4)) : H_Sl_forgetAll_2 n Q x1 s := by
  refine g_iload_n (npc := 3) dX7_forgetAll_2 rfl rfl rfl ?_
  refine g_iconst (npc := 4) dX7_forgetAll_3 rfl ?_
  obtain ⟨h1, hTt, hTf⟩ := hT
  refine g_icmp_ge (npc := 7) (tgt := 20) dX7_forgetAll_4 rfl (by decide) ⟨h1, by decide, by decide⟩ (fun c2 => ?_) (fun c2 => ?_)
  · replace hT := hTt c2
    exact g_ret dX7_forgetAll_20 rfl (by decide) ⟨rfl, hT⟩
  · replace hT := hTf (Int.not_le.mp c2)
    refine g_aload_n (npc := 8) dX7_forgetAll_7 rfl rfl rfl ?_
    refine gf_Sl_9 (npc := 11) dX7_forgetAll_8 rfl rfl ?_
    refine g_iload_n (npc := 12) dX7_forgetAll_11 rfl rfl rfl ?_
    refine g_iconst (npc := 13) dX7_forgetAll_12 rfl ?_
    obtain ⟨h3, hT⟩ := hT
    replace hT := hT _ rfl
    refine g_zast (npc := 14) dX7_forgetAll_13 rfl (arSL arSC_32) h3 (by decide) ?_
    refine g_iinc (npc := 17) (y := (x1 + 1)) (l' := [(0, .ref 31), (1, iV (x1 + 1))]) dX7_forgetAll_14 rfl (by decide) rfl (by omega) rfl ?_
    refine g_goto (npc := 2) dX7_forgetAll_17 (by decide) ?_
    exact hT
set_option maxRecDepth 20000 in
theorem e_Sl_forgetAll {n : Nat} {s : Sto} {Q : Sto → Prop} (hT : H_Sl_forgetAll_2 n Q 0 s) : K_Sl_forgetAll n s Q := by
  refine Sp.body (by decide +kernel) (Nat.le_of_ble_eq_true rfl) ?_
  show Go (SL n) M_Sl_forgetAll (fV0 Q) 0 0 0 [(0, .ref 31)] [] s
  refine g_iconst (npc := 1) dX7_forgetAll_0 rfl ?_
  refine g_istore_n (npc := 2) (l' := [(0, .ref 31), (1, iV 0)]) dX7_forgetAll_1 rfl rfl (by decide) rfl ?_
  exact hT
set_option maxRecDepth 20000 in
theorem e_Sl_has {n : Nat} {x1 : Int} {s : Sto} {Q : Int → Sto → Prop} (hT : (-2147483648 ≤ x1 ∧ x1 < 2147483648) ∧ ((x1 < 0) → Q 0 s) ∧ ((0 ≤ x1) → (-2147483648 ≤ x1 ∧ x1 < 2147483648) ∧ ((3 ≤ x1) → Q 0 s) ∧ ((x1 < 3) → Q 1 s))) : K_Sl_has n x1 s Q := by
  refine Sp.body (by decide +kernel) (Nat.le_of_ble_eq_true rfl) ?_
  show Go (SL n) M_Sl_has (fI Q) 0 0 0 [(0, .ref 31), (1, iV x1)] [] s
  refine g_iload_n (npc := 1) dX7_has_0 rfl rfl rfl ?_
  obtain ⟨h1, hTt, hTf⟩ := hT
  refine g_if_lt (npc := 4) (tgt := 13) dX7_has_1 rfl (by decide) h1 (fun c2 => ?_) (fun c2 => ?_)
  · replace hT := hTt c2
    refine g_iconst (npc := 14) dX7_has_13 rfl ?_
    exact g_iret dX7_has_14 rfl (by decide) (by decide) ⟨_, rfl, hT⟩
  · replace hT := hTf (Int.not_lt.mp c2)
    refine g_iload_n (npc := 5) dX7_has_4 rfl rfl rfl ?_
    refine g_iconst (npc := 6) dX7_has_5 rfl ?_
    obtain ⟨h3, hTt, hTf⟩ := hT
    refine g_icmp_ge (npc := 9) (tgt := 13) dX7_has_6 rfl (by decide) ⟨h3, by decide, by decide⟩ (fun c4 => ?_) (fun c4 => ?_)
    · replace hT := hTt c4
      refine g_iconst (npc := 14) dX7_has_13 rfl ?_
      exact g_iret dX7_has_14 rfl (by decide) (by decide) ⟨_, rfl, hT⟩
    · replace hT := hTf (Int.not_le.mp c4)
      refine g_iconst (npc := 10) dX7_has_9 rfl ?_
      refine g_goto (npc := 14) dX7_has_10 (by decide) ?_
      exact g_iret dX7_has_14 rfl (by decide) (by decide) ⟨_, rfl, hT⟩
set_option maxRecDepth 20000 in
theorem e_Sl_isEmpty {n : Nat} {x1 : Int} {s : Sto} {Q : Int → Sto → Prop} (hT : ∃ Q1 : Int → Sto → Prop, K_Sl_has n x1 s Q1 ∧ ∀ r4 s3, Q1 r4 s3 → (-2147483648 ≤ r4 ∧ r4 < 2147483648) ∧ ((r4 = 0) → Q 1 s3) ∧ ((¬ r4 = 0) → (0 ≤ x1 ∧ x1 < 3) ∧ (-2147483648 ≤ (s3 32 (Int.toNat x1)) ∧ (s3 32 (Int.toNat x1)) < 2147483648) ∧ ((¬ (s3 32 (Int.toNat x1)) = 0) → Q 0 s3) ∧ (((s3 32 (Int.toNat x1)) = 0) → Q 1 s3))) : K_Sl_isEmpty n x1 s Q := by
  refine Sp.body (by decide +kernel) (Nat.le_of_ble_eq_true rfl) ?_
  show Go (SL n) M_Sl_isEmpty (fI Q) 0 0 0 [(0, .ref 31), (1, iV x1)] [] s
  refine g_aload_n (npc := 1) dX7_isEmpty_0 rfl rfl rfl ?_
  refine g_iload_n (npc := 2) dX7_isEmpty_1 rfl rfl rfl ?_
  obtain ⟨Q1, h2, hT⟩ := hT
  refine iv_Sl_20 (npc := 5) dX7_isEmpty_2 rfl rfl (Nat.le_of_ble_eq_true rfl) (by decide) (by decide) h2 (fun r4 s3 e5 => ?_)
  replace hT := hT r4 s3 e5
  obtain ⟨h6, hTt, hTf⟩ := hT
  refine g_if_eq (npc := 8) (tgt := 17) dX7_isEmpty_5 rfl (by decide) h6 (fun c7 => ?_) (fun c7 => ?_)
  · replace hT := hTt c7
    refine g_iconst (npc := 18) dX7_isEmpty_17 rfl ?_
    refine g_goto (npc := 22) dX7_isEmpty_18 (by decide) ?_
    exact g_iret dX7_isEmpty_22 rfl (by decide) (by decide) ⟨_, rfl, hT⟩
  · replace hT := hTf c7
    refine g_aload_n (npc := 9) dX7_isEmpty_8 rfl rfl rfl ?_
    refine gf_Sl_9 (npc := 12) dX7_isEmpty_9 rfl rfl ?_
    refine g_iload_n (npc := 13) dX7_isEmpty_12 rfl rfl rfl ?_
    obtain ⟨h8, hT⟩ := hT
    refine g_zald (npc := 14) dX7_isEmpty_13 rfl (arSL arSC_32) h8 ?_
    obtain ⟨h9, hTt, hTf⟩ := hT
    refine g_if_ne (npc := 17) (tgt := 21) dX7_isEmpty_14 rfl (by decide) h9 (fun c10 => ?_) (fun c10 => ?_)
    · replace hT := hTt c10
      refine g_iconst (npc := 22) dX7_isEmpty_21 rfl ?_
      exact g_iret dX7_isEmpty_22 rfl (by decide) (by decide) ⟨_, rfl, hT⟩
    · replace hT := hTf (Decidable.not_not.mp c10)
      refine g_iconst (npc := 18) dX7_isEmpty_17 rfl ?_
      refine g_goto (npc := 22) dX7_isEmpty_18 (by decide) ?_
      exact g_iret dX7_isEmpty_22 rfl (by decide) (by decide) ⟨_, rfl, hT⟩
set_option maxRecDepth 20000 in
theorem e_Sl_put {n : Nat} {x1 : Int} {k2 : Nat} (hk2 : ar (SL n) k2 1 8) {s : Sto} {Q : Sto → Prop} (hT : ∃ Q1 : Int → Sto → Prop, K_Sl_has n x1 s Q1 ∧ ∀ r4 s3, Q1 r4 s3 → (-2147483648 ≤ r4 ∧ r4 < 2147483648) ∧ ((r4 = 0) → Q s3) ∧ ((¬ r4 = 0) → (0 ≤ x1 ∧ x1 < 3) ∧ ∃ Q9 : Sto → Prop, K_Cg_copyChips n k2 (34 + Int.toNat x1) s3 Q9 ∧ ∀ s11, Q9 s11 → (0 ≤ x1 ∧ x1 < 3) ∧ ∀ s15, s15 = up s11 32 (Int.toNat x1) 1 → Q s15)) : K_Sl_put n x1 k2 s Q := by
  refine Sp.body (by decide +kernel) (Nat.le_of_ble_eq_true rfl) ?_
  show Go (SL n) M_Sl_put (fV0 Q) 0 0 0 [(0, .ref 31), (1, iV x1), (2, .ref k2)] [] s
  refine g_aload_n (npc := 1) dX7_put_0 rfl rfl rfl ?_
  refine g_iload_n (npc := 2) dX7_put_1 rfl rfl rfl ?_
  obtain ⟨Q1, h2, hT⟩ := hT
  refine iv_Sl_20 (npc := 5) dX7_put_2 rfl rfl (Nat.le_of_ble_eq_true rfl) (by decide) (by decide) h2 (fun r4 s3 e5 => ?_)
  replace hT := hT r4 s3 e5
  obtain ⟨h6, hTt, hTf⟩ := hT
  refine g_if_eq (npc := 8) (tgt := 25) dX7_put_5 rfl (by decide) h6 (fun c7 => ?_) (fun c7 => ?_)
  · replace hT := hTt c7
    exact g_ret dX7_put_25 rfl (by decide) ⟨rfl, hT⟩
  · replace hT := hTf c7
    refine g_aload_n (npc := 9) dX7_put_8 rfl rfl rfl ?_
    refine g_aload_n (npc := 10) dX7_put_9 rfl rfl rfl ?_
    refine gf_Sl_17 (npc := 13) dX7_put_10 rfl rfl ?_
    refine g_iload_n (npc := 14) dX7_put_13 rfl rfl rfl ?_
    obtain ⟨h8, hT⟩ := hT
    refine g_aald5 (npc := 15) dX7_put_14 rfl (arSL arSC_33) h8 (frSC_33 h8) ?_
    obtain ⟨Q9, h10, hT⟩ := hT
    refine iv_Sl_24 (npc := 18) dX7_put_15 rfl rfl (Nat.le_of_ble_eq_true rfl) (by decide) (by decide) h10 (fun s11 e13 => ?_)
    replace hT := hT s11 e13
    refine g_aload_n (npc := 19) dX7_put_18 rfl rfl rfl ?_
    refine gf_Sl_9 (npc := 22) dX7_put_19 rfl rfl ?_
    refine g_iload_n (npc := 23) dX7_put_22 rfl rfl rfl ?_
    refine g_iconst (npc := 24) dX7_put_23 rfl ?_
    obtain ⟨h14, hT⟩ := hT
    replace hT := hT _ rfl
    refine g_zast (npc := 25) dX7_put_24 rfl (arSL arSC_32) h14 (by decide) ?_
    exact g_ret dX7_put_25 rfl (by decide) ⟨rfl, hT⟩
set_option maxRecDepth 20000 in
theorem e_Sl_copyTo {n : Nat} {x1 : Int} {k2 : Nat} (hk2 : ar (SL n) k2 1 8) {s : Sto} {Q : Sto → Prop} (hT : ∃ Q1 : Int → Sto → Prop, K_Sl_has n x1 s Q1 ∧ ∀ r4 s3, Q1 r4 s3 → (-2147483648 ≤ r4 ∧ r4 < 2147483648) ∧ ((r4 = 0) → Q s3) ∧ ((¬ r4 = 0) → (0 ≤ x1 ∧ x1 < 3) ∧ ∃ Q9 : Sto → Prop, K_Cg_copyChips n (34 + Int.toNat x1) k2 s3 Q9 ∧ ∀ s11, Q9 s11 → Q s11)) : K_Sl_copyTo n x1 k2 s Q := by
  refine Sp.body (by decide +kernel) (Nat.le_of_ble_eq_true rfl) ?_
  show Go (SL n) M_Sl_copyTo (fV0 Q) 0 0 0 [(0, .ref 31), (1, iV x1), (2, .ref k2)] [] s
  refine g_aload_n (npc := 1) dX7_copyTo_0 rfl rfl rfl ?_
  refine g_iload_n (npc := 2) dX7_copyTo_1 rfl rfl rfl ?_
  obtain ⟨Q1, h2, hT⟩ := hT
  refine iv_Sl_20 (npc := 5) dX7_copyTo_2 rfl rfl (Nat.le_of_ble_eq_true rfl) (by decide) (by decide) h2 (fun r4 s3 e5 => ?_)
  replace hT := hT r4 s3 e5
  obtain ⟨h6, hTt, hTf⟩ := hT
  refine g_if_eq (npc := 8) (tgt := 18) dX7_copyTo_5 rfl (by decide) h6 (fun c7 => ?_) (fun c7 => ?_)
  · replace hT := hTt c7
    exact g_ret dX7_copyTo_18 rfl (by decide) ⟨rfl, hT⟩
  · replace hT := hTf c7
    refine g_aload_n (npc := 9) dX7_copyTo_8 rfl rfl rfl ?_
    refine gf_Sl_17 (npc := 12) dX7_copyTo_9 rfl rfl ?_
    refine g_iload_n (npc := 13) dX7_copyTo_12 rfl rfl rfl ?_
    obtain ⟨h8, hT⟩ := hT
    refine g_aald5 (npc := 14) dX7_copyTo_13 rfl (arSL arSC_33) h8 (frSC_33 h8) ?_
    refine g_aload_n (npc := 15) dX7_copyTo_14 rfl rfl rfl ?_
    obtain ⟨Q9, h10, hT⟩ := hT
    refine iv_Sl_24 (npc := 18) dX7_copyTo_15 rfl rfl (Nat.le_of_ble_eq_true rfl) (by decide) (by decide) h10 (fun s11 e13 => ?_)
    replace hT := hT s11 e13
    exact g_ret dX7_copyTo_18 rfl (by decide) ⟨rfl, hT⟩
