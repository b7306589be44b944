/-! blocks of ChipGame$History -/
theorem dX3_record_0 : decode cX3_record 0 = .ok (.aload_n 0, 1) := by decide +kernel
theorem dX3_record_1 : decode cX3_record 1 = .ok (.getfield 9, 3) := by decide +kernel
theorem dX3_record_4 : decode cX3_record 4 = .ok (.bipush 12, 2) := by decide +kernel
theorem dX3_record_6 : decode cX3_record 6 = .ok (.if_icmp .ne 26, 3) := by decide +kernel
theorem dX3_record_9 : decode cX3_record 9 = .ok (.aload_n 0, 1) := by decide +kernel
theorem dX3_record_10 : decode cX3_record 10 = .ok (.aload_n 0, 1) := by decide +kernel
theorem dX3_record_11 : decode cX3_record 11 = .ok (.getfield 15, 3) := by decide +kernel
theorem dX3_record_14 : decode cX3_record 14 = .ok (.iconst 1, 1) := by decide +kernel
theorem dX3_record_15 : decode cX3_record 15 = .ok (.iadd, 1) := by decide +kernel
theorem dX3_record_16 : decode cX3_record 16 = .ok (.bipush 12, 2) := by decide +kernel
theorem dX3_record_18 : decode cX3_record 18 = .ok (.irem, 1) := by decide +kernel
theorem dX3_record_19 : decode cX3_record 19 = .ok (.putfield 15, 3) := by decide +kernel
theorem dX3_record_22 : decode cX3_record 22 = .ok (.aload_n 0, 1) := by decide +kernel
theorem dX3_record_23 : decode cX3_record 23 = .ok (.dup, 1) := by decide +kernel
theorem dX3_record_24 : decode cX3_record 24 = .ok (.getfield 9, 3) := by decide +kernel
theorem dX3_record_27 : decode cX3_record 27 = .ok (.iconst 1, 1) := by decide +kernel
theorem dX3_record_28 : decode cX3_record 28 = .ok (.isub, 1) := by decide +kernel
theorem dX3_record_29 : decode cX3_record 29 = .ok (.putfield 9, 3) := by decide +kernel
theorem dX3_record_32 : decode cX3_record 32 = .ok (.aload_n 1, 1) := by decide +kernel
theorem dX3_record_33 : decode cX3_record 33 = .ok (.aload_n 0, 1) := by decide +kernel
theorem dX3_record_34 : decode cX3_record 34 = .ok (.getfield 20, 3) := by decide +kernel
theorem dX3_record_37 : decode cX3_record 37 = .ok (.aload_n 0, 1) := by decide +kernel
theorem dX3_record_38 : decode cX3_record 38 = .ok (.getfield 15, 3) := by decide +kernel
theorem dX3_record_41 : decode cX3_record 41 = .ok (.aload_n 0, 1) := by decide +kernel
theorem dX3_record_42 : decode cX3_record 42 = .ok (.getfield 9, 3) := by decide +kernel
theorem dX3_record_45 : decode cX3_record 45 = .ok (.iadd, 1) := by decide +kernel
theorem dX3_record_46 : decode cX3_record 46 = .ok (.bipush 12, 2) := by decide +kernel
theorem dX3_record_48 : decode cX3_record 48 = .ok (.irem, 1) := by decide +kernel
theorem dX3_record_49 : decode cX3_record 49 = .ok (.aaload, 1) := by decide +kernel
theorem dX3_record_50 : decode cX3_record 50 = .ok (.invokestatic 23, 3) := by decide +kernel
theorem dX3_record_53 : decode cX3_record 53 = .ok (.aload_n 0, 1) := by decide +kernel
theorem dX3_record_54 : decode cX3_record 54 = .ok (.dup, 1) := by decide +kernel
theorem dX3_record_55 : decode cX3_record 55 = .ok (.getfield 9, 3) := by decide +kernel
theorem dX3_record_58 : decode cX3_record 58 = .ok (.iconst 1, 1) := by decide +kernel
theorem dX3_record_59 : decode cX3_record 59 = .ok (.iadd, 1) := by decide +kernel
theorem dX3_record_60 : decode cX3_record 60 = .ok (.putfield 9, 3) := by decide +kernel
theorem dX3_record_63 : decode cX3_record 63 = .ok (.return_, 1) := by decide +kernel
theorem dX3_takeBack_0 : decode cX3_takeBack 0 = .ok (.aload_n 0, 1) := by decide +kernel
theorem dX3_takeBack_1 : decode cX3_takeBack 1 = .ok (.getfield 9, 3) := by decide +kernel
theorem dX3_takeBack_4 : decode cX3_takeBack 4 = .ok (.ifCond .le 34, 3) := by decide +kernel
theorem dX3_takeBack_7 : decode cX3_takeBack 7 = .ok (.aload_n 0, 1) := by decide +kernel
theorem dX3_takeBack_8 : decode cX3_takeBack 8 = .ok (.dup, 1) := by decide +kernel
theorem dX3_takeBack_9 : decode cX3_takeBack 9 = .ok (.getfield 9, 3) := by decide +kernel
theorem dX3_takeBack_12 : decode cX3_takeBack 12 = .ok (.iconst 1, 1) := by decide +kernel
theorem dX3_takeBack_13 : decode cX3_takeBack 13 = .ok (.isub, 1) := by decide +kernel
theorem dX3_takeBack_14 : decode cX3_takeBack 14 = .ok (.putfield 9, 3) := by decide +kernel
theorem dX3_takeBack_17 : decode cX3_takeBack 17 = .ok (.aload_n 0, 1) := by decide +kernel
theorem dX3_takeBack_18 : decode cX3_takeBack 18 = .ok (.getfield 20, 3) := by decide +kernel
theorem dX3_takeBack_21 : decode cX3_takeBack 21 = .ok (.aload_n 0, 1) := by decide +kernel
theorem dX3_takeBack_22 : decode cX3_takeBack 22 = .ok (.getfield 15, 3) := by decide +kernel
theorem dX3_takeBack_25 : decode cX3_takeBack 25 = .ok (.aload_n 0, 1) := by decide +kernel
theorem dX3_takeBack_26 : decode cX3_takeBack 26 = .ok (.getfield 9, 3) := by decide +kernel
theorem dX3_takeBack_29 : decode cX3_takeBack 29 = .ok (.iadd, 1) := by decide +kernel
theorem dX3_takeBack_30 : decode cX3_takeBack 30 = .ok (.bipush 12, 2) := by decide +kernel
theorem dX3_takeBack_32 : decode cX3_takeBack 32 = .ok (.irem, 1) := by decide +kernel
theorem dX3_takeBack_33 : decode cX3_takeBack 33 = .ok (.aaload, 1) := by decide +kernel
theorem dX3_takeBack_34 : decode cX3_takeBack 34 = .ok (.aload_n 1, 1) := by decide +kernel
theorem dX3_takeBack_35 : decode cX3_takeBack 35 = .ok (.invokestatic 23, 3) := by decide +kernel
theorem dX3_takeBack_38 : decode cX3_takeBack 38 = .ok (.return_, 1) := by decide +kernel
theorem dX3_forgetAll_0 : decode cX3_forgetAll 0 = .ok (.aload_n 0, 1) := by decide +kernel
theorem dX3_forgetAll_1 : decode cX3_forgetAll 1 = .ok (.iconst 0, 1) := by decide +kernel
theorem dX3_forgetAll_2 : decode cX3_forgetAll 2 = .ok (.putfield 9, 3) := by decide +kernel
theorem dX3_forgetAll_5 : decode cX3_forgetAll 5 = .ok (.aload_n 0, 1) := by decide +kernel
theorem dX3_forgetAll_6 : decode cX3_forgetAll 6 = .ok (.iconst 0, 1) := by decide +kernel
theorem dX3_forgetAll_7 : decode cX3_forgetAll 7 = .ok (.putfield 15, 3) := by decide +kernel
theorem dX3_forgetAll_10 : decode cX3_forgetAll 10 = .ok (.return_, 1) := by decide +kernel
set_option maxRecDepth 20000 in
theorem e_Hi_forgetAll {n : Nat} {s : Sto} {Q : Sto → Prop} (hT : ∀ s1, s1 = up s 17 0 0 → ∀ s2, s2 = up s1 17 1 0 → Q s2) : K_Hi_forgetAll n s Q := by
  refine Sp.body (by decide +kernel) (Nat.le_of_ble_eq_true rfl) ?_
  show Go (SL n) M_Hi_forgetAll (fV0 Q) 0 0 0 [(0, .ref 17)] [] s
  refine g_aload_n (npc := 1) dX3_forgetAll_0 rfl rfl rfl ?_
  refine g_iconst (npc := 2) dX3_forgetAll_1 rfl ?_
  replace hT := hT _ rfl
  refine pf_Hi_9 (npc := 5) dX3_forgetAll_2 rfl rfl ?_
  refine g_aload_n (npc := 6) dX3_forgetAll_5 rfl rfl rfl ?_
  refine g_iconst (npc := 7) dX3_forgetAll_6 rfl ?_
  replace hT := hT _ rfl
  refine pf_Hi_15 (npc := 10) dX3_forgetAll_7 rfl rfl ?_
  exact g_ret dX3_forgetAll_10 rfl (by decide) ⟨rfl, hT⟩
set_option maxRecDepth 20000 in
theorem e_Hi_record {n : Nat} {k1 : Nat} (hk1 : ar (SL n) k1 1 8) {s : Sto} {Q : Sto → Prop} (hT : ∃ J7 : Sto → Prop, (∀ s6, J7 s6 → (-2147483648 ≤ ((s6 17 1) + (s6 17 0)) ∧ ((s6 17 1) + (s6 17 0)) < 2147483648) ∧ (0 ≤ (Int.tmod ((s6 17 1) + (s6 17 0)) 12) ∧ (Int.tmod ((s6 17 1) + (s6 17 0)) 12) < 12) ∧ ∃ Q12 : Sto → Prop, K_Cg_copyChips n k1 (19 + Int.toNat (Int.tmod ((s6 17 1) + (s6 17 0)) 12)) s6 Q12 ∧ ∀ s14, Q12 s14 → ∀ s17, s17 = up s14 17 0 ((s14 17 0) + 1) → Q s17) ∧ (-2147483648 ≤ (s 17 0) ∧ (s 17 0) < 2147483648) ∧ ((¬ (s 17 0) = 12) → J7 s) ∧ (((s 17 0) = 12) → (-2147483648 ≤ ((s 17 1) + 1) ∧ ((s 17 1) + 1) < 2147483648) ∧ ∀ s21, s21 = up s 17 1 (Int.tmod ((s 17 1) + 1) 12) → ∀ s22, s22 = up s21 17 0 ((s21 17 0) - 1) → J7 s22)) : K_Hi_record n k1 s Q := by
  refine Sp.body (by decide +kernel) (Nat.le_of_ble_eq_true rfl) ?_
  show Go (SL n) M_Hi_record (fV0 Q) 0 0 0 [(0, .ref 17), (1, .ref k1)] [] s
  refine g_aload_n (npc := 1) dX3_record_0 rfl rfl rfl ?_
  refine gf_Hi_9 (npc := 4) dX3_record_1 rfl rfl ?_
  refine g_bipush (npc := 6) (x := 12) dX3_record_4 rfl (by decide) ?_
  obtain ⟨J7, hT⟩ := hT
  obtain ⟨hj18, hT⟩ := hT
  have K19 : ∀ (s6 : Sto), J7 s6 → Go (SL n) M_Hi_record (fV0 Q) 0 0 32 [(0, .ref 17), (1, .ref k1)] [] s6 := by
    intro s6 q23
    replace hT := hj18 s6 q23
    refine g_aload_n (npc := 33) dX3_record_32 rfl rfl rfl ?_
    refine g_aload_n (npc := 34) dX3_record_33 rfl rfl rfl ?_
    refine gf_Hi_20 (npc := 37) dX3_record_34 rfl rfl ?_
    refine g_aload_n (npc := 38) dX3_record_37 rfl rfl rfl ?_
    refine gf_Hi_15 (npc := 41) dX3_record_38 rfl rfl ?_
    refine g_aload_n (npc := 42) dX3_record_41 rfl rfl rfl ?_
    refine gf_Hi_9 (npc := 45) dX3_record_42 rfl rfl ?_
    refine g_iadd (npc := 46) dX3_record_45 rfl ?_
    refine g_bipush (npc := 48) (x := 12) dX3_record_46 rfl (by decide) ?_
    obtain ⟨h10, hT⟩ := hT
    refine g_irem (npc := 49) dX3_record_48 rfl ⟨h10, by decide, by decide⟩ (by decide) ?_
    obtain ⟨h11, hT⟩ := hT
    refine g_aald5 (npc := 50) dX3_record_49 rfl (arSL arSC_18) h11 (frSC_18 h11) ?_
    obtain ⟨Q12, h13, hT⟩ := hT
    refine iv_Hi_23 (npc := 53) dX3_record_50 rfl rfl (Nat.le_of_ble_eq_true rfl) (by decide) (by decide) h13 (fun s14 e16 => ?_)
    replace hT := hT s14 e16
    refine g_aload_n (npc := 54) dX3_record_53 rfl rfl rfl ?_
    refine g_dup (npc := 55) dX3_record_54 rfl rfl ?_
    refine gf_Hi_9 (npc := 58) dX3_record_55 rfl rfl ?_
    refine g_iconst (npc := 59) dX3_record_58 rfl ?_
    refine g_iadd (npc := 60) dX3_record_59 rfl ?_
    replace hT := hT _ rfl
    refine pf_Hi_9 (npc := 63) dX3_record_60 rfl rfl ?_
    exact g_ret dX3_record_63 rfl (by decide) ⟨rfl, hT⟩
  obtain ⟨h8, hTt, hTf⟩ := hT
  refine g_icmp_ne (npc := 9) (tgt := 32) dX3_record_6 rfl (by decide) ⟨h8, by decide, by decide⟩ (fun c9 => ?_) (fun c9 => ?_)
  · replace hT := hTt c9
    exact K19 _ hT
  · replace hT := hTf (Decidable.not_not.mp c9)
    refine g_aload_n (npc := 10) dX3_record_9 rfl rfl rfl ?_
    refine g_aload_n (npc := 11) dX3_record_10 rfl rfl rfl ?_
    refine gf_Hi_15 (npc := 14) dX3_record_11 rfl rfl ?_
    refine g_iconst (npc := 15) dX3_record_14 rfl ?_
    refine g_iadd (npc := 16) dX3_record_15 rfl ?_
    refine g_bipush (npc := 18) (x := 12) dX3_record_16 rfl (by decide) ?_
    obtain ⟨h20, hT⟩ := hT
    refine g_irem (npc := 19) dX3_record_18 rfl ⟨h20, by decide, by decide⟩ (by decide) ?_
    replace hT := hT _ rfl
    refine pf_Hi_15 (npc := 22) dX3_record_19 rfl rfl ?_
    refine g_aload_n (npc := 23) dX3_record_22 rfl rfl rfl ?_
    refine g_dup (npc := 24) dX3_record_23 rfl rfl ?_
    refine gf_Hi_9 (npc := 27) dX3_record_24 rfl rfl ?_
    refine g_iconst (npc := 28) dX3_record_27 rfl ?_
    refine g_isub (npc := 29) dX3_record_28 rfl ?_
    replace hT := hT _ rfl
    refine pf_Hi_9 (npc := 32) dX3_record_29 rfl rfl ?_
    exact K19 _ hT
set_option maxRecDepth 20000 in
theorem e_Hi_takeBack {n : Nat} {k1 : Nat} (hk1 : ar (SL n) k1 1 8) {s : Sto} {Q : Sto → Prop} (hT : (-2147483648 ≤ (s 17 0) ∧ (s 17 0) < 2147483648) ∧ (((s 17 0) ≤ 0) → Q s) ∧ ((0 < (s 17 0)) → ∀ s3, s3 = up s 17 0 ((s 17 0) - 1) → (-2147483648 ≤ ((s3 17 1) + (s3 17 0)) ∧ ((s3 17 1) + (s3 17 0)) < 2147483648) ∧ (0 ≤ (Int.tmod ((s3 17 1) + (s3 17 0)) 12) ∧ (Int.tmod ((s3 17 1) + (s3 17 0)) 12) < 12) ∧ ∃ Q6 : Sto → Prop, K_Cg_copyChips n (19 + Int.toNat (Int.tmod ((s3 17 1) + (s3 17 0)) 12)) k1 s3 Q6 ∧ ∀ s8, Q6 s8 → Q s8)) : K_Hi_takeBack n k1 s Q := by
  refine Sp.body (by decide +kernel) (Nat.le_of_ble_eq_true rfl) ?_
  show Go (SL n) M_Hi_takeBack (fV0 Q) 0 0 0 [(0, .ref 17), (1, .ref k1)] [] s
  refine g_aload_n (npc := 1) dX3_takeBack_0 rfl rfl rfl ?_
  refine gf_Hi_9 (npc := 4) dX3_takeBack_1 rfl rfl ?_
  obtain ⟨h1, hTt, hTf⟩ := hT
  refine g_if_le (npc := 7) (tgt := 38) dX3_takeBack_4 rfl (by decide) h1 (fun c2 => ?_) (fun c2 => ?_)
  · replace hT := hTt c2
    exact g_ret dX3_takeBack_38 rfl (by decide) ⟨rfl, hT⟩
  · replace hT := hTf (Int.not_le.mp c2)
    refine g_aload_n (npc := 8) dX3_takeBack_7 rfl rfl rfl ?_
    refine g_dup (npc := 9) dX3_takeBack_8 rfl rfl ?_
    refine gf_Hi_9 (npc := 12) dX3_takeBack_9 rfl rfl ?_
    refine g_iconst (npc := 13) dX3_takeBack_12 rfl ?_
    refine g_isub (npc := 14) dX3_takeBack_13 rfl ?_
    replace hT := hT _ rfl
    refine pf_Hi_9 (npc := 17) dX3_takeBack_14 rfl rfl ?_
    refine g_aload_n (npc := 18) dX3_takeBack_17 rfl rfl rfl ?_
    refine gf_Hi_20 (npc := 21) dX3_takeBack_18 rfl rfl ?_
    refine g_aload_n (npc := 22) dX3_takeBack_21 rfl rfl rfl ?_
    refine gf_Hi_15 (npc := 25) dX3_takeBack_22 rfl rfl ?_
    refine g_aload_n (npc := 26) dX3_takeBack_25 rfl rfl rfl ?_
    refine gf_Hi_9 (npc := 29) dX3_takeBack_26 rfl rfl ?_
    refine g_iadd (npc := 30) dX3_takeBack_29 rfl ?_
    refine g_bipush (npc := 32) (x := 12) dX3_takeBack_30 rfl (by decide) ?_
    obtain ⟨h4, hT⟩ := hT
    refine g_irem (npc := 33) dX3_takeBack_32 rfl ⟨h4, by decide, by decide⟩ (by decide) ?_
    obtain ⟨h5, hT⟩ := hT
    refine g_aald5 (npc := 34) dX3_takeBack_33 rfl (arSL arSC_18) h5 (frSC_18 h5) ?_
    refine g_aload_n (npc := 35) dX3_takeBack_34 rfl rfl rfl ?_
    obtain ⟨Q6, h7, hT⟩ := hT
    refine iv_Hi_23 (npc := 38) dX3_takeBack_35 rfl rfl (Nat.le_of_ble_eq_true rfl) (by decide) (by decide) h7 (fun s8 e10 => ?_)
    replace hT := hT s8 e10
    exact g_ret dX3_takeBack_38 rfl (by decide) ⟨rfl, hT⟩
