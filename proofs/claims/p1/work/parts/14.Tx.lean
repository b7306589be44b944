/-! blocks of ChipGame$Text -/
theorem dX8_append_0 : decode cX8_append 0 = .ok (.aload_n 0, 1) := by decide +kernel
theorem dX8_append_1 : decode cX8_append 1 = .ok (.getfield 9, 3) := by decide +kernel
theorem dX8_append_4 : decode cX8_append 4 = .ok (.ifCond .lt 35, 3) := by decide +kernel
theorem dX8_append_7 : decode cX8_append 7 = .ok (.aload_n 0, 1) := by decide +kernel
theorem dX8_append_8 : decode cX8_append 8 = .ok (.getfield 9, 3) := by decide +kernel
theorem dX8_append_11 : decode cX8_append 11 = .ok (.aload_n 0, 1) := by decide +kernel
theorem dX8_append_12 : decode cX8_append 12 = .ok (.getfield 15, 3) := by decide +kernel
theorem dX8_append_15 : decode cX8_append 15 = .ok (.arraylength, 1) := by decide +kernel
theorem dX8_append_16 : decode cX8_append 16 = .ok (.if_icmp .ge 23, 3) := by decide +kernel
theorem dX8_append_19 : decode cX8_append 19 = .ok (.aload_n 0, 1) := by decide +kernel
theorem dX8_append_20 : decode cX8_append 20 = .ok (.getfield 15, 3) := by decide +kernel
theorem dX8_append_23 : decode cX8_append 23 = .ok (.aload_n 0, 1) := by decide +kernel
theorem dX8_append_24 : decode cX8_append 24 = .ok (.getfield 9, 3) := by decide +kernel
theorem dX8_append_27 : decode cX8_append 27 = .ok (.iload_n 1, 1) := by decide +kernel
theorem dX8_append_28 : decode cX8_append 28 = .ok (.castore, 1) := by decide +kernel
theorem dX8_append_29 : decode cX8_append 29 = .ok (.aload_n 0, 1) := by decide +kernel
theorem dX8_append_30 : decode cX8_append 30 = .ok (.dup, 1) := by decide +kernel
theorem dX8_append_31 : decode cX8_append 31 = .ok (.getfield 9, 3) := by decide +kernel
theorem dX8_append_34 : decode cX8_append 34 = .ok (.iconst 1, 1) := by decide +kernel
theorem dX8_append_35 : decode cX8_append 35 = .ok (.iadd, 1) := by decide +kernel
theorem dX8_append_36 : decode cX8_append 36 = .ok (.putfield 9, 3) := by decide +kernel
theorem dX8_append_39 : decode cX8_append 39 = .ok (.return_, 1) := by decide +kernel
theorem dX8_lastDigit_0 : decode cX8_lastDigit 0 = .ok (.aload_n 0, 1) := by decide +kernel
theorem dX8_lastDigit_1 : decode cX8_lastDigit 1 = .ok (.getfield 9, 3) := by decide +kernel
theorem dX8_lastDigit_4 : decode cX8_lastDigit 4 = .ok (.iconst 1, 1) := by decide +kernel
theorem dX8_lastDigit_5 : decode cX8_lastDigit 5 = .ok (.if_icmp .lt 15, 3) := by decide +kernel
theorem dX8_lastDigit_8 : decode cX8_lastDigit 8 = .ok (.aload_n 0, 1) := by decide +kernel
theorem dX8_lastDigit_9 : decode cX8_lastDigit 9 = .ok (.getfield 9, 3) := by decide +kernel
theorem dX8_lastDigit_12 : decode cX8_lastDigit 12 = .ok (.aload_n 0, 1) := by decide +kernel
theorem dX8_lastDigit_13 : decode cX8_lastDigit 13 = .ok (.getfield 15, 3) := by decide +kernel
theorem dX8_lastDigit_16 : decode cX8_lastDigit 16 = .ok (.arraylength, 1) := by decide +kernel
theorem dX8_lastDigit_17 : decode cX8_lastDigit 17 = .ok (.if_icmp .le 5, 3) := by decide +kernel
theorem dX8_lastDigit_20 : decode cX8_lastDigit 20 = .ok (.iconst (-1), 1) := by decide +kernel
theorem dX8_lastDigit_21 : decode cX8_lastDigit 21 = .ok (.ireturn, 1) := by decide +kernel
theorem dX8_lastDigit_22 : decode cX8_lastDigit 22 = .ok (.aload_n 0, 1) := by decide +kernel
theorem dX8_lastDigit_23 : decode cX8_lastDigit 23 = .ok (.getfield 15, 3) := by decide +kernel
theorem dX8_lastDigit_26 : decode cX8_lastDigit 26 = .ok (.aload_n 0, 1) := by decide +kernel
theorem dX8_lastDigit_27 : decode cX8_lastDigit 27 = .ok (.getfield 9, 3) := by decide +kernel
theorem dX8_lastDigit_30 : decode cX8_lastDigit 30 = .ok (.iconst 1, 1) := by decide +kernel
theorem dX8_lastDigit_31 : decode cX8_lastDigit 31 = .ok (.isub, 1) := by decide +kernel
theorem dX8_lastDigit_32 : decode cX8_lastDigit 32 = .ok (.caload, 1) := by decide +kernel
theorem dX8_lastDigit_33 : decode cX8_lastDigit 33 = .ok (.istore_n 1, 1) := by decide +kernel
theorem dX8_lastDigit_34 : decode cX8_lastDigit 34 = .ok (.iload_n 1, 1) := by decide +kernel
theorem dX8_lastDigit_35 : decode cX8_lastDigit 35 = .ok (.bipush 48, 2) := by decide +kernel
theorem dX8_lastDigit_37 : decode cX8_lastDigit 37 = .ok (.if_icmp .lt 16, 3) := by decide +kernel
theorem dX8_lastDigit_40 : decode cX8_lastDigit 40 = .ok (.iload_n 1, 1) := by decide +kernel
theorem dX8_lastDigit_41 : decode cX8_lastDigit 41 = .ok (.bipush 57, 2) := by decide +kernel
theorem dX8_lastDigit_43 : decode cX8_lastDigit 43 = .ok (.if_icmp .gt 10, 3) := by decide +kernel
theorem dX8_lastDigit_46 : decode cX8_lastDigit 46 = .ok (.iload_n 1, 1) := by decide +kernel
theorem dX8_lastDigit_47 : decode cX8_lastDigit 47 = .ok (.bipush 48, 2) := by decide +kernel
theorem dX8_lastDigit_49 : decode cX8_lastDigit 49 = .ok (.isub, 1) := by decide +kernel
theorem dX8_lastDigit_50 : decode cX8_lastDigit 50 = .ok (.goto 4, 3) := by decide +kernel
theorem dX8_lastDigit_53 : decode cX8_lastDigit 53 = .ok (.iconst (-1), 1) := by decide +kernel
theorem dX8_lastDigit_54 : decode cX8_lastDigit 54 = .ok (.ireturn, 1) := by decide +kernel
set_option maxRecDepth 20000 in
theorem e_Tx_append {x1 : Int} {s : Sto} {Q : Sto → Prop} (hT : (-2147483648 ≤ (s 15 0) ∧ (s 15 0) < 2147483648) ∧ (((s 15 0) < 0) → Q s) ∧ ((0 ≤ (s 15 0)) → (-2147483648 ≤ (s 15 0) ∧ (s 15 0) < 2147483648) ∧ ((12 ≤ (s 15 0)) → Q s) ∧ (((s 15 0) < 12) → (0 ≤ (s 15 0) ∧ (s 15 0) < 12) ∧ (0 ≤ x1 ∧ x1 < 65536) ∧ ∀ s6, s6 = up s 16 (Int.toNat (s 15 0)) x1 → ∀ s8, s8 = up s6 15 0 ((s6 15 0) + 1) → Q s8))) : K_Tx_append x1 s Q := by
  refine Sp.body (by decide) (Nat.le_of_ble_eq_true rfl) ?_
  show Go SC M_Tx_append (fV0 Q) 0 [(0, .ref 15), (1, iV x1)] [] s
  refine g_aload_n (npc := 1) dX8_append_0 rfl rfl rfl ?_
  refine gf_Tx_9 (npc := 4) dX8_append_1 rfl rfl ?_
  obtain ⟨h1, hTt, hTf⟩ := hT
  refine g_if_lt (npc := 7) (tgt := 39) dX8_append_4 rfl (by decide) h1 (fun c2 => ?_) (fun c2 => ?_)
  · replace hT := hTt c2
    exact g_ret dX8_append_39 rfl ⟨rfl, hT⟩
  · replace hT := hTf (Int.not_lt.mp c2)
    refine g_aload_n (npc := 8) dX8_append_7 rfl rfl rfl ?_
    refine gf_Tx_9 (npc := 11) dX8_append_8 rfl rfl ?_
    refine g_aload_n (npc := 12) dX8_append_11 rfl rfl rfl ?_
    refine gf_Tx_15 (npc := 15) dX8_append_12 rfl rfl ?_
    refine g_alen (npc := 16) dX8_append_15 rfl arSC_16 (by decide) ?_
    obtain ⟨h3, hTt, hTf⟩ := hT
    refine g_icmp_ge (npc := 19) (tgt := 39) dX8_append_16 rfl (by decide) ⟨h3, by decide, by decide⟩ (fun c4 => ?_) (fun c4 => ?_)
    · replace hT := hTt c4
      exact g_ret dX8_append_39 rfl ⟨rfl, hT⟩
    · replace hT := hTf (Int.not_le.mp c4)
      refine g_aload_n (npc := 20) dX8_append_19 rfl rfl rfl ?_
      refine gf_Tx_15 (npc := 23) dX8_append_20 rfl rfl ?_
      refine g_aload_n (npc := 24) dX8_append_23 rfl rfl rfl ?_
      refine gf_Tx_9 (npc := 27) dX8_append_24 rfl rfl ?_
      refine g_iload_n (npc := 28) dX8_append_27 rfl rfl rfl ?_
      obtain ⟨h5, hT⟩ := hT
      obtain ⟨h7, hT⟩ := hT
      replace hT := hT _ rfl
      refine g_cast (npc := 29) dX8_append_28 rfl arSC_16 h5 (nar_c h7) ?_
      refine g_aload_n (npc := 30) dX8_append_29 rfl rfl rfl ?_
      refine g_dup (npc := 31) dX8_append_30 rfl rfl ?_
      refine gf_Tx_9 (npc := 34) dX8_append_31 rfl rfl ?_
      refine g_iconst (npc := 35) dX8_append_34 rfl ?_
      refine g_iadd (npc := 36) dX8_append_35 rfl ?_
      replace hT := hT _ rfl
      refine pf_Tx_9 (npc := 39) dX8_append_36 rfl rfl ?_
      exact g_ret dX8_append_39 rfl ⟨rfl, hT⟩
set_option maxRecDepth 20000 in
theorem e_Tx_lastDigit {s : Sto} {Q : Int → Sto → Prop} (hT : (-2147483648 ≤ (s 15 0) ∧ (s 15 0) < 2147483648) ∧ (((s 15 0) < 1) → Q (-1) s) ∧ ((1 ≤ (s 15 0)) → (-2147483648 ≤ (s 15 0) ∧ (s 15 0) < 2147483648) ∧ (((s 15 0) ≤ 12) → (0 ≤ ((s 15 0) - 1) ∧ ((s 15 0) - 1) < 12) ∧ (-2147483648 ≤ (s 16 (Int.toNat ((s 15 0) - 1))) ∧ (s 16 (Int.toNat ((s 15 0) - 1))) < 2147483648) ∧ (((s 16 (Int.toNat ((s 15 0) - 1))) < 48) → Q (-1) s) ∧ ((48 ≤ (s 16 (Int.toNat ((s 15 0) - 1)))) → (-2147483648 ≤ (s 16 (Int.toNat ((s 15 0) - 1))) ∧ (s 16 (Int.toNat ((s 15 0) - 1))) < 2147483648) ∧ ((57 < (s 16 (Int.toNat ((s 15 0) - 1)))) → Q (-1) s) ∧ (((s 16 (Int.toNat ((s 15 0) - 1))) ≤ 57) → Q ((s 16 (Int.toNat ((s 15 0) - 1))) - 48) s))) ∧ ((12 < (s 15 0)) → Q (-1) s))) : K_Tx_lastDigit s Q := by
  refine Sp.body (by decide) (Nat.le_of_ble_eq_true rfl) ?_
  show Go SC M_Tx_lastDigit (fI Q) 0 [(0, .ref 15)] [] s
  refine g_aload_n (npc := 1) dX8_lastDigit_0 rfl rfl rfl ?_
  refine gf_Tx_9 (npc := 4) dX8_lastDigit_1 rfl rfl ?_
  refine g_iconst (npc := 5) dX8_lastDigit_4 rfl ?_
  obtain ⟨h1, hTt, hTf⟩ := hT
  refine g_icmp_lt (npc := 8) (tgt := 20) dX8_lastDigit_5 rfl (by decide) ⟨h1, by decide, by decide⟩ (fun c2 => ?_) (fun c2 => ?_)
  · replace hT := hTt c2
    refine g_iconst (npc := 21) dX8_lastDigit_20 rfl ?_
    exact g_iret dX8_lastDigit_21 rfl rfl ⟨_, rfl, hT⟩
  · replace hT := hTf (Int.not_lt.mp c2)
    refine g_aload_n (npc := 9) dX8_lastDigit_8 rfl rfl rfl ?_
    refine gf_Tx_9 (npc := 12) dX8_lastDigit_9 rfl rfl ?_
    refine g_aload_n (npc := 13) dX8_lastDigit_12 rfl rfl rfl ?_
    refine gf_Tx_15 (npc := 16) dX8_lastDigit_13 rfl rfl ?_
    refine g_alen (npc := 17) dX8_lastDigit_16 rfl arSC_16 (by decide) ?_
    obtain ⟨h3, hTt, hTf⟩ := hT
    refine g_icmp_le (npc := 20) (tgt := 22) dX8_lastDigit_17 rfl (by decide) ⟨h3, by decide, by decide⟩ (fun c4 => ?_) (fun c4 => ?_)
    · replace hT := hTt c4
      refine g_aload_n (npc := 23) dX8_lastDigit_22 rfl rfl rfl ?_
      refine gf_Tx_15 (npc := 26) dX8_lastDigit_23 rfl rfl ?_
      refine g_aload_n (npc := 27) dX8_lastDigit_26 rfl rfl rfl ?_
      refine gf_Tx_9 (npc := 30) dX8_lastDigit_27 rfl rfl ?_
      refine g_iconst (npc := 31) dX8_lastDigit_30 rfl ?_
      refine g_isub (npc := 32) dX8_lastDigit_31 rfl ?_
      obtain ⟨h5, hT⟩ := hT
      refine g_cald (npc := 33) dX8_lastDigit_32 rfl arSC_16 h5 ?_
      refine g_istore_n (npc := 34) (l' := [(0, .ref 15), (1, iV (s 16 (Int.toNat ((s 15 0) - 1))))]) dX8_lastDigit_33 rfl rfl (by decide) rfl ?_
      refine g_iload_n (npc := 35) dX8_lastDigit_34 rfl rfl rfl ?_
      refine g_bipush (npc := 37) (x := 48) dX8_lastDigit_35 rfl (by decide) ?_
      obtain ⟨h6, hTt, hTf⟩ := hT
      refine g_icmp_lt (npc := 40) (tgt := 53) dX8_lastDigit_37 rfl (by decide) ⟨h6, by decide, by decide⟩ (fun c7 => ?_) (fun c7 => ?_)
      · replace hT := hTt c7
        refine g_iconst (npc := 54) dX8_lastDigit_53 rfl ?_
        exact g_iret dX8_lastDigit_54 rfl rfl ⟨_, rfl, hT⟩
      · replace hT := hTf (Int.not_lt.mp c7)
        refine g_iload_n (npc := 41) dX8_lastDigit_40 rfl rfl rfl ?_
        refine g_bipush (npc := 43) (x := 57) dX8_lastDigit_41 rfl (by decide) ?_
        obtain ⟨h8, hTt, hTf⟩ := hT
        refine g_icmp_gt (npc := 46) (tgt := 53) dX8_lastDigit_43 rfl (by decide) ⟨h8, by decide, by decide⟩ (fun c9 => ?_) (fun c9 => ?_)
        · replace hT := hTt c9
          refine g_iconst (npc := 54) dX8_lastDigit_53 rfl ?_
          exact g_iret dX8_lastDigit_54 rfl rfl ⟨_, rfl, hT⟩
        · replace hT := hTf (Int.not_lt.mp c9)
          refine g_iload_n (npc := 47) dX8_lastDigit_46 rfl rfl rfl ?_
          refine g_bipush (npc := 49) (x := 48) dX8_lastDigit_47 rfl (by decide) ?_
          refine g_isub (npc := 50) dX8_lastDigit_49 rfl ?_
          refine g_goto (npc := 54) dX8_lastDigit_50 (by decide) ?_
          exact g_iret dX8_lastDigit_54 rfl rfl ⟨_, rfl, hT⟩
    · replace hT := hTf (Int.not_le.mp c4)
      refine g_iconst (npc := 21) dX8_lastDigit_20 rfl ?_
      exact g_iret dX8_lastDigit_21 rfl rfl ⟨_, rfl, hT⟩
