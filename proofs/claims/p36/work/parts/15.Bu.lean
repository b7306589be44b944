/-! blocks of ChipGame$Burning -/
theorem dX0_hasBurnt_0 : decode cX0_hasBurnt 0 = .ok (.aload_n 0, 1) := by decide +kernel
theorem dX0_hasBurnt_1 : decode cX0_hasBurnt 1 = .ok (.getfield 18, 3) := by decide +kernel
theorem dX0_hasBurnt_4 : decode cX0_hasBurnt 4 = .ok (.iload_n 1, 1) := by decide +kernel
theorem dX0_hasBurnt_5 : decode cX0_hasBurnt 5 = .ok (.invokevirtual 22, 3) := by decide +kernel
theorem dX0_hasBurnt_8 : decode cX0_hasBurnt 8 = .ok (.ifCond .eq 17, 3) := by decide +kernel
theorem dX0_hasBurnt_11 : decode cX0_hasBurnt 11 = .ok (.aload_n 0, 1) := by decide +kernel
theorem dX0_hasBurnt_12 : decode cX0_hasBurnt 12 = .ok (.getfield 9, 3) := by decide +kernel
theorem dX0_hasBurnt_15 : decode cX0_hasBurnt 15 = .ok (.iload_n 1, 1) := by decide +kernel
theorem dX0_hasBurnt_16 : decode cX0_hasBurnt 16 = .ok (.iaload, 1) := by decide +kernel
theorem dX0_hasBurnt_17 : decode cX0_hasBurnt 17 = .ok (.iconst (-1), 1) := by decide +kernel
theorem dX0_hasBurnt_18 : decode cX0_hasBurnt 18 = .ok (.if_icmp .eq 7, 3) := by decide +kernel
theorem dX0_hasBurnt_21 : decode cX0_hasBurnt 21 = .ok (.iconst 1, 1) := by decide +kernel
theorem dX0_hasBurnt_22 : decode cX0_hasBurnt 22 = .ok (.goto 4, 3) := by decide +kernel
theorem dX0_hasBurnt_25 : decode cX0_hasBurnt 25 = .ok (.iconst 0, 1) := by decide +kernel
theorem dX0_hasBurnt_26 : decode cX0_hasBurnt 26 = .ok (.ireturn, 1) := by decide +kernel
theorem dX0_allBurn_0 : decode cX0_allBurn 0 = .ok (.iconst 0, 1) := by decide +kernel
theorem dX0_allBurn_1 : decode cX0_allBurn 1 = .ok (.istore_n 2, 1) := by decide +kernel
theorem dX0_allBurn_2 : decode cX0_allBurn 2 = .ok (.iload_n 2, 1) := by decide +kernel
theorem dX0_allBurn_3 : decode cX0_allBurn 3 = .ok (.aload_n 0, 1) := by decide +kernel
theorem dX0_allBurn_4 : decode cX0_allBurn 4 = .ok (.getfield 18, 3) := by decide +kernel
theorem dX0_allBurn_7 : decode cX0_allBurn 7 = .ok (.getfield 28, 3) := by decide +kernel
theorem dX0_allBurn_10 : decode cX0_allBurn 10 = .ok (.if_icmp .ge 27, 3) := by decide +kernel
theorem dX0_allBurn_13 : decode cX0_allBurn 13 = .ok (.aload_n 0, 1) := by decide +kernel
theorem dX0_allBurn_14 : decode cX0_allBurn 14 = .ok (.getfield 15, 3) := by decide +kernel
theorem dX0_allBurn_17 : decode cX0_allBurn 17 = .ok (.iload_n 2, 1) := by decide +kernel
theorem dX0_allBurn_18 : decode cX0_allBurn 18 = .ok (.aload_n 0, 1) := by decide +kernel
theorem dX0_allBurn_19 : decode cX0_allBurn 19 = .ok (.getfield 18, 3) := by decide +kernel
theorem dX0_allBurn_22 : decode cX0_allBurn 22 = .ok (.iload_n 2, 1) := by decide +kernel
theorem dX0_allBurn_23 : decode cX0_allBurn 23 = .ok (.invokevirtual 32, 3) := by decide +kernel
theorem dX0_allBurn_26 : decode cX0_allBurn 26 = .ok (.aload_n 1, 1) := by decide +kernel
theorem dX0_allBurn_27 : decode cX0_allBurn 27 = .ok (.iload_n 2, 1) := by decide +kernel
theorem dX0_allBurn_28 : decode cX0_allBurn 28 = .ok (.iaload, 1) := by decide +kernel
theorem dX0_allBurn_29 : decode cX0_allBurn 29 = .ok (.isub, 1) := by decide +kernel
theorem dX0_allBurn_30 : decode cX0_allBurn 30 = .ok (.iastore, 1) := by decide +kernel
theorem dX0_allBurn_31 : decode cX0_allBurn 31 = .ok (.iinc 2 1, 3) := by decide +kernel
theorem dX0_allBurn_34 : decode cX0_allBurn 34 = .ok (.goto (-32), 3) := by decide +kernel
theorem dX0_allBurn_37 : decode cX0_allBurn 37 = .ok (.aload_n 0, 1) := by decide +kernel
theorem dX0_allBurn_38 : decode cX0_allBurn 38 = .ok (.invokevirtual 36, 3) := by decide +kernel
theorem dX0_allBurn_41 : decode cX0_allBurn 41 = .ok (.ireturn, 1) := by decide +kernel
theorem dX0_allBurnBySecondRule_0 : decode cX0_allBurnBySecondRule 0 = .ok (.iconst 0, 1) := by decide +kernel
theorem dX0_allBurnBySecondRule_1 : decode cX0_allBurnBySecondRule 1 = .ok (.istore_n 2, 1) := by decide +kernel
theorem dX0_allBurnBySecondRule_2 : decode cX0_allBurnBySecondRule 2 = .ok (.iload_n 2, 1) := by decide +kernel
theorem dX0_allBurnBySecondRule_3 : decode cX0_allBurnBySecondRule 3 = .ok (.aload_n 0, 1) := by decide +kernel
theorem dX0_allBurnBySecondRule_4 : decode cX0_allBurnBySecondRule 4 = .ok (.getfield 18, 3) := by decide +kernel
theorem dX0_allBurnBySecondRule_7 : decode cX0_allBurnBySecondRule 7 = .ok (.getfield 28, 3) := by decide +kernel
theorem dX0_allBurnBySecondRule_10 : decode cX0_allBurnBySecondRule 10 = .ok (.if_icmp .ge 20, 3) := by decide +kernel
theorem dX0_allBurnBySecondRule_13 : decode cX0_allBurnBySecondRule 13 = .ok (.aload_n 0, 1) := by decide +kernel
theorem dX0_allBurnBySecondRule_14 : decode cX0_allBurnBySecondRule 14 = .ok (.getfield 15, 3) := by decide +kernel
theorem dX0_allBurnBySecondRule_17 : decode cX0_allBurnBySecondRule 17 = .ok (.iload_n 2, 1) := by decide +kernel
theorem dX0_allBurnBySecondRule_18 : decode cX0_allBurnBySecondRule 18 = .ok (.aload_n 1, 1) := by decide +kernel
theorem dX0_allBurnBySecondRule_19 : decode cX0_allBurnBySecondRule 19 = .ok (.iload_n 2, 1) := by decide +kernel
theorem dX0_allBurnBySecondRule_20 : decode cX0_allBurnBySecondRule 20 = .ok (.iaload, 1) := by decide +kernel
theorem dX0_allBurnBySecondRule_21 : decode cX0_allBurnBySecondRule 21 = .ok (.iconst 1, 1) := by decide +kernel
theorem dX0_allBurnBySecondRule_22 : decode cX0_allBurnBySecondRule 22 = .ok (.iadd, 1) := by decide +kernel
theorem dX0_allBurnBySecondRule_23 : decode cX0_allBurnBySecondRule 23 = .ok (.iastore, 1) := by decide +kernel
theorem dX0_allBurnBySecondRule_24 : decode cX0_allBurnBySecondRule 24 = .ok (.iinc 2 1, 3) := by decide +kernel
theorem dX0_allBurnBySecondRule_27 : decode cX0_allBurnBySecondRule 27 = .ok (.goto (-25), 3) := by decide +kernel
theorem dX0_allBurnBySecondRule_30 : decode cX0_allBurnBySecondRule 30 = .ok (.aload_n 0, 1) := by decide +kernel
theorem dX0_allBurnBySecondRule_31 : decode cX0_allBurnBySecondRule 31 = .ok (.invokevirtual 36, 3) := by decide +kernel
theorem dX0_allBurnBySecondRule_34 : decode cX0_allBurnBySecondRule 34 = .ok (.ireturn, 1) := by decide +kernel
theorem dX0_spreadFire_0 : decode cX0_spreadFire 0 = .ok (.iconst 0, 1) := by decide +kernel
theorem dX0_spreadFire_1 : decode cX0_spreadFire 1 = .ok (.istore_n 1, 1) := by decide +kernel
theorem dX0_spreadFire_2 : decode cX0_spreadFire 2 = .ok (.iload_n 1, 1) := by decide +kernel
theorem dX0_spreadFire_3 : decode cX0_spreadFire 3 = .ok (.aload_n 0, 1) := by decide +kernel
theorem dX0_spreadFire_4 : decode cX0_spreadFire 4 = .ok (.getfield 18, 3) := by decide +kernel
theorem dX0_spreadFire_7 : decode cX0_spreadFire 7 = .ok (.getfield 28, 3) := by decide +kernel
theorem dX0_spreadFire_10 : decode cX0_spreadFire 10 = .ok (.if_icmp .ge 31, 3) := by decide +kernel
theorem dX0_spreadFire_13 : decode cX0_spreadFire 13 = .ok (.aload_n 0, 1) := by decide +kernel
theorem dX0_spreadFire_14 : decode cX0_spreadFire 14 = .ok (.getfield 9, 3) := by decide +kernel
theorem dX0_spreadFire_17 : decode cX0_spreadFire 17 = .ok (.iload_n 1, 1) := by decide +kernel
theorem dX0_spreadFire_18 : decode cX0_spreadFire 18 = .ok (.iload_n 1, 1) := by decide +kernel
theorem dX0_spreadFire_19 : decode cX0_spreadFire 19 = .ok (.aload_n 0, 1) := by decide +kernel
theorem dX0_spreadFire_20 : decode cX0_spreadFire 20 = .ok (.getfield 18, 3) := by decide +kernel
theorem dX0_spreadFire_23 : decode cX0_spreadFire 23 = .ok (.getfield 40, 3) := by decide +kernel
theorem dX0_spreadFire_26 : decode cX0_spreadFire 26 = .ok (.if_icmp .ne 7, 3) := by decide +kernel
theorem dX0_spreadFire_29 : decode cX0_spreadFire 29 = .ok (.iconst 0, 1) := by decide +kernel
theorem dX0_spreadFire_30 : decode cX0_spreadFire 30 = .ok (.goto 4, 3) := by decide +kernel
theorem dX0_spreadFire_33 : decode cX0_spreadFire 33 = .ok (.iconst (-1), 1) := by decide +kernel
theorem dX0_spreadFire_34 : decode cX0_spreadFire 34 = .ok (.iastore, 1) := by decide +kernel
theorem dX0_spreadFire_35 : decode cX0_spreadFire 35 = .ok (.iinc 1 1, 3) := by decide +kernel
theorem dX0_spreadFire_38 : decode cX0_spreadFire 38 = .ok (.goto (-36), 3) := by decide +kernel
theorem dX0_spreadFire_41 : decode cX0_spreadFire 41 = .ok (.iconst 1, 1) := by decide +kernel
theorem dX0_spreadFire_42 : decode cX0_spreadFire 42 = .ok (.istore_n 1, 1) := by decide +kernel
theorem dX0_spreadFire_43 : decode cX0_spreadFire 43 = .ok (.iconst 1, 1) := by decide +kernel
theorem dX0_spreadFire_44 : decode cX0_spreadFire 44 = .ok (.istore_n 2, 1) := by decide +kernel
theorem dX0_spreadFire_45 : decode cX0_spreadFire 45 = .ok (.iload_n 2, 1) := by decide +kernel
theorem dX0_spreadFire_46 : decode cX0_spreadFire 46 = .ok (.aload_n 0, 1) := by decide +kernel
theorem dX0_spreadFire_47 : decode cX0_spreadFire 47 = .ok (.getfield 18, 3) := by decide +kernel
theorem dX0_spreadFire_50 : decode cX0_spreadFire 50 = .ok (.getfield 28, 3) := by decide +kernel
theorem dX0_spreadFire_53 : decode cX0_spreadFire 53 = .ok (.if_icmp .gt 17, 3) := by decide +kernel
theorem dX0_spreadFire_56 : decode cX0_spreadFire 56 = .ok (.iload_n 1, 1) := by decide +kernel
theorem dX0_spreadFire_57 : decode cX0_spreadFire 57 = .ok (.aload_n 0, 1) := by decide +kernel
theorem dX0_spreadFire_58 : decode cX0_spreadFire 58 = .ok (.iload_n 2, 1) := by decide +kernel
theorem dX0_spreadFire_59 : decode cX0_spreadFire 59 = .ok (.invokevirtual 43, 3) := by decide +kernel
theorem dX0_spreadFire_62 : decode cX0_spreadFire 62 = .ok (.iadd, 1) := by decide +kernel
theorem dX0_spreadFire_63 : decode cX0_spreadFire 63 = .ok (.istore_n 1, 1) := by decide +kernel
theorem dX0_spreadFire_64 : decode cX0_spreadFire 64 = .ok (.iinc 2 1, 3) := by decide +kernel
theorem dX0_spreadFire_67 : decode cX0_spreadFire 67 = .ok (.goto (-22), 3) := by decide +kernel
theorem dX0_spreadFire_70 : decode cX0_spreadFire 70 = .ok (.iload_n 1, 1) := by decide +kernel
theorem dX0_spreadFire_71 : decode cX0_spreadFire 71 = .ok (.aload_n 0, 1) := by decide +kernel
theorem dX0_spreadFire_72 : decode cX0_spreadFire 72 = .ok (.getfield 18, 3) := by decide +kernel
theorem dX0_spreadFire_75 : decode cX0_spreadFire 75 = .ok (.getfield 28, 3) := by decide +kernel
theorem dX0_spreadFire_78 : decode cX0_spreadFire 78 = .ok (.if_icmp .ne 7, 3) := by decide +kernel
theorem dX0_spreadFire_81 : decode cX0_spreadFire 81 = .ok (.iconst 1, 1) := by decide +kernel
theorem dX0_spreadFire_82 : decode cX0_spreadFire 82 = .ok (.goto 4, 3) := by decide +kernel
theorem dX0_spreadFire_85 : decode cX0_spreadFire 85 = .ok (.iconst 0, 1) := by decide +kernel
theorem dX0_spreadFire_86 : decode cX0_spreadFire 86 = .ok (.ireturn, 1) := by decide +kernel
theorem dX0_burnRound_0 : decode cX0_burnRound 0 = .ok (.iconst 0, 1) := by decide +kernel
theorem dX0_burnRound_1 : decode cX0_burnRound 1 = .ok (.istore_n 2, 1) := by decide +kernel
theorem dX0_burnRound_2 : decode cX0_burnRound 2 = .ok (.iconst 0, 1) := by decide +kernel
theorem dX0_burnRound_3 : decode cX0_burnRound 3 = .ok (.istore_n 3, 1) := by decide +kernel
theorem dX0_burnRound_4 : decode cX0_burnRound 4 = .ok (.iload_n 3, 1) := by decide +kernel
theorem dX0_burnRound_5 : decode cX0_burnRound 5 = .ok (.aload_n 0, 1) := by decide +kernel
theorem dX0_burnRound_6 : decode cX0_burnRound 6 = .ok (.getfield 18, 3) := by decide +kernel
theorem dX0_burnRound_9 : decode cX0_burnRound 9 = .ok (.getfield 28, 3) := by decide +kernel
theorem dX0_burnRound_12 : decode cX0_burnRound 12 = .ok (.if_icmp .ge 44, 3) := by decide +kernel
theorem dX0_burnRound_15 : decode cX0_burnRound 15 = .ok (.aload_n 0, 1) := by decide +kernel
theorem dX0_burnRound_16 : decode cX0_burnRound 16 = .ok (.getfield 9, 3) := by decide +kernel
theorem dX0_burnRound_19 : decode cX0_burnRound 19 = .ok (.iload_n 3, 1) := by decide +kernel
theorem dX0_burnRound_20 : decode cX0_burnRound 20 = .ok (.iaload, 1) := by decide +kernel
theorem dX0_burnRound_21 : decode cX0_burnRound 21 = .ok (.iconst (-1), 1) := by decide +kernel
theorem dX0_burnRound_22 : decode cX0_burnRound 22 = .ok (.if_icmp .ne 28, 3) := by decide +kernel
theorem dX0_burnRound_25 : decode cX0_burnRound 25 = .ok (.aload_n 0, 1) := by decide +kernel
theorem dX0_burnRound_26 : decode cX0_burnRound 26 = .ok (.iload_n 3, 1) := by decide +kernel
theorem dX0_burnRound_27 : decode cX0_burnRound 27 = .ok (.iload_n 1, 1) := by decide +kernel
theorem dX0_burnRound_28 : decode cX0_burnRound 28 = .ok (.invokevirtual 46, 3) := by decide +kernel
theorem dX0_burnRound_31 : decode cX0_burnRound 31 = .ok (.aload_n 0, 1) := by decide +kernel
theorem dX0_burnRound_32 : decode cX0_burnRound 32 = .ok (.getfield 15, 3) := by decide +kernel
theorem dX0_burnRound_35 : decode cX0_burnRound 35 = .ok (.iload_n 3, 1) := by decide +kernel
theorem dX0_burnRound_36 : decode cX0_burnRound 36 = .ok (.iaload, 1) := by decide +kernel
theorem dX0_burnRound_37 : decode cX0_burnRound 37 = .ok (.if_icmp .lt 13, 3) := by decide +kernel
theorem dX0_burnRound_40 : decode cX0_burnRound 40 = .ok (.aload_n 0, 1) := by decide +kernel
theorem dX0_burnRound_41 : decode cX0_burnRound 41 = .ok (.getfield 9, 3) := by decide +kernel
theorem dX0_burnRound_44 : decode cX0_burnRound 44 = .ok (.iload_n 3, 1) := by decide +kernel
theorem dX0_burnRound_45 : decode cX0_burnRound 45 = .ok (.iload_n 1, 1) := by decide +kernel
theorem dX0_burnRound_46 : decode cX0_burnRound 46 = .ok (.iastore, 1) := by decide +kernel
theorem dX0_burnRound_47 : decode cX0_burnRound 47 = .ok (.iinc 2 1, 3) := by decide +kernel
theorem dX0_burnRound_50 : decode cX0_burnRound 50 = .ok (.iinc 3 1, 3) := by decide +kernel
theorem dX0_burnRound_53 : decode cX0_burnRound 53 = .ok (.goto (-49), 3) := by decide +kernel
theorem dX0_burnRound_56 : decode cX0_burnRound 56 = .ok (.iload_n 2, 1) := by decide +kernel
theorem dX0_burnRound_57 : decode cX0_burnRound 57 = .ok (.ireturn, 1) := by decide +kernel
theorem dX0_edgesToBurnt_0 : decode cX0_edgesToBurnt 0 = .ok (.iconst 0, 1) := by decide +kernel
theorem dX0_edgesToBurnt_1 : decode cX0_edgesToBurnt 1 = .ok (.istore_n 3, 1) := by decide +kernel
theorem dX0_edgesToBurnt_2 : decode cX0_edgesToBurnt 2 = .ok (.iconst 0, 1) := by decide +kernel
theorem dX0_edgesToBurnt_3 : decode cX0_edgesToBurnt 3 = .ok (.istore 4, 2) := by decide +kernel
theorem dX0_edgesToBurnt_5 : decode cX0_edgesToBurnt 5 = .ok (.iload 4, 2) := by decide +kernel
theorem dX0_edgesToBurnt_7 : decode cX0_edgesToBurnt 7 = .ok (.aload_n 0, 1) := by decide +kernel
theorem dX0_edgesToBurnt_8 : decode cX0_edgesToBurnt 8 = .ok (.getfield 18, 3) := by decide +kernel
theorem dX0_edgesToBurnt_11 : decode cX0_edgesToBurnt 11 = .ok (.getfield 28, 3) := by decide +kernel
theorem dX0_edgesToBurnt_14 : decode cX0_edgesToBurnt 14 = .ok (.if_icmp .ge 46, 3) := by decide +kernel
theorem dX0_edgesToBurnt_17 : decode cX0_edgesToBurnt 17 = .ok (.aload_n 0, 1) := by decide +kernel
theorem dX0_edgesToBurnt_18 : decode cX0_edgesToBurnt 18 = .ok (.getfield 9, 3) := by decide +kernel
theorem dX0_edgesToBurnt_21 : decode cX0_edgesToBurnt 21 = .ok (.iload 4, 2) := by decide +kernel
theorem dX0_edgesToBurnt_23 : decode cX0_edgesToBurnt 23 = .ok (.iaload, 1) := by decide +kernel
theorem dX0_edgesToBurnt_24 : decode cX0_edgesToBurnt 24 = .ok (.iconst (-1), 1) := by decide +kernel
theorem dX0_edgesToBurnt_25 : decode cX0_edgesToBurnt 25 = .ok (.if_icmp .eq 29, 3) := by decide +kernel
theorem dX0_edgesToBurnt_28 : decode cX0_edgesToBurnt 28 = .ok (.aload_n 0, 1) := by decide +kernel
theorem dX0_edgesToBurnt_29 : decode cX0_edgesToBurnt 29 = .ok (.getfield 9, 3) := by decide +kernel
theorem dX0_edgesToBurnt_32 : decode cX0_edgesToBurnt 32 = .ok (.iload 4, 2) := by decide +kernel
theorem dX0_edgesToBurnt_34 : decode cX0_edgesToBurnt 34 = .ok (.iaload, 1) := by decide +kernel
theorem dX0_edgesToBurnt_35 : decode cX0_edgesToBurnt 35 = .ok (.iload_n 2, 1) := by decide +kernel
theorem dX0_edgesToBurnt_36 : decode cX0_edgesToBurnt 36 = .ok (.if_icmp .ge 18, 3) := by decide +kernel
theorem dX0_edgesToBurnt_39 : decode cX0_edgesToBurnt 39 = .ok (.iload_n 3, 1) := by decide +kernel
theorem dX0_edgesToBurnt_40 : decode cX0_edgesToBurnt 40 = .ok (.aload_n 0, 1) := by decide +kernel
theorem dX0_edgesToBurnt_41 : decode cX0_edgesToBurnt 41 = .ok (.getfield 18, 3) := by decide +kernel
theorem dX0_edgesToBurnt_44 : decode cX0_edgesToBurnt 44 = .ok (.getfield 50, 3) := by decide +kernel
theorem dX0_edgesToBurnt_47 : decode cX0_edgesToBurnt 47 = .ok (.iload_n 1, 1) := by decide +kernel
theorem dX0_edgesToBurnt_48 : decode cX0_edgesToBurnt 48 = .ok (.aaload, 1) := by decide +kernel
theorem dX0_edgesToBurnt_49 : decode cX0_edgesToBurnt 49 = .ok (.iload 4, 2) := by decide +kernel
theorem dX0_edgesToBurnt_51 : decode cX0_edgesToBurnt 51 = .ok (.iaload, 1) := by decide +kernel
theorem dX0_edgesToBurnt_52 : decode cX0_edgesToBurnt 52 = .ok (.iadd, 1) := by decide +kernel
theorem dX0_edgesToBurnt_53 : decode cX0_edgesToBurnt 53 = .ok (.istore_n 3, 1) := by decide +kernel
theorem dX0_edgesToBurnt_54 : decode cX0_edgesToBurnt 54 = .ok (.iinc 4 1, 3) := by decide +kernel
theorem dX0_edgesToBurnt_57 : decode cX0_edgesToBurnt 57 = .ok (.goto (-52), 3) := by decide +kernel
theorem dX0_edgesToBurnt_60 : decode cX0_edgesToBurnt 60 = .ok (.iload_n 3, 1) := by decide +kernel
theorem dX0_edgesToBurnt_61 : decode cX0_edgesToBurnt 61 = .ok (.ireturn, 1) := by decide +kernel
abbrev H_Bu_edgesToBurnt_5 (n : Nat) (Q : Int → Sto → Prop) (x1 : Int) (x2 : Int) (x3 : Int) (x4 : Int) (s : Sto) : Prop := Go (SL n) M_Bu_edgesToBurnt (fI Q) 0 0 5 [(0, .ref 37), (1, iV x1), (2, iV x2), (3, iV x3), (4, iV x4)] [] s
set_option maxRecDepth 20000 in
theorem b_Bu_edgesToBurnt_5 {n : Nat} {Q : Int → Sto → Prop} {x1 : Int} {x2 : Int} {x3 : Int} {x4 : Int} {s : Sto} (hT : ((-2147483648 ≤ x4 ∧ x4 < 2147483648) ∧ -2147483648 ≤ (s 1 0) ∧ (s 1 0) < 2147483648) ∧ (((s 1 0) ≤ x4) → Q x3 s) ∧ ((x4 < (s 1 0)) → (0 ≤ x4 ∧ x4 < 8) ∧ (-2147483648 ≤ (s 38 (Int.toNat x4)) ∧ (s 38 (Int.toNat x4)) < 2147483648) ∧ (((s 38 (Int.toNat x4)) = (-1)) → H_Bu_edgesToBurnt_5 n Q x1 x2 x3 (x4 + 1) s) ∧ ((¬ (s 38 (Int.toNat x4)) = (-1)) → (0 ≤ x4 ∧ x4 < 8) ∧ ((-2147483648 ≤ (s 38 (Int.toNat x4)) ∧ (s 38 (Int.toNat x4)) < 2147483648) ∧ -2147483648 ≤ x2 ∧ x2 < 2147483648) ∧ ((x2 ≤ (s 38 (Int.toNat x4))) → H_Bu_edgesToBurnt_5 n Q x1 x2 x3 (x4 + 1) s) ∧ (((s 38 (Int.toNat x4)) < x2) → (0 ≤ x1 ∧ x1 < 8) ∧ (0 ≤ x4 ∧ x4 < 8) ∧ H_Bu_edgesToBurnt_5 n Q x1 x2 (x3 + (s (5 + Int.toNat x1) (Int.toNat x4))) (x4 + 1) s)))) : H_Bu_edgesToBurnt_5 n Q x1 x2 x3 x4 s := by
  refine g_iload (npc := 7) dX0_edgesToBurnt_5 rfl rfl ?_
  refine g_aload_n (npc := 8) dX0_edgesToBurnt_7 rfl rfl rfl ?_
  refine gf_Bu_18 (npc := 11) dX0_edgesToBurnt_8 rfl rfl ?_
  refine gf_Bu_28 (npc := 14) dX0_edgesToBurnt_11 rfl rfl ?_
  obtain ⟨h1, hTt, hTf⟩ := hT
  refine g_icmp_ge (npc := 17) (tgt := 60) dX0_edgesToBurnt_14 rfl (by decide) h1 (fun c2 => ?_) (fun c2 => ?_)
  · replace hT := hTt c2
    refine g_iload_n (npc := 61) dX0_edgesToBurnt_60 rfl rfl rfl ?_
    exact g_iret dX0_edgesToBurnt_61 rfl rfl (by decide) ⟨_, rfl, hT⟩
  · replace hT := hTf (Int.not_le.mp c2)
    refine g_aload_n (npc := 18) dX0_edgesToBurnt_17 rfl rfl rfl ?_
    refine gf_Bu_9 (npc := 21) dX0_edgesToBurnt_18 rfl rfl ?_
    refine g_iload (npc := 23) dX0_edgesToBurnt_21 rfl rfl ?_
    obtain ⟨h3, hT⟩ := hT
    refine g_iald (npc := 24) dX0_edgesToBurnt_23 rfl (arSL arSC_38) h3 ?_
    refine g_iconst (npc := 25) dX0_edgesToBurnt_24 rfl ?_
    obtain ⟨h4, hTt, hTf⟩ := hT
    refine g_icmp_eq (npc := 28) (tgt := 54) dX0_edgesToBurnt_25 rfl (by decide) ⟨h4, by decide, by decide⟩ (fun c5 => ?_) (fun c5 => ?_)
    · replace hT := hTt c5
      refine g_iinc (npc := 57) (y := (x4 + 1)) (l' := [(0, .ref 37), (1, iV x1), (2, iV x2), (3, iV x3), (4, iV (x4 + 1))]) dX0_edgesToBurnt_54 rfl (by decide) rfl (by omega) rfl ?_
      refine g_goto (npc := 5) dX0_edgesToBurnt_57 (by decide) ?_
      exact hT
    · replace hT := hTf c5
      refine g_aload_n (npc := 29) dX0_edgesToBurnt_28 rfl rfl rfl ?_
      refine gf_Bu_9 (npc := 32) dX0_edgesToBurnt_29 rfl rfl ?_
      refine g_iload (npc := 34) dX0_edgesToBurnt_32 rfl rfl ?_
      obtain ⟨h6, hT⟩ := hT
      refine g_iald (npc := 35) dX0_edgesToBurnt_34 rfl (arSL arSC_38) h6 ?_
      refine g_iload_n (npc := 36) dX0_edgesToBurnt_35 rfl rfl rfl ?_
      obtain ⟨h7, hTt, hTf⟩ := hT
      refine g_icmp_ge (npc := 39) (tgt := 54) dX0_edgesToBurnt_36 rfl (by decide) h7 (fun c8 => ?_) (fun c8 => ?_)
      · replace hT := hTt c8
        refine g_iinc (npc := 57) (y := (x4 + 1)) (l' := [(0, .ref 37), (1, iV x1), (2, iV x2), (3, iV x3), (4, iV (x4 + 1))]) dX0_edgesToBurnt_54 rfl (by decide) rfl (by omega) rfl ?_
        refine g_goto (npc := 5) dX0_edgesToBurnt_57 (by decide) ?_
        exact hT
      · replace hT := hTf (Int.not_le.mp c8)
        refine g_iload_n (npc := 40) dX0_edgesToBurnt_39 rfl rfl rfl ?_
        refine g_aload_n (npc := 41) dX0_edgesToBurnt_40 rfl rfl rfl ?_
        refine gf_Bu_18 (npc := 44) dX0_edgesToBurnt_41 rfl rfl ?_
        refine gf_Bu_50 (npc := 47) dX0_edgesToBurnt_44 rfl rfl ?_
        refine g_iload_n (npc := 48) dX0_edgesToBurnt_47 rfl rfl rfl ?_
        obtain ⟨h9, hT⟩ := hT
        refine g_aald5 (npc := 49) dX0_edgesToBurnt_48 rfl (arSL arSC_4) h9 (frSC_4 h9) ?_
        refine g_iload (npc := 51) dX0_edgesToBurnt_49 rfl rfl ?_
        obtain ⟨h10, hT⟩ := hT
        refine g_iald (npc := 52) dX0_edgesToBurnt_51 rfl (arSL (rwSC_4 h9)) h10 ?_
        refine g_iadd (npc := 53) dX0_edgesToBurnt_52 rfl ?_
        refine g_istore_n (npc := 54) (l' := [(0, .ref 37), (1, iV x1), (2, iV x2), (3, iV (x3 + (s (5 + Int.toNat x1) (Int.toNat x4)))), (4, iV x4)]) dX0_edgesToBurnt_53 rfl rfl (by decide) rfl ?_
        refine g_iinc (npc := 57) (y := (x4 + 1)) (l' := [(0, .ref 37), (1, iV x1), (2, iV x2), (3, iV (x3 + (s (5 + Int.toNat x1) (Int.toNat x4)))), (4, iV (x4 + 1))]) dX0_edgesToBurnt_54 rfl (by decide) rfl (by omega) rfl ?_
        refine g_goto (npc := 5) dX0_edgesToBurnt_57 (by decide) ?_
        exact hT
set_option maxRecDepth 20000 in
theorem e_Bu_edgesToBurnt {n : Nat} {x1 : Int} {x2 : Int} {s : Sto} {Q : Int → Sto → Prop} (hT : H_Bu_edgesToBurnt_5 n Q x1 x2 0 0 s) : K_Bu_edgesToBurnt n x1 x2 s Q := by
  refine Sp.body (by decide +kernel) (Nat.le_of_ble_eq_true rfl) ?_
  show Go (SL n) M_Bu_edgesToBurnt (fI Q) 0 0 0 [(0, .ref 37), (1, iV x1), (2, iV x2)] [] s
  refine g_iconst (npc := 1) dX0_edgesToBurnt_0 rfl ?_
  refine g_istore_n (npc := 2) (l' := [(0, .ref 37), (1, iV x1), (2, iV x2), (3, iV 0)]) dX0_edgesToBurnt_1 rfl rfl (by decide) rfl ?_
  refine g_iconst (npc := 3) dX0_edgesToBurnt_2 rfl ?_
  refine g_istore (npc := 5) (l' := [(0, .ref 37), (1, iV x1), (2, iV x2), (3, iV 0), (4, iV 0)]) dX0_edgesToBurnt_3 rfl (by decide) rfl ?_
  exact hT
abbrev H_Bu_burnRound_4 (n : Nat) (Q : Int → Sto → Prop) (x1 : Int) (x2 : Int) (x3 : Int) (s : Sto) : Prop := Go (SL n) M_Bu_burnRound (fI Q) 0 0 4 [(0, .ref 37), (1, iV x1), (2, iV x2), (3, iV x3)] [] s
set_option maxRecDepth 20000 in
theorem b_Bu_burnRound_4 {n : Nat} {Q : Int → Sto → Prop} {x1 : Int} {x2 : Int} {x3 : Int} {s : Sto} (hT : ((-2147483648 ≤ x3 ∧ x3 < 2147483648) ∧ -2147483648 ≤ (s 1 0) ∧ (s 1 0) < 2147483648) ∧ (((s 1 0) ≤ x3) → Q x2 s) ∧ ((x3 < (s 1 0)) → (0 ≤ x3 ∧ x3 < 8) ∧ (-2147483648 ≤ (s 38 (Int.toNat x3)) ∧ (s 38 (Int.toNat x3)) < 2147483648) ∧ ((¬ (s 38 (Int.toNat x3)) = (-1)) → H_Bu_burnRound_4 n Q x1 x2 (x3 + 1) s) ∧ (((s 38 (Int.toNat x3)) = (-1)) → ∃ Q6 : Int → Sto → Prop, K_Bu_edgesToBurnt n x3 x1 s Q6 ∧ ∀ r9 s8, Q6 r9 s8 → (0 ≤ x3 ∧ x3 < 8) ∧ ((-2147483648 ≤ r9 ∧ r9 < 2147483648) ∧ -2147483648 ≤ (s8 39 (Int.toNat x3)) ∧ (s8 39 (Int.toNat x3)) < 2147483648) ∧ ((r9 < (s8 39 (Int.toNat x3))) → H_Bu_burnRound_4 n Q x1 x2 (x3 + 1) s8) ∧ (((s8 39 (Int.toNat x3)) ≤ r9) → (0 ≤ x3 ∧ x3 < 8) ∧ ∀ s15, s15 = up s8 38 (Int.toNat x3) x1 → H_Bu_burnRound_4 n Q x1 (x2 + 1) (x3 + 1) s15)))) : H_Bu_burnRound_4 n Q x1 x2 x3 s := by
  refine g_iload_n (npc := 5) dX0_burnRound_4 rfl rfl rfl ?_
  refine g_aload_n (npc := 6) dX0_burnRound_5 rfl rfl rfl ?_
  refine gf_Bu_18 (npc := 9) dX0_burnRound_6 rfl rfl ?_
  refine gf_Bu_28 (npc := 12) dX0_burnRound_9 rfl rfl ?_
  obtain ⟨h1, hTt, hTf⟩ := hT
  refine g_icmp_ge (npc := 15) (tgt := 56) dX0_burnRound_12 rfl (by decide) h1 (fun c2 => ?_) (fun c2 => ?_)
  · replace hT := hTt c2
    refine g_iload_n (npc := 57) dX0_burnRound_56 rfl rfl rfl ?_
    exact g_iret dX0_burnRound_57 rfl rfl (by decide) ⟨_, rfl, hT⟩
  · replace hT := hTf (Int.not_le.mp c2)
    refine g_aload_n (npc := 16) dX0_burnRound_15 rfl rfl rfl ?_
    refine gf_Bu_9 (npc := 19) dX0_burnRound_16 rfl rfl ?_
    refine g_iload_n (npc := 20) dX0_burnRound_19 rfl rfl rfl ?_
    obtain ⟨h3, hT⟩ := hT
    refine g_iald (npc := 21) dX0_burnRound_20 rfl (arSL arSC_38) h3 ?_
    refine g_iconst (npc := 22) dX0_burnRound_21 rfl ?_
    obtain ⟨h4, hTt, hTf⟩ := hT
    refine g_icmp_ne (npc := 25) (tgt := 50) dX0_burnRound_22 rfl (by decide) ⟨h4, by decide, by decide⟩ (fun c5 => ?_) (fun c5 => ?_)
    · replace hT := hTt c5
      refine g_iinc (npc := 53) (y := (x3 + 1)) (l' := [(0, .ref 37), (1, iV x1), (2, iV x2), (3, iV (x3 + 1))]) dX0_burnRound_50 rfl (by decide) rfl (by omega) rfl ?_
      refine g_goto (npc := 4) dX0_burnRound_53 (by decide) ?_
      exact hT
    · replace hT := hTf (Decidable.not_not.mp c5)
      refine g_aload_n (npc := 26) dX0_burnRound_25 rfl rfl rfl ?_
      refine g_iload_n (npc := 27) dX0_burnRound_26 rfl rfl rfl ?_
      refine g_iload_n (npc := 28) dX0_burnRound_27 rfl rfl rfl ?_
      obtain ⟨Q6, h7, hT⟩ := hT
      refine iv_Bu_46 (npc := 31) dX0_burnRound_28 rfl rfl (Nat.le_of_ble_eq_true rfl) (by decide) (by decide) h7 (fun r9 s8 e10 => ?_)
      replace hT := hT r9 s8 e10
      refine g_aload_n (npc := 32) dX0_burnRound_31 rfl rfl rfl ?_
      refine gf_Bu_15 (npc := 35) dX0_burnRound_32 rfl rfl ?_
      refine g_iload_n (npc := 36) dX0_burnRound_35 rfl rfl rfl ?_
      obtain ⟨h11, hT⟩ := hT
      refine g_iald (npc := 37) dX0_burnRound_36 rfl (arSL arSC_39) h11 ?_
      obtain ⟨h12, hTt, hTf⟩ := hT
      refine g_icmp_lt (npc := 40) (tgt := 50) dX0_burnRound_37 rfl (by decide) h12 (fun c13 => ?_) (fun c13 => ?_)
      · replace hT := hTt c13
        refine g_iinc (npc := 53) (y := (x3 + 1)) (l' := [(0, .ref 37), (1, iV x1), (2, iV x2), (3, iV (x3 + 1))]) dX0_burnRound_50 rfl (by decide) rfl (by omega) rfl ?_
        refine g_goto (npc := 4) dX0_burnRound_53 (by decide) ?_
        exact hT
      · replace hT := hTf (Int.not_lt.mp c13)
        refine g_aload_n (npc := 41) dX0_burnRound_40 rfl rfl rfl ?_
        refine gf_Bu_9 (npc := 44) dX0_burnRound_41 rfl rfl ?_
        refine g_iload_n (npc := 45) dX0_burnRound_44 rfl rfl rfl ?_
        refine g_iload_n (npc := 46) dX0_burnRound_45 rfl rfl rfl ?_
        obtain ⟨h14, hT⟩ := hT
        replace hT := hT _ rfl
        refine g_iast (npc := 47) dX0_burnRound_46 rfl (arSL arSC_38) h14  ?_
        refine g_iinc (npc := 50) (y := (x2 + 1)) (l' := [(0, .ref 37), (1, iV x1), (2, iV (x2 + 1)), (3, iV x3)]) dX0_burnRound_47 rfl (by decide) rfl (by omega) rfl ?_
        refine g_iinc (npc := 53) (y := (x3 + 1)) (l' := [(0, .ref 37), (1, iV x1), (2, iV (x2 + 1)), (3, iV (x3 + 1))]) dX0_burnRound_50 rfl (by decide) rfl (by omega) rfl ?_
        refine g_goto (npc := 4) dX0_burnRound_53 (by decide) ?_
        exact hT
set_option maxRecDepth 20000 in
theorem e_Bu_burnRound {n : Nat} {x1 : Int} {s : Sto} {Q : Int → Sto → Prop} (hT : H_Bu_burnRound_4 n Q x1 0 0 s) : K_Bu_burnRound n x1 s Q := by
  refine Sp.body (by decide +kernel) (Nat.le_of_ble_eq_true rfl) ?_
  show Go (SL n) M_Bu_burnRound (fI Q) 0 0 0 [(0, .ref 37), (1, iV x1)] [] s
  refine g_iconst (npc := 1) dX0_burnRound_0 rfl ?_
  refine g_istore_n (npc := 2) (l' := [(0, .ref 37), (1, iV x1), (2, iV 0)]) dX0_burnRound_1 rfl rfl (by decide) rfl ?_
  refine g_iconst (npc := 3) dX0_burnRound_2 rfl ?_
  refine g_istore_n (npc := 4) (l' := [(0, .ref 37), (1, iV x1), (2, iV 0), (3, iV 0)]) dX0_burnRound_3 rfl rfl (by decide) rfl ?_
  exact hT
abbrev H_Bu_spreadFire_2 (n : Nat) (Q : Int → Sto → Prop) (x1 : Int) (s : Sto) : Prop := Go (SL n) M_Bu_spreadFire (fI Q) 0 0 2 [(0, .ref 37), (1, iV x1)] [] s
abbrev H_Bu_spreadFire_45 (n : Nat) (Q : Int → Sto → Prop) (x1 : Int) (x2 : Int) (s : Sto) : Prop := Go (SL n) M_Bu_spreadFire (fI Q) 0 0 45 [(0, .ref 37), (1, iV x1), (2, iV x2)] [] s
set_option maxRecDepth 20000 in
theorem b_Bu_spreadFire_2 {n : Nat} {Q : Int → Sto → Prop} {x1 : Int} {s : Sto} (hT : ((-2147483648 ≤ x1 ∧ x1 < 2147483648) ∧ -2147483648 ≤ (s 1 0) ∧ (s 1 0) < 2147483648) ∧ (((s 1 0) ≤ x1) → H_Bu_spreadFire_45 n Q 1 1 s) ∧ ((x1 < (s 1 0)) → ((-2147483648 ≤ x1 ∧ x1 < 2147483648) ∧ -2147483648 ≤ (s 1 2) ∧ (s 1 2) < 2147483648) ∧ ((¬ x1 = (s 1 2)) → (0 ≤ x1 ∧ x1 < 8) ∧ ∀ s6, s6 = up s 38 (Int.toNat x1) (-1) → H_Bu_spreadFire_2 n Q (x1 + 1) s6) ∧ ((x1 = (s 1 2)) → (0 ≤ x1 ∧ x1 < 8) ∧ ∀ s8, s8 = up s 38 (Int.toNat x1) 0 → H_Bu_spreadFire_2 n Q (x1 + 1) s8))) : H_Bu_spreadFire_2 n Q x1 s := by
  refine g_iload_n (npc := 3) dX0_spreadFire_2 rfl rfl rfl ?_
  refine g_aload_n (npc := 4) dX0_spreadFire_3 rfl rfl rfl ?_
  refine gf_Bu_18 (npc := 7) dX0_spreadFire_4 rfl rfl ?_
  refine gf_Bu_28 (npc := 10) dX0_spreadFire_7 rfl rfl ?_
  obtain ⟨h1, hTt, hTf⟩ := hT
  refine g_icmp_ge (npc := 13) (tgt := 41) dX0_spreadFire_10 rfl (by decide) h1 (fun c2 => ?_) (fun c2 => ?_)
  · replace hT := hTt c2
    refine g_iconst (npc := 42) dX0_spreadFire_41 rfl ?_
    refine g_istore_n (npc := 43) (l' := [(0, .ref 37), (1, iV 1)]) dX0_spreadFire_42 rfl rfl (by decide) rfl ?_
    refine g_iconst (npc := 44) dX0_spreadFire_43 rfl ?_
    refine g_istore_n (npc := 45) (l' := [(0, .ref 37), (1, iV 1), (2, iV 1)]) dX0_spreadFire_44 rfl rfl (by decide) rfl ?_
    exact hT
  · replace hT := hTf (Int.not_le.mp c2)
    refine g_aload_n (npc := 14) dX0_spreadFire_13 rfl rfl rfl ?_
    refine gf_Bu_9 (npc := 17) dX0_spreadFire_14 rfl rfl ?_
    refine g_iload_n (npc := 18) dX0_spreadFire_17 rfl rfl rfl ?_
    refine g_iload_n (npc := 19) dX0_spreadFire_18 rfl rfl rfl ?_
    refine g_aload_n (npc := 20) dX0_spreadFire_19 rfl rfl rfl ?_
    refine gf_Bu_18 (npc := 23) dX0_spreadFire_20 rfl rfl ?_
    refine gf_Bu_40 (npc := 26) dX0_spreadFire_23 rfl rfl ?_
    obtain ⟨h3, hTt, hTf⟩ := hT
    refine g_icmp_ne (npc := 29) (tgt := 33) dX0_spreadFire_26 rfl (by decide) h3 (fun c4 => ?_) (fun c4 => ?_)
    · replace hT := hTt c4
      refine g_iconst (npc := 34) dX0_spreadFire_33 rfl ?_
      obtain ⟨h5, hT⟩ := hT
      replace hT := hT _ rfl
      refine g_iast (npc := 35) dX0_spreadFire_34 rfl (arSL arSC_38) h5  ?_
      refine g_iinc (npc := 38) (y := (x1 + 1)) (l' := [(0, .ref 37), (1, iV (x1 + 1))]) dX0_spreadFire_35 rfl (by decide) rfl (by omega) rfl ?_
      refine g_goto (npc := 2) dX0_spreadFire_38 (by decide) ?_
      exact hT
    · replace hT := hTf (Decidable.not_not.mp c4)
      refine g_iconst (npc := 30) dX0_spreadFire_29 rfl ?_
      refine g_goto (npc := 34) dX0_spreadFire_30 (by decide) ?_
      obtain ⟨h7, hT⟩ := hT
      replace hT := hT _ rfl
      refine g_iast (npc := 35) dX0_spreadFire_34 rfl (arSL arSC_38) h7  ?_
      refine g_iinc (npc := 38) (y := (x1 + 1)) (l' := [(0, .ref 37), (1, iV (x1 + 1))]) dX0_spreadFire_35 rfl (by decide) rfl (by omega) rfl ?_
      refine g_goto (npc := 2) dX0_spreadFire_38 (by decide) ?_
      exact hT
set_option maxRecDepth 20000 in
theorem b_Bu_spreadFire_45 {n : Nat} {Q : Int → Sto → Prop} {x1 : Int} {x2 : Int} {s : Sto} (hT : ((-2147483648 ≤ x2 ∧ x2 < 2147483648) ∧ -2147483648 ≤ (s 1 0) ∧ (s 1 0) < 2147483648) ∧ (((s 1 0) < x2) → ((-2147483648 ≤ x1 ∧ x1 < 2147483648) ∧ -2147483648 ≤ (s 1 0) ∧ (s 1 0) < 2147483648) ∧ ((¬ x1 = (s 1 0)) → Q 0 s) ∧ ((x1 = (s 1 0)) → Q 1 s)) ∧ ((x2 ≤ (s 1 0)) → ∃ Q13 : Int → Sto → Prop, K_Bu_burnRound n x2 s Q13 ∧ ∀ r16 s15, Q13 r16 s15 → H_Bu_spreadFire_45 n Q (x1 + r16) (x2 + 1) s15)) : H_Bu_spreadFire_45 n Q x1 x2 s := by
  refine g_iload_n (npc := 46) dX0_spreadFire_45 rfl rfl rfl ?_
  refine g_aload_n (npc := 47) dX0_spreadFire_46 rfl rfl rfl ?_
  refine gf_Bu_18 (npc := 50) dX0_spreadFire_47 rfl rfl ?_
  refine gf_Bu_28 (npc := 53) dX0_spreadFire_50 rfl rfl ?_
  obtain ⟨h9, hTt, hTf⟩ := hT
  refine g_icmp_gt (npc := 56) (tgt := 70) dX0_spreadFire_53 rfl (by decide) h9 (fun c10 => ?_) (fun c10 => ?_)
  · replace hT := hTt c10
    refine g_iload_n (npc := 71) dX0_spreadFire_70 rfl rfl rfl ?_
    refine g_aload_n (npc := 72) dX0_spreadFire_71 rfl rfl rfl ?_
    refine gf_Bu_18 (npc := 75) dX0_spreadFire_72 rfl rfl ?_
    refine gf_Bu_28 (npc := 78) dX0_spreadFire_75 rfl rfl ?_
    obtain ⟨h11, hTt, hTf⟩ := hT
    refine g_icmp_ne (npc := 81) (tgt := 85) dX0_spreadFire_78 rfl (by decide) h11 (fun c12 => ?_) (fun c12 => ?_)
    · replace hT := hTt c12
      refine g_iconst (npc := 86) dX0_spreadFire_85 rfl ?_
      exact g_iret dX0_spreadFire_86 rfl (by decide) (by decide) ⟨_, rfl, hT⟩
    · replace hT := hTf (Decidable.not_not.mp c12)
      refine g_iconst (npc := 82) dX0_spreadFire_81 rfl ?_
      refine g_goto (npc := 86) dX0_spreadFire_82 (by decide) ?_
      exact g_iret dX0_spreadFire_86 rfl (by decide) (by decide) ⟨_, rfl, hT⟩
  · replace hT := hTf (Int.not_lt.mp c10)
    refine g_iload_n (npc := 57) dX0_spreadFire_56 rfl rfl rfl ?_
    refine g_aload_n (npc := 58) dX0_spreadFire_57 rfl rfl rfl ?_
    refine g_iload_n (npc := 59) dX0_spreadFire_58 rfl rfl rfl ?_
    obtain ⟨Q13, h14, hT⟩ := hT
    refine iv_Bu_43 (npc := 62) dX0_spreadFire_59 rfl rfl (Nat.le_of_ble_eq_true rfl) (by decide) (by decide) h14 (fun r16 s15 e17 => ?_)
    replace hT := hT r16 s15 e17
    refine g_iadd (npc := 63) dX0_spreadFire_62 rfl ?_
    refine g_istore_n (npc := 64) (l' := [(0, .ref 37), (1, iV (x1 + r16)), (2, iV x2)]) dX0_spreadFire_63 rfl rfl (by decide) rfl ?_
    refine g_iinc (npc := 67) (y := (x2 + 1)) (l' := [(0, .ref 37), (1, iV (x1 + r16)), (2, iV (x2 + 1))]) dX0_spreadFire_64 rfl (by decide) rfl (by omega) rfl ?_
    refine g_goto (npc := 45) dX0_spreadFire_67 (by decide) ?_
    exact hT
set_option maxRecDepth 20000 in
theorem e_Bu_spreadFire {n : Nat} {s : Sto} {Q : Int → Sto → Prop} (hT : H_Bu_spreadFire_2 n Q 0 s) : K_Bu_spreadFire n s Q := by
  refine Sp.body (by decide +kernel) (Nat.le_of_ble_eq_true rfl) ?_
  show Go (SL n) M_Bu_spreadFire (fI Q) 0 0 0 [(0, .ref 37)] [] s
  refine g_iconst (npc := 1) dX0_spreadFire_0 rfl ?_
  refine g_istore_n (npc := 2) (l' := [(0, .ref 37), (1, iV 0)]) dX0_spreadFire_1 rfl rfl (by decide) rfl ?_
  exact hT
abbrev H_Bu_allBurn_2 (n : Nat) (Q : Int → Sto → Prop) (k1 : Nat) (x2 : Int) (s : Sto) : Prop := Go (SL n) M_Bu_allBurn (fI Q) 0 0 2 [(0, .ref 37), (1, .ref k1), (2, iV x2)] [] s
set_option maxRecDepth 20000 in
theorem b_Bu_allBurn_2 {n : Nat} {Q : Int → Sto → Prop} {k1 : Nat} {x2 : Int} (hk1 : ar (SL n) k1 1 8) {s : Sto} (hT : ((-2147483648 ≤ x2 ∧ x2 < 2147483648) ∧ -2147483648 ≤ (s 1 0) ∧ (s 1 0) < 2147483648) ∧ (((s 1 0) ≤ x2) → ∃ Q3 : Int → Sto → Prop, K_Bu_spreadFire n s Q3 ∧ ∀ r6 s5, Q3 r6 s5 → (r6 = 0 ∨ r6 = 1) ∧ Q r6 s5) ∧ ((x2 < (s 1 0)) → ∃ Q9 : Int → Sto → Prop, K_Gr_degreeOf n x2 s Q9 ∧ ∀ r12 s11, Q9 r12 s11 → (0 ≤ x2 ∧ x2 < 8) ∧ (0 ≤ x2 ∧ x2 < 8) ∧ ∀ s16, s16 = up s11 39 (Int.toNat x2) (r12 - (s11 k1 (Int.toNat x2))) → H_Bu_allBurn_2 n Q k1 (x2 + 1) s16)) : H_Bu_allBurn_2 n Q k1 x2 s := by
  refine g_iload_n (npc := 3) dX0_allBurn_2 rfl rfl rfl ?_
  refine g_aload_n (npc := 4) dX0_allBurn_3 rfl rfl rfl ?_
  refine gf_Bu_18 (npc := 7) dX0_allBurn_4 rfl rfl ?_
  refine gf_Bu_28 (npc := 10) dX0_allBurn_7 rfl rfl ?_
  obtain ⟨h1, hTt, hTf⟩ := hT
  refine g_icmp_ge (npc := 13) (tgt := 37) dX0_allBurn_10 rfl (by decide) h1 (fun c2 => ?_) (fun c2 => ?_)
  · replace hT := hTt c2
    refine g_aload_n (npc := 38) dX0_allBurn_37 rfl rfl rfl ?_
    obtain ⟨Q3, h4, hT⟩ := hT
    refine iv_Bu_36 (npc := 41) dX0_allBurn_38 rfl rfl (Nat.le_of_ble_eq_true rfl) (by decide) (by decide) h4 (fun r6 s5 e7 => ?_)
    replace hT := hT r6 s5 e7
    obtain ⟨h8, hT⟩ := hT
    exact g_iret dX0_allBurn_41 rfl (nar_zv h8) (by decide) ⟨_, rfl, hT⟩
  · replace hT := hTf (Int.not_le.mp c2)
    refine g_aload_n (npc := 14) dX0_allBurn_13 rfl rfl rfl ?_
    refine gf_Bu_15 (npc := 17) dX0_allBurn_14 rfl rfl ?_
    refine g_iload_n (npc := 18) dX0_allBurn_17 rfl rfl rfl ?_
    refine g_aload_n (npc := 19) dX0_allBurn_18 rfl rfl rfl ?_
    refine gf_Bu_18 (npc := 22) dX0_allBurn_19 rfl rfl ?_
    refine g_iload_n (npc := 23) dX0_allBurn_22 rfl rfl rfl ?_
    obtain ⟨Q9, h10, hT⟩ := hT
    refine iv_Bu_32 (npc := 26) dX0_allBurn_23 rfl rfl (Nat.le_of_ble_eq_true rfl) (by decide) (by decide) h10 (fun r12 s11 e13 => ?_)
    replace hT := hT r12 s11 e13
    refine g_aload_n (npc := 27) dX0_allBurn_26 rfl rfl rfl ?_
    refine g_iload_n (npc := 28) dX0_allBurn_27 rfl rfl rfl ?_
    obtain ⟨h14, hT⟩ := hT
    refine g_iald (npc := 29) dX0_allBurn_28 rfl hk1 h14 ?_
    refine g_isub (npc := 30) dX0_allBurn_29 rfl ?_
    obtain ⟨h15, hT⟩ := hT
    replace hT := hT _ rfl
    refine g_iast (npc := 31) dX0_allBurn_30 rfl (arSL arSC_39) h15  ?_
    refine g_iinc (npc := 34) (y := (x2 + 1)) (l' := [(0, .ref 37), (1, .ref k1), (2, iV (x2 + 1))]) dX0_allBurn_31 rfl (by decide) rfl (by omega) rfl ?_
    refine g_goto (npc := 2) dX0_allBurn_34 (by decide) ?_
    exact hT
set_option maxRecDepth 20000 in
theorem e_Bu_allBurn {n : Nat} {k1 : Nat} (hk1 : ar (SL n) k1 1 8) {s : Sto} {Q : Int → Sto → Prop} (hT : H_Bu_allBurn_2 n Q k1 0 s) : K_Bu_allBurn n k1 s Q := by
  refine Sp.body (by decide +kernel) (Nat.le_of_ble_eq_true rfl) ?_
  show Go (SL n) M_Bu_allBurn (fI Q) 0 0 0 [(0, .ref 37), (1, .ref k1)] [] s
  refine g_iconst (npc := 1) dX0_allBurn_0 rfl ?_
  refine g_istore_n (npc := 2) (l' := [(0, .ref 37), (1, .ref k1), (2, iV 0)]) dX0_allBurn_1 rfl rfl (by decide) rfl ?_
  exact hT
abbrev H_Bu_allBurnBySecondRule_2 (n : Nat) (Q : Int → Sto → Prop) (k1 : Nat) (x2 : Int) (s : Sto) : Prop := Go (SL n) M_Bu_allBurnBySecondRule (fI Q) 0 0 2 [(0, .ref 37), (1, .ref k1), (2, iV x2)] [] s
set_option maxRecDepth 20000 in
theorem b_Bu_allBurnBySecondRule_2 {n : Nat} {Q : Int → Sto → Prop} {k1 : Nat} {x2 : Int} (hk1 : ar (SL n) k1 1 8) {s : Sto} (hT : ((-2147483648 ≤ x2 ∧ x2 < 2147483648) ∧ -2147483648 ≤ (s 1 0) ∧ (s 1 0) < 2147483648) ∧ (((s 1 0) ≤ x2) → ∃ Q3 : Int → Sto → Prop, K_Bu_spreadFire n s Q3 ∧ ∀ r6 s5, Q3 r6 s5 → (r6 = 0 ∨ r6 = 1) ∧ Q r6 s5) ∧ ((x2 < (s 1 0)) → (0 ≤ x2 ∧ x2 < 8) ∧ (0 ≤ x2 ∧ x2 < 8) ∧ ∀ s11, s11 = up s 39 (Int.toNat x2) ((s k1 (Int.toNat x2)) + 1) → H_Bu_allBurnBySecondRule_2 n Q k1 (x2 + 1) s11)) : H_Bu_allBurnBySecondRule_2 n Q k1 x2 s := by
  refine g_iload_n (npc := 3) dX0_allBurnBySecondRule_2 rfl rfl rfl ?_
  refine g_aload_n (npc := 4) dX0_allBurnBySecondRule_3 rfl rfl rfl ?_
  refine gf_Bu_18 (npc := 7) dX0_allBurnBySecondRule_4 rfl rfl ?_
  refine gf_Bu_28 (npc := 10) dX0_allBurnBySecondRule_7 rfl rfl ?_
  obtain ⟨h1, hTt, hTf⟩ := hT
  refine g_icmp_ge (npc := 13) (tgt := 30) dX0_allBurnBySecondRule_10 rfl (by decide) h1 (fun c2 => ?_) (fun c2 => ?_)
  · replace hT := hTt c2
    refine g_aload_n (npc := 31) dX0_allBurnBySecondRule_30 rfl rfl rfl ?_
    obtain ⟨Q3, h4, hT⟩ := hT
    refine iv_Bu_36 (npc := 34) dX0_allBurnBySecondRule_31 rfl rfl (Nat.le_of_ble_eq_true rfl) (by decide) (by decide) h4 (fun r6 s5 e7 => ?_)
    replace hT := hT r6 s5 e7
    obtain ⟨h8, hT⟩ := hT
    exact g_iret dX0_allBurnBySecondRule_34 rfl (nar_zv h8) (by decide) ⟨_, rfl, hT⟩
  · replace hT := hTf (Int.not_le.mp c2)
    refine g_aload_n (npc := 14) dX0_allBurnBySecondRule_13 rfl rfl rfl ?_
    refine gf_Bu_15 (npc := 17) dX0_allBurnBySecondRule_14 rfl rfl ?_
    refine g_iload_n (npc := 18) dX0_allBurnBySecondRule_17 rfl rfl rfl ?_
    refine g_aload_n (npc := 19) dX0_allBurnBySecondRule_18 rfl rfl rfl ?_
    refine g_iload_n (npc := 20) dX0_allBurnBySecondRule_19 rfl rfl rfl ?_
    obtain ⟨h9, hT⟩ := hT
    refine g_iald (npc := 21) dX0_allBurnBySecondRule_20 rfl hk1 h9 ?_
    refine g_iconst (npc := 22) dX0_allBurnBySecondRule_21 rfl ?_
    refine g_iadd (npc := 23) dX0_allBurnBySecondRule_22 rfl ?_
    obtain ⟨h10, hT⟩ := hT
    replace hT := hT _ rfl
    refine g_iast (npc := 24) dX0_allBurnBySecondRule_23 rfl (arSL arSC_39) h10  ?_
    refine g_iinc (npc := 27) (y := (x2 + 1)) (l' := [(0, .ref 37), (1, .ref k1), (2, iV (x2 + 1))]) dX0_allBurnBySecondRule_24 rfl (by decide) rfl (by omega) rfl ?_
    refine g_goto (npc := 2) dX0_allBurnBySecondRule_27 (by decide) ?_
    exact hT
set_option maxRecDepth 20000 in
theorem e_Bu_allBurnBySecondRule {n : Nat} {k1 : Nat} (hk1 : ar (SL n) k1 1 8) {s : Sto} {Q : Int → Sto → Prop} (hT : H_Bu_allBurnBySecondRule_2 n Q k1 0 s) : K_Bu_allBurnBySecondRule n k1 s Q := by
  refine Sp.body (by decide +kernel) (Nat.le_of_ble_eq_true rfl) ?_
  show Go (SL n) M_Bu_allBurnBySecondRule (fI Q) 0 0 0 [(0, .ref 37), (1, .ref k1)] [] s
  refine g_iconst (npc := 1) dX0_allBurnBySecondRule_0 rfl ?_
  refine g_istore_n (npc := 2) (l' := [(0, .ref 37), (1, .ref k1), (2, iV 0)]) dX0_allBurnBySecondRule_1 rfl rfl (by decide) rfl ?_
  exact hT
set_option maxRecDepth 20000 in
theorem e_Bu_hasBurnt {n : Nat} {x1 : Int} {s : Sto} {Q : Int → Sto → Prop} (hT : ∃ Q1 : Int → Sto → Prop, K_Gr_hasNode n x1 s Q1 ∧ ∀ r4 s3, Q1 r4 s3 → (-2147483648 ≤ r4 ∧ r4 < 2147483648) ∧ ((r4 = 0) → Q 0 s3) ∧ ((¬ r4 = 0) → (0 ≤ x1 ∧ x1 < 8) ∧ (-2147483648 ≤ (s3 38 (Int.toNat x1)) ∧ (s3 38 (Int.toNat x1)) < 2147483648) ∧ (((s3 38 (Int.toNat x1)) = (-1)) → Q 0 s3) ∧ ((¬ (s3 38 (Int.toNat x1)) = (-1)) → Q 1 s3))) : K_Bu_hasBurnt n x1 s Q := by
  refine Sp.body (by decide +kernel) (Nat.le_of_ble_eq_true rfl) ?_
  show Go (SL n) M_Bu_hasBurnt (fI Q) 0 0 0 [(0, .ref 37), (1, iV x1)] [] s
  refine g_aload_n (npc := 1) dX0_hasBurnt_0 rfl rfl rfl ?_
  refine gf_Bu_18 (npc := 4) dX0_hasBurnt_1 rfl rfl ?_
  refine g_iload_n (npc := 5) dX0_hasBurnt_4 rfl rfl rfl ?_
  obtain ⟨Q1, h2, hT⟩ := hT
  refine iv_Bu_22 (npc := 8) dX0_hasBurnt_5 rfl rfl (Nat.le_of_ble_eq_true rfl) (by decide) (by decide) h2 (fun r4 s3 e5 => ?_)
  replace hT := hT r4 s3 e5
  obtain ⟨h6, hTt, hTf⟩ := hT
  refine g_if_eq (npc := 11) (tgt := 25) dX0_hasBurnt_8 rfl (by decide) h6 (fun c7 => ?_) (fun c7 => ?_)
  · replace hT := hTt c7
    refine g_iconst (npc := 26) dX0_hasBurnt_25 rfl ?_
    exact g_iret dX0_hasBurnt_26 rfl (by decide) (by decide) ⟨_, rfl, hT⟩
  · replace hT := hTf c7
    refine g_aload_n (npc := 12) dX0_hasBurnt_11 rfl rfl rfl ?_
    refine gf_Bu_9 (npc := 15) dX0_hasBurnt_12 rfl rfl ?_
    refine g_iload_n (npc := 16) dX0_hasBurnt_15 rfl rfl rfl ?_
    obtain ⟨h8, hT⟩ := hT
    refine g_iald (npc := 17) dX0_hasBurnt_16 rfl (arSL arSC_38) h8 ?_
    refine g_iconst (npc := 18) dX0_hasBurnt_17 rfl ?_
    obtain ⟨h9, hTt, hTf⟩ := hT
    refine g_icmp_eq (npc := 21) (tgt := 25) dX0_hasBurnt_18 rfl (by decide) ⟨h9, by decide, by decide⟩ (fun c10 => ?_) (fun c10 => ?_)
    · replace hT := hTt c10
      refine g_iconst (npc := 26) dX0_hasBurnt_25 rfl ?_
      exact g_iret dX0_hasBurnt_26 rfl (by decide) (by decide) ⟨_, rfl, hT⟩
    · replace hT := hTf c10
      refine g_iconst (npc := 22) dX0_hasBurnt_21 rfl ?_
      refine g_goto (npc := 26) dX0_hasBurnt_22 (by decide) ?_
      exact g_iret dX0_hasBurnt_26 rfl (by decide) (by decide) ⟨_, rfl, hT⟩
