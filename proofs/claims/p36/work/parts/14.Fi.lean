/-! blocks of ChipGame$Firing -/
theorem dX1_canFire_0 : decode cX1_canFire 0 = .ok (.aload_n 0, 1) := by decide +kernel
theorem dX1_canFire_1 : decode cX1_canFire 1 = .ok (.getfield 15, 3) := by decide +kernel
theorem dX1_canFire_4 : decode cX1_canFire 4 = .ok (.iload_n 2, 1) := by decide +kernel
theorem dX1_canFire_5 : decode cX1_canFire 5 = .ok (.invokevirtual 23, 3) := by decide +kernel
theorem dX1_canFire_8 : decode cX1_canFire 8 = .ok (.istore_n 3, 1) := by decide +kernel
theorem dX1_canFire_9 : decode cX1_canFire 9 = .ok (.aload_n 0, 1) := by decide +kernel
theorem dX1_canFire_10 : decode cX1_canFire 10 = .ok (.getfield 15, 3) := by decide +kernel
theorem dX1_canFire_13 : decode cX1_canFire 13 = .ok (.iload_n 2, 1) := by decide +kernel
theorem dX1_canFire_14 : decode cX1_canFire 14 = .ok (.invokevirtual 29, 3) := by decide +kernel
theorem dX1_canFire_17 : decode cX1_canFire 17 = .ok (.ifCond .eq 18, 3) := by decide +kernel
theorem dX1_canFire_20 : decode cX1_canFire 20 = .ok (.iload_n 3, 1) := by decide +kernel
theorem dX1_canFire_21 : decode cX1_canFire 21 = .ok (.ifCond .le 14, 3) := by decide +kernel
theorem dX1_canFire_24 : decode cX1_canFire 24 = .ok (.aload_n 1, 1) := by decide +kernel
theorem dX1_canFire_25 : decode cX1_canFire 25 = .ok (.iload_n 2, 1) := by decide +kernel
theorem dX1_canFire_26 : decode cX1_canFire 26 = .ok (.iaload, 1) := by decide +kernel
theorem dX1_canFire_27 : decode cX1_canFire 27 = .ok (.iload_n 3, 1) := by decide +kernel
theorem dX1_canFire_28 : decode cX1_canFire 28 = .ok (.if_icmp .lt 7, 3) := by decide +kernel
theorem dX1_canFire_31 : decode cX1_canFire 31 = .ok (.iconst 1, 1) := by decide +kernel
theorem dX1_canFire_32 : decode cX1_canFire 32 = .ok (.goto 4, 3) := by decide +kernel
theorem dX1_canFire_35 : decode cX1_canFire 35 = .ok (.iconst 0, 1) := by decide +kernel
theorem dX1_canFire_36 : decode cX1_canFire 36 = .ok (.ireturn, 1) := by decide +kernel
theorem dX1_isStable_0 : decode cX1_isStable 0 = .ok (.iconst 0, 1) := by decide +kernel
theorem dX1_isStable_1 : decode cX1_isStable 1 = .ok (.istore_n 2, 1) := by decide +kernel
theorem dX1_isStable_2 : decode cX1_isStable 2 = .ok (.iload_n 2, 1) := by decide +kernel
theorem dX1_isStable_3 : decode cX1_isStable 3 = .ok (.aload_n 0, 1) := by decide +kernel
theorem dX1_isStable_4 : decode cX1_isStable 4 = .ok (.getfield 15, 3) := by decide +kernel
theorem dX1_isStable_7 : decode cX1_isStable 7 = .ok (.getfield 33, 3) := by decide +kernel
theorem dX1_isStable_10 : decode cX1_isStable 10 = .ok (.if_icmp .ge 20, 3) := by decide +kernel
theorem dX1_isStable_13 : decode cX1_isStable 13 = .ok (.aload_n 0, 1) := by decide +kernel
theorem dX1_isStable_14 : decode cX1_isStable 14 = .ok (.aload_n 1, 1) := by decide +kernel
theorem dX1_isStable_15 : decode cX1_isStable 15 = .ok (.iload_n 2, 1) := by decide +kernel
theorem dX1_isStable_16 : decode cX1_isStable 16 = .ok (.invokevirtual 37, 3) := by decide +kernel
theorem dX1_isStable_19 : decode cX1_isStable 19 = .ok (.ifCond .eq 5, 3) := by decide +kernel
theorem dX1_isStable_22 : decode cX1_isStable 22 = .ok (.iconst 0, 1) := by decide +kernel
theorem dX1_isStable_23 : decode cX1_isStable 23 = .ok (.ireturn, 1) := by decide +kernel
theorem dX1_isStable_24 : decode cX1_isStable 24 = .ok (.iinc 2 1, 3) := by decide +kernel
theorem dX1_isStable_27 : decode cX1_isStable 27 = .ok (.goto (-25), 3) := by decide +kernel
theorem dX1_isStable_30 : decode cX1_isStable 30 = .ok (.iconst 1, 1) := by decide +kernel
theorem dX1_isStable_31 : decode cX1_isStable 31 = .ok (.ireturn, 1) := by decide +kernel
theorem dX1_give_0 : decode cX1_give 0 = .ok (.aload_n 0, 1) := by decide +kernel
theorem dX1_give_1 : decode cX1_give 1 = .ok (.getfield 15, 3) := by decide +kernel
theorem dX1_give_4 : decode cX1_give 4 = .ok (.iload_n 2, 1) := by decide +kernel
theorem dX1_give_5 : decode cX1_give 5 = .ok (.invokevirtual 41, 3) := by decide +kernel
theorem dX1_give_8 : decode cX1_give 8 = .ok (.ifCond .ne 4, 3) := by decide +kernel
theorem dX1_give_11 : decode cX1_give 11 = .ok (.return_, 1) := by decide +kernel
theorem dX1_give_12 : decode cX1_give 12 = .ok (.iconst 0, 1) := by decide +kernel
theorem dX1_give_13 : decode cX1_give 13 = .ok (.istore 4, 2) := by decide +kernel
theorem dX1_give_15 : decode cX1_give 15 = .ok (.iload 4, 2) := by decide +kernel
theorem dX1_give_17 : decode cX1_give 17 = .ok (.aload_n 0, 1) := by decide +kernel
theorem dX1_give_18 : decode cX1_give 18 = .ok (.getfield 15, 3) := by decide +kernel
theorem dX1_give_21 : decode cX1_give 21 = .ok (.getfield 33, 3) := by decide +kernel
theorem dX1_give_24 : decode cX1_give 24 = .ok (.if_icmp .ge 18, 3) := by decide +kernel
theorem dX1_give_27 : decode cX1_give 27 = .ok (.aload_n 0, 1) := by decide +kernel
theorem dX1_give_28 : decode cX1_give 28 = .ok (.aload_n 1, 1) := by decide +kernel
theorem dX1_give_29 : decode cX1_give 29 = .ok (.iload_n 2, 1) := by decide +kernel
theorem dX1_give_30 : decode cX1_give 30 = .ok (.iload 4, 2) := by decide +kernel
theorem dX1_give_32 : decode cX1_give 32 = .ok (.iload_n 3, 1) := by decide +kernel
theorem dX1_give_33 : decode cX1_give 33 = .ok (.invokevirtual 44, 3) := by decide +kernel
theorem dX1_give_36 : decode cX1_give 36 = .ok (.iinc 4 1, 3) := by decide +kernel
theorem dX1_give_39 : decode cX1_give 39 = .ok (.goto (-24), 3) := by decide +kernel
theorem dX1_give_42 : decode cX1_give 42 = .ok (.return_, 1) := by decide +kernel
theorem dX1_giveAlong_0 : decode cX1_giveAlong 0 = .ok (.iload 4, 2) := by decide +kernel
theorem dX1_giveAlong_2 : decode cX1_giveAlong 2 = .ok (.aload_n 0, 1) := by decide +kernel
theorem dX1_giveAlong_3 : decode cX1_giveAlong 3 = .ok (.getfield 15, 3) := by decide +kernel
theorem dX1_giveAlong_6 : decode cX1_giveAlong 6 = .ok (.getfield 48, 3) := by decide +kernel
theorem dX1_giveAlong_9 : decode cX1_giveAlong 9 = .ok (.iload_n 2, 1) := by decide +kernel
theorem dX1_giveAlong_10 : decode cX1_giveAlong 10 = .ok (.aaload, 1) := by decide +kernel
theorem dX1_giveAlong_11 : decode cX1_giveAlong 11 = .ok (.iload_n 3, 1) := by decide +kernel
theorem dX1_giveAlong_12 : decode cX1_giveAlong 12 = .ok (.iaload, 1) := by decide +kernel
theorem dX1_giveAlong_13 : decode cX1_giveAlong 13 = .ok (.imul, 1) := by decide +kernel
theorem dX1_giveAlong_14 : decode cX1_giveAlong 14 = .ok (.istore 5, 2) := by decide +kernel
theorem dX1_giveAlong_16 : decode cX1_giveAlong 16 = .ok (.aload_n 1, 1) := by decide +kernel
theorem dX1_giveAlong_17 : decode cX1_giveAlong 17 = .ok (.iload_n 2, 1) := by decide +kernel
theorem dX1_giveAlong_18 : decode cX1_giveAlong 18 = .ok (.dup2, 1) := by decide +kernel
theorem dX1_giveAlong_19 : decode cX1_giveAlong 19 = .ok (.iaload, 1) := by decide +kernel
theorem dX1_giveAlong_20 : decode cX1_giveAlong 20 = .ok (.iload 5, 2) := by decide +kernel
theorem dX1_giveAlong_22 : decode cX1_giveAlong 22 = .ok (.isub, 1) := by decide +kernel
theorem dX1_giveAlong_23 : decode cX1_giveAlong 23 = .ok (.iastore, 1) := by decide +kernel
theorem dX1_giveAlong_24 : decode cX1_giveAlong 24 = .ok (.iload_n 3, 1) := by decide +kernel
theorem dX1_giveAlong_25 : decode cX1_giveAlong 25 = .ok (.aload_n 0, 1) := by decide +kernel
theorem dX1_giveAlong_26 : decode cX1_giveAlong 26 = .ok (.getfield 15, 3) := by decide +kernel
theorem dX1_giveAlong_29 : decode cX1_giveAlong 29 = .ok (.getfield 52, 3) := by decide +kernel
theorem dX1_giveAlong_32 : decode cX1_giveAlong 32 = .ok (.if_icmp .eq 11, 3) := by decide +kernel
theorem dX1_giveAlong_35 : decode cX1_giveAlong 35 = .ok (.aload_n 1, 1) := by decide +kernel
theorem dX1_giveAlong_36 : decode cX1_giveAlong 36 = .ok (.iload_n 3, 1) := by decide +kernel
theorem dX1_giveAlong_37 : decode cX1_giveAlong 37 = .ok (.dup2, 1) := by decide +kernel
theorem dX1_giveAlong_38 : decode cX1_giveAlong 38 = .ok (.iaload, 1) := by decide +kernel
theorem dX1_giveAlong_39 : decode cX1_giveAlong 39 = .ok (.iload 5, 2) := by decide +kernel
theorem dX1_giveAlong_41 : decode cX1_giveAlong 41 = .ok (.iadd, 1) := by decide +kernel
theorem dX1_giveAlong_42 : decode cX1_giveAlong 42 = .ok (.iastore, 1) := by decide +kernel
theorem dX1_giveAlong_43 : decode cX1_giveAlong 43 = .ok (.return_, 1) := by decide +kernel
theorem dX1_settle_0 : decode cX1_settle 0 = .ok (.aload_n 0, 1) := by decide +kernel
theorem dX1_settle_1 : decode cX1_settle 1 = .ok (.getfield 9, 3) := by decide +kernel
theorem dX1_settle_4 : decode cX1_settle 4 = .ok (.invokestatic 55, 3) := by decide +kernel
theorem dX1_settle_7 : decode cX1_settle 7 = .ok (.iconst 0, 1) := by decide +kernel
theorem dX1_settle_8 : decode cX1_settle 8 = .ok (.istore_n 2, 1) := by decide +kernel
theorem dX1_settle_9 : decode cX1_settle 9 = .ok (.iconst 1, 1) := by decide +kernel
theorem dX1_settle_10 : decode cX1_settle 10 = .ok (.istore_n 3, 1) := by decide +kernel
theorem dX1_settle_11 : decode cX1_settle 11 = .ok (.iconst 0, 1) := by decide +kernel
theorem dX1_settle_12 : decode cX1_settle 12 = .ok (.istore 4, 2) := by decide +kernel
theorem dX1_settle_14 : decode cX1_settle 14 = .ok (.iload_n 3, 1) := by decide +kernel
theorem dX1_settle_15 : decode cX1_settle 15 = .ok (.ifCond .le 53, 3) := by decide +kernel
theorem dX1_settle_18 : decode cX1_settle 18 = .ok (.iload 4, 2) := by decide +kernel
theorem dX1_settle_20 : decode cX1_settle 20 = .ok (.ldc 59, 2) := by decide +kernel
theorem dX1_settle_22 : decode cX1_settle 22 = .ok (.if_icmp .ge 46, 3) := by decide +kernel
theorem dX1_settle_25 : decode cX1_settle 25 = .ok (.iconst 0, 1) := by decide +kernel
theorem dX1_settle_26 : decode cX1_settle 26 = .ok (.istore_n 3, 1) := by decide +kernel
theorem dX1_settle_27 : decode cX1_settle 27 = .ok (.iconst 0, 1) := by decide +kernel
theorem dX1_settle_28 : decode cX1_settle 28 = .ok (.istore 5, 2) := by decide +kernel
theorem dX1_settle_30 : decode cX1_settle 30 = .ok (.iload 5, 2) := by decide +kernel
theorem dX1_settle_32 : decode cX1_settle 32 = .ok (.aload_n 0, 1) := by decide +kernel
theorem dX1_settle_33 : decode cX1_settle 33 = .ok (.getfield 15, 3) := by decide +kernel
theorem dX1_settle_36 : decode cX1_settle 36 = .ok (.getfield 33, 3) := by decide +kernel
theorem dX1_settle_39 : decode cX1_settle 39 = .ok (.if_icmp .ge 19, 3) := by decide +kernel
theorem dX1_settle_42 : decode cX1_settle 42 = .ok (.iload_n 3, 1) := by decide +kernel
theorem dX1_settle_43 : decode cX1_settle 43 = .ok (.aload_n 0, 1) := by decide +kernel
theorem dX1_settle_44 : decode cX1_settle 44 = .ok (.aload_n 1, 1) := by decide +kernel
theorem dX1_settle_45 : decode cX1_settle 45 = .ok (.iload 5, 2) := by decide +kernel
theorem dX1_settle_47 : decode cX1_settle 47 = .ok (.invokevirtual 60, 3) := by decide +kernel
theorem dX1_settle_50 : decode cX1_settle 50 = .ok (.iadd, 1) := by decide +kernel
theorem dX1_settle_51 : decode cX1_settle 51 = .ok (.istore_n 3, 1) := by decide +kernel
theorem dX1_settle_52 : decode cX1_settle 52 = .ok (.iinc 5 1, 3) := by decide +kernel
theorem dX1_settle_55 : decode cX1_settle 55 = .ok (.goto (-25), 3) := by decide +kernel
theorem dX1_settle_58 : decode cX1_settle 58 = .ok (.iload_n 2, 1) := by decide +kernel
theorem dX1_settle_59 : decode cX1_settle 59 = .ok (.iload_n 3, 1) := by decide +kernel
theorem dX1_settle_60 : decode cX1_settle 60 = .ok (.iadd, 1) := by decide +kernel
theorem dX1_settle_61 : decode cX1_settle 61 = .ok (.istore_n 2, 1) := by decide +kernel
theorem dX1_settle_62 : decode cX1_settle 62 = .ok (.iinc 4 1, 3) := by decide +kernel
theorem dX1_settle_65 : decode cX1_settle 65 = .ok (.goto (-51), 3) := by decide +kernel
theorem dX1_settle_68 : decode cX1_settle 68 = .ok (.iload_n 2, 1) := by decide +kernel
theorem dX1_settle_69 : decode cX1_settle 69 = .ok (.ireturn, 1) := by decide +kernel
theorem dX1_fireWhilePossible_0 : decode cX1_fireWhilePossible 0 = .ok (.aload_n 0, 1) := by decide +kernel
theorem dX1_fireWhilePossible_1 : decode cX1_fireWhilePossible 1 = .ok (.getfield 15, 3) := by decide +kernel
theorem dX1_fireWhilePossible_4 : decode cX1_fireWhilePossible 4 = .ok (.iload_n 2, 1) := by decide +kernel
theorem dX1_fireWhilePossible_5 : decode cX1_fireWhilePossible 5 = .ok (.invokevirtual 23, 3) := by decide +kernel
theorem dX1_fireWhilePossible_8 : decode cX1_fireWhilePossible 8 = .ok (.istore_n 3, 1) := by decide +kernel
theorem dX1_fireWhilePossible_9 : decode cX1_fireWhilePossible 9 = .ok (.aload_n 0, 1) := by decide +kernel
theorem dX1_fireWhilePossible_10 : decode cX1_fireWhilePossible 10 = .ok (.aload_n 1, 1) := by decide +kernel
theorem dX1_fireWhilePossible_11 : decode cX1_fireWhilePossible 11 = .ok (.iload_n 2, 1) := by decide +kernel
theorem dX1_fireWhilePossible_12 : decode cX1_fireWhilePossible 12 = .ok (.invokevirtual 37, 3) := by decide +kernel
theorem dX1_fireWhilePossible_15 : decode cX1_fireWhilePossible 15 = .ok (.ifCond .eq 7, 3) := by decide +kernel
theorem dX1_fireWhilePossible_18 : decode cX1_fireWhilePossible 18 = .ok (.iload_n 3, 1) := by decide +kernel
theorem dX1_fireWhilePossible_19 : decode cX1_fireWhilePossible 19 = .ok (.ifCond .gt 5, 3) := by decide +kernel
theorem dX1_fireWhilePossible_22 : decode cX1_fireWhilePossible 22 = .ok (.iconst 0, 1) := by decide +kernel
theorem dX1_fireWhilePossible_23 : decode cX1_fireWhilePossible 23 = .ok (.ireturn, 1) := by decide +kernel
theorem dX1_fireWhilePossible_24 : decode cX1_fireWhilePossible 24 = .ok (.aload_n 1, 1) := by decide +kernel
theorem dX1_fireWhilePossible_25 : decode cX1_fireWhilePossible 25 = .ok (.iload_n 2, 1) := by decide +kernel
theorem dX1_fireWhilePossible_26 : decode cX1_fireWhilePossible 26 = .ok (.iaload, 1) := by decide +kernel
theorem dX1_fireWhilePossible_27 : decode cX1_fireWhilePossible 27 = .ok (.iload_n 3, 1) := by decide +kernel
theorem dX1_fireWhilePossible_28 : decode cX1_fireWhilePossible 28 = .ok (.idiv, 1) := by decide +kernel
theorem dX1_fireWhilePossible_29 : decode cX1_fireWhilePossible 29 = .ok (.istore 4, 2) := by decide +kernel
theorem dX1_fireWhilePossible_31 : decode cX1_fireWhilePossible 31 = .ok (.aload_n 0, 1) := by decide +kernel
theorem dX1_fireWhilePossible_32 : decode cX1_fireWhilePossible 32 = .ok (.aload_n 1, 1) := by decide +kernel
theorem dX1_fireWhilePossible_33 : decode cX1_fireWhilePossible 33 = .ok (.iload_n 2, 1) := by decide +kernel
theorem dX1_fireWhilePossible_34 : decode cX1_fireWhilePossible 34 = .ok (.iload 4, 2) := by decide +kernel
theorem dX1_fireWhilePossible_36 : decode cX1_fireWhilePossible 36 = .ok (.invokevirtual 64, 3) := by decide +kernel
theorem dX1_fireWhilePossible_39 : decode cX1_fireWhilePossible 39 = .ok (.aload_n 0, 1) := by decide +kernel
theorem dX1_fireWhilePossible_40 : decode cX1_fireWhilePossible 40 = .ok (.getfield 9, 3) := by decide +kernel
theorem dX1_fireWhilePossible_43 : decode cX1_fireWhilePossible 43 = .ok (.iload_n 2, 1) := by decide +kernel
theorem dX1_fireWhilePossible_44 : decode cX1_fireWhilePossible 44 = .ok (.dup2, 1) := by decide +kernel
theorem dX1_fireWhilePossible_45 : decode cX1_fireWhilePossible 45 = .ok (.iaload, 1) := by decide +kernel
theorem dX1_fireWhilePossible_46 : decode cX1_fireWhilePossible 46 = .ok (.iload 4, 2) := by decide +kernel
theorem dX1_fireWhilePossible_48 : decode cX1_fireWhilePossible 48 = .ok (.iadd, 1) := by decide +kernel
theorem dX1_fireWhilePossible_49 : decode cX1_fireWhilePossible 49 = .ok (.iastore, 1) := by decide +kernel
theorem dX1_fireWhilePossible_50 : decode cX1_fireWhilePossible 50 = .ok (.iload 4, 2) := by decide +kernel
theorem dX1_fireWhilePossible_52 : decode cX1_fireWhilePossible 52 = .ok (.ireturn, 1) := by decide +kernel
theorem dX1_fireSets_0 : decode cX1_fireSets 0 = .ok (.iconst 0, 1) := by decide +kernel
theorem dX1_fireSets_1 : decode cX1_fireSets 1 = .ok (.istore_n 2, 1) := by decide +kernel
theorem dX1_fireSets_2 : decode cX1_fireSets 2 = .ok (.iload_n 2, 1) := by decide +kernel
theorem dX1_fireSets_3 : decode cX1_fireSets 3 = .ok (.ldc 59, 2) := by decide +kernel
theorem dX1_fireSets_5 : decode cX1_fireSets 5 = .ok (.if_icmp .ge 25, 3) := by decide +kernel
theorem dX1_fireSets_8 : decode cX1_fireSets 8 = .ok (.aload_n 0, 1) := by decide +kernel
theorem dX1_fireSets_9 : decode cX1_fireSets 9 = .ok (.getfield 19, 3) := by decide +kernel
theorem dX1_fireSets_12 : decode cX1_fireSets 12 = .ok (.aload_n 1, 1) := by decide +kernel
theorem dX1_fireSets_13 : decode cX1_fireSets 13 = .ok (.invokevirtual 68, 3) := by decide +kernel
theorem dX1_fireSets_16 : decode cX1_fireSets 16 = .ok (.ifCond .ne 14, 3) := by decide +kernel
theorem dX1_fireSets_19 : decode cX1_fireSets 19 = .ok (.aload_n 0, 1) := by decide +kernel
theorem dX1_fireSets_20 : decode cX1_fireSets 20 = .ok (.aload_n 1, 1) := by decide +kernel
theorem dX1_fireSets_21 : decode cX1_fireSets 21 = .ok (.invokevirtual 74, 3) := by decide +kernel
theorem dX1_fireSets_24 : decode cX1_fireSets 24 = .ok (.iinc 2 1, 3) := by decide +kernel
theorem dX1_fireSets_27 : decode cX1_fireSets 27 = .ok (.goto (-25), 3) := by decide +kernel
theorem dX1_fireSets_30 : decode cX1_fireSets 30 = .ok (.iload_n 2, 1) := by decide +kernel
theorem dX1_fireSets_31 : decode cX1_fireSets 31 = .ok (.ireturn, 1) := by decide +kernel
theorem dX1_fireUnburnt_0 : decode cX1_fireUnburnt 0 = .ok (.iconst 0, 1) := by decide +kernel
theorem dX1_fireUnburnt_1 : decode cX1_fireUnburnt 1 = .ok (.istore_n 2, 1) := by decide +kernel
theorem dX1_fireUnburnt_2 : decode cX1_fireUnburnt 2 = .ok (.iload_n 2, 1) := by decide +kernel
theorem dX1_fireUnburnt_3 : decode cX1_fireUnburnt 3 = .ok (.aload_n 0, 1) := by decide +kernel
theorem dX1_fireUnburnt_4 : decode cX1_fireUnburnt 4 = .ok (.getfield 15, 3) := by decide +kernel
theorem dX1_fireUnburnt_7 : decode cX1_fireUnburnt 7 = .ok (.getfield 33, 3) := by decide +kernel
theorem dX1_fireUnburnt_10 : decode cX1_fireUnburnt 10 = .ok (.if_icmp .ge 58, 3) := by decide +kernel
theorem dX1_fireUnburnt_13 : decode cX1_fireUnburnt 13 = .ok (.iconst 0, 1) := by decide +kernel
theorem dX1_fireUnburnt_14 : decode cX1_fireUnburnt 14 = .ok (.istore_n 3, 1) := by decide +kernel
theorem dX1_fireUnburnt_15 : decode cX1_fireUnburnt 15 = .ok (.iload_n 3, 1) := by decide +kernel
theorem dX1_fireUnburnt_16 : decode cX1_fireUnburnt 16 = .ok (.aload_n 0, 1) := by decide +kernel
theorem dX1_fireUnburnt_17 : decode cX1_fireUnburnt 17 = .ok (.getfield 15, 3) := by decide +kernel
theorem dX1_fireUnburnt_20 : decode cX1_fireUnburnt 20 = .ok (.getfield 33, 3) := by decide +kernel
theorem dX1_fireUnburnt_23 : decode cX1_fireUnburnt 23 = .ok (.if_icmp .ge 39, 3) := by decide +kernel
theorem dX1_fireUnburnt_26 : decode cX1_fireUnburnt 26 = .ok (.aload_n 0, 1) := by decide +kernel
theorem dX1_fireUnburnt_27 : decode cX1_fireUnburnt 27 = .ok (.getfield 19, 3) := by decide +kernel
theorem dX1_fireUnburnt_30 : decode cX1_fireUnburnt 30 = .ok (.iload_n 2, 1) := by decide +kernel
theorem dX1_fireUnburnt_31 : decode cX1_fireUnburnt 31 = .ok (.invokevirtual 77, 3) := by decide +kernel
theorem dX1_fireUnburnt_34 : decode cX1_fireUnburnt 34 = .ok (.ifCond .ne 22, 3) := by decide +kernel
theorem dX1_fireUnburnt_37 : decode cX1_fireUnburnt 37 = .ok (.aload_n 0, 1) := by decide +kernel
theorem dX1_fireUnburnt_38 : decode cX1_fireUnburnt 38 = .ok (.getfield 19, 3) := by decide +kernel
theorem dX1_fireUnburnt_41 : decode cX1_fireUnburnt 41 = .ok (.iload_n 3, 1) := by decide +kernel
theorem dX1_fireUnburnt_42 : decode cX1_fireUnburnt 42 = .ok (.invokevirtual 77, 3) := by decide +kernel
theorem dX1_fireUnburnt_45 : decode cX1_fireUnburnt 45 = .ok (.ifCond .eq 11, 3) := by decide +kernel
theorem dX1_fireUnburnt_48 : decode cX1_fireUnburnt 48 = .ok (.aload_n 0, 1) := by decide +kernel
theorem dX1_fireUnburnt_49 : decode cX1_fireUnburnt 49 = .ok (.aload_n 1, 1) := by decide +kernel
theorem dX1_fireUnburnt_50 : decode cX1_fireUnburnt 50 = .ok (.iload_n 2, 1) := by decide +kernel
theorem dX1_fireUnburnt_51 : decode cX1_fireUnburnt 51 = .ok (.iload_n 3, 1) := by decide +kernel
theorem dX1_fireUnburnt_52 : decode cX1_fireUnburnt 52 = .ok (.iconst 1, 1) := by decide +kernel
theorem dX1_fireUnburnt_53 : decode cX1_fireUnburnt 53 = .ok (.invokevirtual 44, 3) := by decide +kernel
theorem dX1_fireUnburnt_56 : decode cX1_fireUnburnt 56 = .ok (.iinc 3 1, 3) := by decide +kernel
theorem dX1_fireUnburnt_59 : decode cX1_fireUnburnt 59 = .ok (.goto (-44), 3) := by decide +kernel
theorem dX1_fireUnburnt_62 : decode cX1_fireUnburnt 62 = .ok (.iinc 2 1, 3) := by decide +kernel
theorem dX1_fireUnburnt_65 : decode cX1_fireUnburnt 65 = .ok (.goto (-63), 3) := by decide +kernel
theorem dX1_fireUnburnt_68 : decode cX1_fireUnburnt 68 = .ok (.return_, 1) := by decide +kernel
theorem dX1_toRecurrent_0 : decode cX1_toRecurrent 0 = .ok (.aload_n 0, 1) := by decide +kernel
theorem dX1_toRecurrent_1 : decode cX1_toRecurrent 1 = .ok (.aload_n 1, 1) := by decide +kernel
theorem dX1_toRecurrent_2 : decode cX1_toRecurrent 2 = .ok (.invokevirtual 80, 3) := by decide +kernel
theorem dX1_toRecurrent_5 : decode cX1_toRecurrent 5 = .ok (.pop, 1) := by decide +kernel
theorem dX1_toRecurrent_6 : decode cX1_toRecurrent 6 = .ok (.aload_n 0, 1) := by decide +kernel
theorem dX1_toRecurrent_7 : decode cX1_toRecurrent 7 = .ok (.aload_n 1, 1) := by decide +kernel
theorem dX1_toRecurrent_8 : decode cX1_toRecurrent 8 = .ok (.invokevirtual 84, 3) := by decide +kernel
theorem dX1_toRecurrent_11 : decode cX1_toRecurrent 11 = .ok (.aload_n 0, 1) := by decide +kernel
theorem dX1_toRecurrent_12 : decode cX1_toRecurrent 12 = .ok (.aload_n 1, 1) := by decide +kernel
theorem dX1_toRecurrent_13 : decode cX1_toRecurrent 13 = .ok (.invokevirtual 87, 3) := by decide +kernel
theorem dX1_toRecurrent_16 : decode cX1_toRecurrent 16 = .ok (.pop, 1) := by decide +kernel
theorem dX1_toRecurrent_17 : decode cX1_toRecurrent 17 = .ok (.aload_n 0, 1) := by decide +kernel
theorem dX1_toRecurrent_18 : decode cX1_toRecurrent 18 = .ok (.aload_n 1, 1) := by decide +kernel
theorem dX1_toRecurrent_19 : decode cX1_toRecurrent 19 = .ok (.invokevirtual 84, 3) := by decide +kernel
theorem dX1_toRecurrent_22 : decode cX1_toRecurrent 22 = .ok (.return_, 1) := by decide +kernel
theorem dX1_mirror_0 : decode cX1_mirror 0 = .ok (.iconst 0, 1) := by decide +kernel
theorem dX1_mirror_1 : decode cX1_mirror 1 = .ok (.istore_n 2, 1) := by decide +kernel
theorem dX1_mirror_2 : decode cX1_mirror 2 = .ok (.iload_n 2, 1) := by decide +kernel
theorem dX1_mirror_3 : decode cX1_mirror 3 = .ok (.aload_n 0, 1) := by decide +kernel
theorem dX1_mirror_4 : decode cX1_mirror 4 = .ok (.getfield 15, 3) := by decide +kernel
theorem dX1_mirror_7 : decode cX1_mirror 7 = .ok (.getfield 33, 3) := by decide +kernel
theorem dX1_mirror_10 : decode cX1_mirror 10 = .ok (.if_icmp .ge 37, 3) := by decide +kernel
theorem dX1_mirror_13 : decode cX1_mirror 13 = .ok (.iload_n 2, 1) := by decide +kernel
theorem dX1_mirror_14 : decode cX1_mirror 14 = .ok (.aload_n 0, 1) := by decide +kernel
theorem dX1_mirror_15 : decode cX1_mirror 15 = .ok (.getfield 15, 3) := by decide +kernel
theorem dX1_mirror_18 : decode cX1_mirror 18 = .ok (.getfield 52, 3) := by decide +kernel
theorem dX1_mirror_21 : decode cX1_mirror 21 = .ok (.if_icmp .eq 20, 3) := by decide +kernel
theorem dX1_mirror_24 : decode cX1_mirror 24 = .ok (.aload_n 1, 1) := by decide +kernel
theorem dX1_mirror_25 : decode cX1_mirror 25 = .ok (.iload_n 2, 1) := by decide +kernel
theorem dX1_mirror_26 : decode cX1_mirror 26 = .ok (.aload_n 0, 1) := by decide +kernel
theorem dX1_mirror_27 : decode cX1_mirror 27 = .ok (.getfield 15, 3) := by decide +kernel
theorem dX1_mirror_30 : decode cX1_mirror 30 = .ok (.iload_n 2, 1) := by decide +kernel
theorem dX1_mirror_31 : decode cX1_mirror 31 = .ok (.invokevirtual 23, 3) := by decide +kernel
theorem dX1_mirror_34 : decode cX1_mirror 34 = .ok (.iconst 1, 1) := by decide +kernel
theorem dX1_mirror_35 : decode cX1_mirror 35 = .ok (.isub, 1) := by decide +kernel
theorem dX1_mirror_36 : decode cX1_mirror 36 = .ok (.aload_n 1, 1) := by decide +kernel
theorem dX1_mirror_37 : decode cX1_mirror 37 = .ok (.iload_n 2, 1) := by decide +kernel
theorem dX1_mirror_38 : decode cX1_mirror 38 = .ok (.iaload, 1) := by decide +kernel
theorem dX1_mirror_39 : decode cX1_mirror 39 = .ok (.isub, 1) := by decide +kernel
theorem dX1_mirror_40 : decode cX1_mirror 40 = .ok (.iastore, 1) := by decide +kernel
theorem dX1_mirror_41 : decode cX1_mirror 41 = .ok (.iinc 2 1, 3) := by decide +kernel
theorem dX1_mirror_44 : decode cX1_mirror 44 = .ok (.goto (-42), 3) := by decide +kernel
theorem dX1_mirror_47 : decode cX1_mirror 47 = .ok (.return_, 1) := by decide +kernel
set_option maxRecDepth 20000 in
theorem e_Fi_canFire {n : Nat} {k1 : Nat} {x2 : Int} (hk1 : ar (SL n) k1 1 8) {s : Sto} {Q : Int → Sto → Prop} (hT : ∃ Q1 : Int → Sto → Prop, K_Gr_degreeOf n x2 s Q1 ∧ ∀ r4 s3, Q1 r4 s3 → ∃ Q6 : Int → Sto → Prop, K_Gr_hasChipsAt n x2 s3 Q6 ∧ ∀ r9 s8, Q6 r9 s8 → (-2147483648 ≤ r9 ∧ r9 < 2147483648) ∧ ((r9 = 0) → Q 0 s8) ∧ ((¬ r9 = 0) → (-2147483648 ≤ r4 ∧ r4 < 2147483648) ∧ ((r4 ≤ 0) → Q 0 s8) ∧ ((0 < r4) → (0 ≤ x2 ∧ x2 < 8) ∧ ((-2147483648 ≤ (s8 k1 (Int.toNat x2)) ∧ (s8 k1 (Int.toNat x2)) < 2147483648) ∧ -2147483648 ≤ r4 ∧ r4 < 2147483648) ∧ (((s8 k1 (Int.toNat x2)) < r4) → Q 0 s8) ∧ ((r4 ≤ (s8 k1 (Int.toNat x2))) → Q 1 s8)))) : K_Fi_canFire n k1 x2 s Q := by
  refine Sp.body (by decide +kernel) (Nat.le_of_ble_eq_true rfl) ?_
  show Go (SL n) M_Fi_canFire (fI Q) 0 0 0 [(0, .ref 40), (1, .ref k1), (2, iV x2)] [] s
  refine g_aload_n (npc := 1) dX1_canFire_0 rfl rfl rfl ?_
  refine gf_Fi_15 (npc := 4) dX1_canFire_1 rfl rfl ?_
  refine g_iload_n (npc := 5) dX1_canFire_4 rfl rfl rfl ?_
  obtain ⟨Q1, h2, hT⟩ := hT
  refine iv_Fi_23 (npc := 8) dX1_canFire_5 rfl rfl (Nat.le_of_ble_eq_true rfl) (by decide) (by decide) h2 (fun r4 s3 e5 => ?_)
  replace hT := hT r4 s3 e5
  refine g_istore_n (npc := 9) (l' := [(0, .ref 40), (1, .ref k1), (2, iV x2), (3, iV r4)]) dX1_canFire_8 rfl rfl (by decide) rfl ?_
  refine g_aload_n (npc := 10) dX1_canFire_9 rfl rfl rfl ?_
  refine gf_Fi_15 (npc := 13) dX1_canFire_10 rfl rfl ?_
  refine g_iload_n (npc := 14) dX1_canFire_13 rfl rfl rfl ?_
  obtain ⟨Q6, h7, hT⟩ := hT
  refine iv_Fi_29 (npc := 17) dX1_canFire_14 rfl rfl (Nat.le_of_ble_eq_true rfl) (by decide) (by decide) h7 (fun r9 s8 e10 => ?_)
  replace hT := hT r9 s8 e10
  obtain ⟨h11, hTt, hTf⟩ := hT
  refine g_if_eq (npc := 20) (tgt := 35) dX1_canFire_17 rfl (by decide) h11 (fun c12 => ?_) (fun c12 => ?_)
  · replace hT := hTt c12
    refine g_iconst (npc := 36) dX1_canFire_35 rfl ?_
    exact g_iret dX1_canFire_36 rfl (by decide) (by decide) ⟨_, rfl, hT⟩
  · replace hT := hTf c12
    refine g_iload_n (npc := 21) dX1_canFire_20 rfl rfl rfl ?_
    obtain ⟨h13, hTt, hTf⟩ := hT
    refine g_if_le (npc := 24) (tgt := 35) dX1_canFire_21 rfl (by decide) h13 (fun c14 => ?_) (fun c14 => ?_)
    · replace hT := hTt c14
      refine g_iconst (npc := 36) dX1_canFire_35 rfl ?_
      exact g_iret dX1_canFire_36 rfl (by decide) (by decide) ⟨_, rfl, hT⟩
    · replace hT := hTf (Int.not_le.mp c14)
      refine g_aload_n (npc := 25) dX1_canFire_24 rfl rfl rfl ?_
      refine g_iload_n (npc := 26) dX1_canFire_25 rfl rfl rfl ?_
      obtain ⟨h15, hT⟩ := hT
      refine g_iald (npc := 27) dX1_canFire_26 rfl hk1 h15 ?_
      refine g_iload_n (npc := 28) dX1_canFire_27 rfl rfl rfl ?_
      obtain ⟨h16, hTt, hTf⟩ := hT
      refine g_icmp_lt (npc := 31) (tgt := 35) dX1_canFire_28 rfl (by decide) h16 (fun c17 => ?_) (fun c17 => ?_)
      · replace hT := hTt c17
        refine g_iconst (npc := 36) dX1_canFire_35 rfl ?_
        exact g_iret dX1_canFire_36 rfl (by decide) (by decide) ⟨_, rfl, hT⟩
      · replace hT := hTf (Int.not_lt.mp c17)
        refine g_iconst (npc := 32) dX1_canFire_31 rfl ?_
        refine g_goto (npc := 36) dX1_canFire_32 (by decide) ?_
        exact g_iret dX1_canFire_36 rfl (by decide) (by decide) ⟨_, rfl, hT⟩
abbrev H_Fi_isStable_2 (n : Nat) (Q : Int → Sto → Prop) (k1 : Nat) (x2 : Int) (s : Sto) : Prop := Go (SL n) M_Fi_isStable (fI Q) 0 0 2 [(0, .ref 40), (1, .ref k1), (2, iV x2)] [] s
set_option maxRecDepth 20000 in
theorem b_Fi_isStable_2 {n : Nat} {Q : Int → Sto → Prop} {k1 : Nat} {x2 : Int} (hk1 : ar (SL n) k1 1 8) {s : Sto} (hT : ((-2147483648 ≤ x2 ∧ x2 < 2147483648) ∧ -2147483648 ≤ (s 1 0) ∧ (s 1 0) < 2147483648) ∧ (((s 1 0) ≤ x2) → Q 1 s) ∧ ((x2 < (s 1 0)) → ∃ Q3 : Int → Sto → Prop, K_Fi_canFire n k1 x2 s Q3 ∧ ∀ r6 s5, Q3 r6 s5 → (-2147483648 ≤ r6 ∧ r6 < 2147483648) ∧ ((r6 = 0) → H_Fi_isStable_2 n Q k1 (x2 + 1) s5) ∧ ((¬ r6 = 0) → Q 0 s5))) : H_Fi_isStable_2 n Q k1 x2 s := by
  refine g_iload_n (npc := 3) dX1_isStable_2 rfl rfl rfl ?_
  refine g_aload_n (npc := 4) dX1_isStable_3 rfl rfl rfl ?_
  refine gf_Fi_15 (npc := 7) dX1_isStable_4 rfl rfl ?_
  refine gf_Fi_33 (npc := 10) dX1_isStable_7 rfl rfl ?_
  obtain ⟨h1, hTt, hTf⟩ := hT
  refine g_icmp_ge (npc := 13) (tgt := 30) dX1_isStable_10 rfl (by decide) h1 (fun c2 => ?_) (fun c2 => ?_)
  · replace hT := hTt c2
    refine g_iconst (npc := 31) dX1_isStable_30 rfl ?_
    exact g_iret dX1_isStable_31 rfl (by decide) (by decide) ⟨_, rfl, hT⟩
  · replace hT := hTf (Int.not_le.mp c2)
    refine g_aload_n (npc := 14) dX1_isStable_13 rfl rfl rfl ?_
    refine g_aload_n (npc := 15) dX1_isStable_14 rfl rfl rfl ?_
    refine g_iload_n (npc := 16) dX1_isStable_15 rfl rfl rfl ?_
    obtain ⟨Q3, h4, hT⟩ := hT
    refine iv_Fi_37 (npc := 19) dX1_isStable_16 rfl rfl (Nat.le_of_ble_eq_true rfl) (by decide) (by decide) h4 (fun r6 s5 e7 => ?_)
    replace hT := hT r6 s5 e7
    obtain ⟨h8, hTt, hTf⟩ := hT
    refine g_if_eq (npc := 22) (tgt := 24) dX1_isStable_19 rfl (by decide) h8 (fun c9 => ?_) (fun c9 => ?_)
    · replace hT := hTt c9
      refine g_iinc (npc := 27) (y := (x2 + 1)) (l' := [(0, .ref 40), (1, .ref k1), (2, iV (x2 + 1))]) dX1_isStable_24 rfl (by decide) rfl (by omega) rfl ?_
      refine g_goto (npc := 2) dX1_isStable_27 (by decide) ?_
      exact hT
    · replace hT := hTf c9
      refine g_iconst (npc := 23) dX1_isStable_22 rfl ?_
      exact g_iret dX1_isStable_23 rfl (by decide) (by decide) ⟨_, rfl, hT⟩
set_option maxRecDepth 20000 in
theorem e_Fi_isStable {n : Nat} {k1 : Nat} (hk1 : ar (SL n) k1 1 8) {s : Sto} {Q : Int → Sto → Prop} (hT : H_Fi_isStable_2 n Q k1 0 s) : K_Fi_isStable n k1 s Q := by
  refine Sp.body (by decide +kernel) (Nat.le_of_ble_eq_true rfl) ?_
  show Go (SL n) M_Fi_isStable (fI Q) 0 0 0 [(0, .ref 40), (1, .ref k1)] [] s
  refine g_iconst (npc := 1) dX1_isStable_0 rfl ?_
  refine g_istore_n (npc := 2) (l' := [(0, .ref 40), (1, .ref k1), (2, iV 0)]) dX1_isStable_1 rfl rfl (by decide) rfl ?_
  exact hT
set_option maxRecDepth 20000 in
theorem e_Fi_giveAlong {n : Nat} {k1 : Nat} {x2 : Int} {x3 : Int} {x4 : Int} (hk1 : ar (SL n) k1 1 8) {s : Sto} {Q : Sto → Prop} (hT : (0 ≤ x2 ∧ x2 < 8) ∧ (0 ≤ x3 ∧ x3 < 8) ∧ (0 ≤ x2 ∧ x2 < 8) ∧ (0 ≤ x2 ∧ x2 < 8) ∧ ∀ s5, s5 = up s k1 (Int.toNat x2) ((s k1 (Int.toNat x2)) - (x4 * (s (5 + Int.toNat x2) (Int.toNat x3)))) → ((-2147483648 ≤ x3 ∧ x3 < 2147483648) ∧ -2147483648 ≤ (s5 1 2) ∧ (s5 1 2) < 2147483648) ∧ ((x3 = (s5 1 2)) → Q s5) ∧ ((¬ x3 = (s5 1 2)) → (0 ≤ x3 ∧ x3 < 8) ∧ (0 ≤ x3 ∧ x3 < 8) ∧ ∀ s10, s10 = up s5 k1 (Int.toNat x3) ((s5 k1 (Int.toNat x3)) + (x4 * (s (5 + Int.toNat x2) (Int.toNat x3)))) → Q s10)) : K_Fi_giveAlong n k1 x2 x3 x4 s Q := by
  refine Sp.body (by decide +kernel) (Nat.le_of_ble_eq_true rfl) ?_
  show Go (SL n) M_Fi_giveAlong (fV0 Q) 0 0 0 [(0, .ref 40), (1, .ref k1), (2, iV x2), (3, iV x3), (4, iV x4)] [] s
  refine g_iload (npc := 2) dX1_giveAlong_0 rfl rfl ?_
  refine g_aload_n (npc := 3) dX1_giveAlong_2 rfl rfl rfl ?_
  refine gf_Fi_15 (npc := 6) dX1_giveAlong_3 rfl rfl ?_
  refine gf_Fi_48 (npc := 9) dX1_giveAlong_6 rfl rfl ?_
  refine g_iload_n (npc := 10) dX1_giveAlong_9 rfl rfl rfl ?_
  obtain ⟨h1, hT⟩ := hT
  refine g_aald5 (npc := 11) dX1_giveAlong_10 rfl (arSL arSC_4) h1 (frSC_4 h1) ?_
  refine g_iload_n (npc := 12) dX1_giveAlong_11 rfl rfl rfl ?_
  obtain ⟨h2, hT⟩ := hT
  refine g_iald (npc := 13) dX1_giveAlong_12 rfl (arSL (rwSC_4 h1)) h2 ?_
  refine g_imul (npc := 14) dX1_giveAlong_13 rfl ?_
  refine g_istore (npc := 16) (l' := [(0, .ref 40), (1, .ref k1), (2, iV x2), (3, iV x3), (4, iV x4), (5, iV (x4 * (s (5 + Int.toNat x2) (Int.toNat x3))))]) dX1_giveAlong_14 rfl (by decide) rfl ?_
  refine g_aload_n (npc := 17) dX1_giveAlong_16 rfl rfl rfl ?_
  refine g_iload_n (npc := 18) dX1_giveAlong_17 rfl rfl rfl ?_
  refine g_dup2 (npc := 19) dX1_giveAlong_18 rfl rfl rfl ?_
  obtain ⟨h3, hT⟩ := hT
  refine g_iald (npc := 20) dX1_giveAlong_19 rfl hk1 h3 ?_
  refine g_iload (npc := 22) dX1_giveAlong_20 rfl rfl ?_
  refine g_isub (npc := 23) dX1_giveAlong_22 rfl ?_
  obtain ⟨h4, hT⟩ := hT
  replace hT := hT _ rfl
  refine g_iast (npc := 24) dX1_giveAlong_23 rfl hk1 h4  ?_
  refine g_iload_n (npc := 25) dX1_giveAlong_24 rfl rfl rfl ?_
  refine g_aload_n (npc := 26) dX1_giveAlong_25 rfl rfl rfl ?_
  refine gf_Fi_15 (npc := 29) dX1_giveAlong_26 rfl rfl ?_
  refine gf_Fi_52 (npc := 32) dX1_giveAlong_29 rfl rfl ?_
  obtain ⟨h6, hTt, hTf⟩ := hT
  refine g_icmp_eq (npc := 35) (tgt := 43) dX1_giveAlong_32 rfl (by decide) h6 (fun c7 => ?_) (fun c7 => ?_)
  · replace hT := hTt c7
    exact g_ret dX1_giveAlong_43 rfl (by decide) ⟨rfl, hT⟩
  · replace hT := hTf c7
    refine g_aload_n (npc := 36) dX1_giveAlong_35 rfl rfl rfl ?_
    refine g_iload_n (npc := 37) dX1_giveAlong_36 rfl rfl rfl ?_
    refine g_dup2 (npc := 38) dX1_giveAlong_37 rfl rfl rfl ?_
    obtain ⟨h8, hT⟩ := hT
    refine g_iald (npc := 39) dX1_giveAlong_38 rfl hk1 h8 ?_
    refine g_iload (npc := 41) dX1_giveAlong_39 rfl rfl ?_
    refine g_iadd (npc := 42) dX1_giveAlong_41 rfl ?_
    obtain ⟨h9, hT⟩ := hT
    replace hT := hT _ rfl
    refine g_iast (npc := 43) dX1_giveAlong_42 rfl hk1 h9  ?_
    exact g_ret dX1_giveAlong_43 rfl (by decide) ⟨rfl, hT⟩
abbrev H_Fi_give_15 (n : Nat) (Q : Sto → Prop) (k1 : Nat) (x2 : Int) (x3 : Int) (x4 : Int) (s : Sto) : Prop := Go (SL n) M_Fi_give (fV0 Q) 0 0 15 [(0, .ref 40), (1, .ref k1), (2, iV x2), (3, iV x3), (4, iV x4)] [] s
set_option maxRecDepth 20000 in
theorem b_Fi_give_15 {n : Nat} {Q : Sto → Prop} {k1 : Nat} {x2 : Int} {x3 : Int} {x4 : Int} (hk1 : ar (SL n) k1 1 8) {s : Sto} (hT : ((-2147483648 ≤ x4 ∧ x4 < 2147483648) ∧ -2147483648 ≤ (s 1 0) ∧ (s 1 0) < 2147483648) ∧ (((s 1 0) ≤ x4) → Q s) ∧ ((x4 < (s 1 0)) → ∃ Q10 : Sto → Prop, K_Fi_giveAlong n k1 x2 x4 x3 s Q10 ∧ ∀ s12, Q10 s12 → H_Fi_give_15 n Q k1 x2 x3 (x4 + 1) s12)) : H_Fi_give_15 n Q k1 x2 x3 x4 s := by
  refine g_iload (npc := 17) dX1_give_15 rfl rfl ?_
  refine g_aload_n (npc := 18) dX1_give_17 rfl rfl rfl ?_
  refine gf_Fi_15 (npc := 21) dX1_give_18 rfl rfl ?_
  refine gf_Fi_33 (npc := 24) dX1_give_21 rfl rfl ?_
  obtain ⟨h8, hTt, hTf⟩ := hT
  refine g_icmp_ge (npc := 27) (tgt := 42) dX1_give_24 rfl (by decide) h8 (fun c9 => ?_) (fun c9 => ?_)
  · replace hT := hTt c9
    exact g_ret dX1_give_42 rfl (by decide) ⟨rfl, hT⟩
  · replace hT := hTf (Int.not_le.mp c9)
    refine g_aload_n (npc := 28) dX1_give_27 rfl rfl rfl ?_
    refine g_aload_n (npc := 29) dX1_give_28 rfl rfl rfl ?_
    refine g_iload_n (npc := 30) dX1_give_29 rfl rfl rfl ?_
    refine g_iload (npc := 32) dX1_give_30 rfl rfl ?_
    refine g_iload_n (npc := 33) dX1_give_32 rfl rfl rfl ?_
    obtain ⟨Q10, h11, hT⟩ := hT
    refine iv_Fi_44 (npc := 36) dX1_give_33 rfl rfl (Nat.le_of_ble_eq_true rfl) (by decide) (by decide) h11 (fun s12 e14 => ?_)
    replace hT := hT s12 e14
    refine g_iinc (npc := 39) (y := (x4 + 1)) (l' := [(0, .ref 40), (1, .ref k1), (2, iV x2), (3, iV x3), (4, iV (x4 + 1))]) dX1_give_36 rfl (by decide) rfl (by omega) rfl ?_
    refine g_goto (npc := 15) dX1_give_39 (by decide) ?_
    exact hT
set_option maxRecDepth 20000 in
theorem e_Fi_give {n : Nat} {k1 : Nat} {x2 : Int} {x3 : Int} (hk1 : ar (SL n) k1 1 8) {s : Sto} {Q : Sto → Prop} (hT : ∃ Q1 : Int → Sto → Prop, K_Gr_hasNode n x2 s Q1 ∧ ∀ r4 s3, Q1 r4 s3 → (-2147483648 ≤ r4 ∧ r4 < 2147483648) ∧ ((¬ r4 = 0) → H_Fi_give_15 n Q k1 x2 x3 0 s3) ∧ ((r4 = 0) → Q s3)) : K_Fi_give n k1 x2 x3 s Q := by
  refine Sp.body (by decide +kernel) (Nat.le_of_ble_eq_true rfl) ?_
  show Go (SL n) M_Fi_give (fV0 Q) 0 0 0 [(0, .ref 40), (1, .ref k1), (2, iV x2), (3, iV x3)] [] s
  refine g_aload_n (npc := 1) dX1_give_0 rfl rfl rfl ?_
  refine gf_Fi_15 (npc := 4) dX1_give_1 rfl rfl ?_
  refine g_iload_n (npc := 5) dX1_give_4 rfl rfl rfl ?_
  obtain ⟨Q1, h2, hT⟩ := hT
  refine iv_Fi_41 (npc := 8) dX1_give_5 rfl rfl (Nat.le_of_ble_eq_true rfl) (by decide) (by decide) h2 (fun r4 s3 e5 => ?_)
  replace hT := hT r4 s3 e5
  obtain ⟨h6, hTt, hTf⟩ := hT
  refine g_if_ne (npc := 11) (tgt := 12) dX1_give_8 rfl (by decide) h6 (fun c7 => ?_) (fun c7 => ?_)
  · replace hT := hTt c7
    refine g_iconst (npc := 13) dX1_give_12 rfl ?_
    refine g_istore (npc := 15) (l' := [(0, .ref 40), (1, .ref k1), (2, iV x2), (3, iV x3), (4, iV 0)]) dX1_give_13 rfl (by decide) rfl ?_
    exact hT
  · replace hT := hTf (Decidable.not_not.mp c7)
    exact g_ret dX1_give_11 rfl (by decide) ⟨rfl, hT⟩
set_option maxRecDepth 20000 in
theorem e_Fi_fireWhilePossible {n : Nat} {k1 : Nat} {x2 : Int} (hk1 : ar (SL n) k1 1 8) {s : Sto} {Q : Int → Sto → Prop} (hT : ∃ Q1 : Int → Sto → Prop, K_Gr_degreeOf n x2 s Q1 ∧ ∀ r4 s3, Q1 r4 s3 → ∃ Q6 : Int → Sto → Prop, K_Fi_canFire n k1 x2 s3 Q6 ∧ ∀ r9 s8, Q6 r9 s8 → (-2147483648 ≤ r9 ∧ r9 < 2147483648) ∧ ((r9 = 0) → Q 0 s8) ∧ ((¬ r9 = 0) → (-2147483648 ≤ r4 ∧ r4 < 2147483648) ∧ ((0 < r4) → (0 ≤ x2 ∧ x2 < 8) ∧ (((-2147483648 ≤ (s8 k1 (Int.toNat x2)) ∧ (s8 k1 (Int.toNat x2)) < 2147483648) ∧ -2147483648 ≤ r4 ∧ r4 < 2147483648) ∧ ¬ r4 = 0) ∧ ∃ Q17 : Sto → Prop, K_Fi_give n k1 x2 (Int.tdiv (s8 k1 (Int.toNat x2)) r4) s8 Q17 ∧ ∀ s19, Q17 s19 → (0 ≤ x2 ∧ x2 < 8) ∧ (0 ≤ x2 ∧ x2 < 8) ∧ ∀ s24, s24 = up s19 41 (Int.toNat x2) ((s19 41 (Int.toNat x2)) + (Int.tdiv (s8 k1 (Int.toNat x2)) r4)) → Q (Int.tdiv (s8 k1 (Int.toNat x2)) r4) s24) ∧ ((r4 ≤ 0) → Q 0 s8))) : K_Fi_fireWhilePossible n k1 x2 s Q := by
  refine Sp.body (by decide +kernel) (Nat.le_of_ble_eq_true rfl) ?_
  show Go (SL n) M_Fi_fireWhilePossible (fI Q) 0 0 0 [(0, .ref 40), (1, .ref k1), (2, iV x2)] [] s
  refine g_aload_n (npc := 1) dX1_fireWhilePossible_0 rfl rfl rfl ?_
  refine gf_Fi_15 (npc := 4) dX1_fireWhilePossible_1 rfl rfl ?_
  refine g_iload_n (npc := 5) dX1_fireWhilePossible_4 rfl rfl rfl ?_
  obtain ⟨Q1, h2, hT⟩ := hT
  refine iv_Fi_23 (npc := 8) dX1_fireWhilePossible_5 rfl rfl (Nat.le_of_ble_eq_true rfl) (by decide) (by decide) h2 (fun r4 s3 e5 => ?_)
  replace hT := hT r4 s3 e5
  refine g_istore_n (npc := 9) (l' := [(0, .ref 40), (1, .ref k1), (2, iV x2), (3, iV r4)]) dX1_fireWhilePossible_8 rfl rfl (by decide) rfl ?_
  refine g_aload_n (npc := 10) dX1_fireWhilePossible_9 rfl rfl rfl ?_
  refine g_aload_n (npc := 11) dX1_fireWhilePossible_10 rfl rfl rfl ?_
  refine g_iload_n (npc := 12) dX1_fireWhilePossible_11 rfl rfl rfl ?_
  obtain ⟨Q6, h7, hT⟩ := hT
  refine iv_Fi_37 (npc := 15) dX1_fireWhilePossible_12 rfl rfl (Nat.le_of_ble_eq_true rfl) (by decide) (by decide) h7 (fun r9 s8 e10 => ?_)
  replace hT := hT r9 s8 e10
  obtain ⟨h11, hTt, hTf⟩ := hT
  refine g_if_eq (npc := 18) (tgt := 22) dX1_fireWhilePossible_15 rfl (by decide) h11 (fun c12 => ?_) (fun c12 => ?_)
  · replace hT := hTt c12
    refine g_iconst (npc := 23) dX1_fireWhilePossible_22 rfl ?_
    exact g_iret dX1_fireWhilePossible_23 rfl rfl (by decide) ⟨_, rfl, hT⟩
  · replace hT := hTf c12
    refine g_iload_n (npc := 19) dX1_fireWhilePossible_18 rfl rfl rfl ?_
    obtain ⟨h13, hTt, hTf⟩ := hT
    refine g_if_gt (npc := 22) (tgt := 24) dX1_fireWhilePossible_19 rfl (by decide) h13 (fun c14 => ?_) (fun c14 => ?_)
    · replace hT := hTt c14
      refine g_aload_n (npc := 25) dX1_fireWhilePossible_24 rfl rfl rfl ?_
      refine g_iload_n (npc := 26) dX1_fireWhilePossible_25 rfl rfl rfl ?_
      obtain ⟨h15, hT⟩ := hT
      refine g_iald (npc := 27) dX1_fireWhilePossible_26 rfl hk1 h15 ?_
      refine g_iload_n (npc := 28) dX1_fireWhilePossible_27 rfl rfl rfl ?_
      obtain ⟨h16, hT⟩ := hT
      refine g_idiv (npc := 29) dX1_fireWhilePossible_28 rfl h16.1 h16.2 ?_
      refine g_istore (npc := 31) (l' := [(0, .ref 40), (1, .ref k1), (2, iV x2), (3, iV r4), (4, iV (Int.tdiv (s8 k1 (Int.toNat x2)) r4))]) dX1_fireWhilePossible_29 rfl (by decide) rfl ?_
      refine g_aload_n (npc := 32) dX1_fireWhilePossible_31 rfl rfl rfl ?_
      refine g_aload_n (npc := 33) dX1_fireWhilePossible_32 rfl rfl rfl ?_
      refine g_iload_n (npc := 34) dX1_fireWhilePossible_33 rfl rfl rfl ?_
      refine g_iload (npc := 36) dX1_fireWhilePossible_34 rfl rfl ?_
      obtain ⟨Q17, h18, hT⟩ := hT
      refine iv_Fi_64 (npc := 39) dX1_fireWhilePossible_36 rfl rfl (Nat.le_of_ble_eq_true rfl) (by decide) (by decide) h18 (fun s19 e21 => ?_)
      replace hT := hT s19 e21
      refine g_aload_n (npc := 40) dX1_fireWhilePossible_39 rfl rfl rfl ?_
      refine gf_Fi_9 (npc := 43) dX1_fireWhilePossible_40 rfl rfl ?_
      refine g_iload_n (npc := 44) dX1_fireWhilePossible_43 rfl rfl rfl ?_
      refine g_dup2 (npc := 45) dX1_fireWhilePossible_44 rfl rfl rfl ?_
      obtain ⟨h22, hT⟩ := hT
      refine g_iald (npc := 46) dX1_fireWhilePossible_45 rfl (arSL arSC_41) h22 ?_
      refine g_iload (npc := 48) dX1_fireWhilePossible_46 rfl rfl ?_
      refine g_iadd (npc := 49) dX1_fireWhilePossible_48 rfl ?_
      obtain ⟨h23, hT⟩ := hT
      replace hT := hT _ rfl
      refine g_iast (npc := 50) dX1_fireWhilePossible_49 rfl (arSL arSC_41) h23  ?_
      refine g_iload (npc := 52) dX1_fireWhilePossible_50 rfl rfl ?_
      exact g_iret dX1_fireWhilePossible_52 rfl rfl (by decide) ⟨_, rfl, hT⟩
    · replace hT := hTf (Int.not_lt.mp c14)
      refine g_iconst (npc := 23) dX1_fireWhilePossible_22 rfl ?_
      exact g_iret dX1_fireWhilePossible_23 rfl rfl (by decide) ⟨_, rfl, hT⟩
abbrev H_Fi_settle_14 (n : Nat) (Q : Int → Sto → Prop) (k1 : Nat) (x2 : Int) (x3 : Int) (x4 : Int) (s : Sto) : Prop := Go (SL n) M_Fi_settle (fI Q) 0 0 14 [(0, .ref 40), (1, .ref k1), (2, iV x2), (3, iV x3), (4, iV x4)] [] s
abbrev H_Fi_settle_30 (n : Nat) (Q : Int → Sto → Prop) (k1 : Nat) (x2 : Int) (x3 : Int) (x4 : Int) (x5 : Int) (s : Sto) : Prop := Go (SL n) M_Fi_settle (fI Q) 0 0 30 [(0, .ref 40), (1, .ref k1), (2, iV x2), (3, iV x3), (4, iV x4), (5, iV x5)] [] s
set_option maxRecDepth 20000 in
theorem b_Fi_settle_14 {n : Nat} {Q : Int → Sto → Prop} {k1 : Nat} {x2 : Int} {x3 : Int} {x4 : Int} (hk1 : ar (SL n) k1 1 8) {s : Sto} (hT : (-2147483648 ≤ x3 ∧ x3 < 2147483648) ∧ ((x3 ≤ 0) → Q x2 s) ∧ ((0 < x3) → (-2147483648 ≤ x4 ∧ x4 < 2147483648) ∧ ((1000000 ≤ x4) → Q x2 s) ∧ ((x4 < 1000000) → H_Fi_settle_30 n Q k1 x2 0 x4 0 s))) : H_Fi_settle_14 n Q k1 x2 x3 x4 s := by
  refine g_iload_n (npc := 15) dX1_settle_14 rfl rfl rfl ?_
  obtain ⟨h6, hTt, hTf⟩ := hT
  refine g_if_le (npc := 18) (tgt := 68) dX1_settle_15 rfl (by decide) h6 (fun c7 => ?_) (fun c7 => ?_)
  · replace hT := hTt c7
    refine g_iload_n (npc := 69) dX1_settle_68 rfl rfl rfl ?_
    exact g_iret dX1_settle_69 rfl rfl (by decide) ⟨_, rfl, hT⟩
  · replace hT := hTf (Int.not_le.mp c7)
    refine g_iload (npc := 20) dX1_settle_18 rfl rfl ?_
    refine g_ldc (npc := 22) (x := 1000000) dX1_settle_20 rfl tw_506 ?_
    obtain ⟨h8, hTt, hTf⟩ := hT
    refine g_icmp_ge (npc := 25) (tgt := 68) dX1_settle_22 rfl (by decide) ⟨h8, by decide, by decide⟩ (fun c9 => ?_) (fun c9 => ?_)
    · replace hT := hTt c9
      refine g_iload_n (npc := 69) dX1_settle_68 rfl rfl rfl ?_
      exact g_iret dX1_settle_69 rfl rfl (by decide) ⟨_, rfl, hT⟩
    · replace hT := hTf (Int.not_le.mp c9)
      refine g_iconst (npc := 26) dX1_settle_25 rfl ?_
      refine g_istore_n (npc := 27) (l' := [(0, .ref 40), (1, .ref k1), (2, iV x2), (3, iV 0), (4, iV x4)]) dX1_settle_26 rfl rfl (by decide) rfl ?_
      refine g_iconst (npc := 28) dX1_settle_27 rfl ?_
      refine g_istore (npc := 30) (l' := [(0, .ref 40), (1, .ref k1), (2, iV x2), (3, iV 0), (4, iV x4), (5, iV 0)]) dX1_settle_28 rfl (by decide) rfl ?_
      exact hT
set_option maxRecDepth 20000 in
theorem b_Fi_settle_30 {n : Nat} {Q : Int → Sto → Prop} {k1 : Nat} {x2 : Int} {x3 : Int} {x4 : Int} {x5 : Int} (hk1 : ar (SL n) k1 1 8) {s : Sto} (hT : ((-2147483648 ≤ x5 ∧ x5 < 2147483648) ∧ -2147483648 ≤ (s 1 0) ∧ (s 1 0) < 2147483648) ∧ (((s 1 0) ≤ x5) → H_Fi_settle_14 n Q k1 (x2 + x3) x3 (x4 + 1) s) ∧ ((x5 < (s 1 0)) → ∃ Q12 : Int → Sto → Prop, K_Fi_fireWhilePossible n k1 x5 s Q12 ∧ ∀ r15 s14, Q12 r15 s14 → H_Fi_settle_30 n Q k1 x2 (x3 + r15) x4 (x5 + 1) s14)) : H_Fi_settle_30 n Q k1 x2 x3 x4 x5 s := by
  refine g_iload (npc := 32) dX1_settle_30 rfl rfl ?_
  refine g_aload_n (npc := 33) dX1_settle_32 rfl rfl rfl ?_
  refine gf_Fi_15 (npc := 36) dX1_settle_33 rfl rfl ?_
  refine gf_Fi_33 (npc := 39) dX1_settle_36 rfl rfl ?_
  obtain ⟨h10, hTt, hTf⟩ := hT
  refine g_icmp_ge (npc := 42) (tgt := 58) dX1_settle_39 rfl (by decide) h10 (fun c11 => ?_) (fun c11 => ?_)
  · replace hT := hTt c11
    refine g_iload_n (npc := 59) dX1_settle_58 rfl rfl rfl ?_
    refine g_iload_n (npc := 60) dX1_settle_59 rfl rfl rfl ?_
    refine g_iadd (npc := 61) dX1_settle_60 rfl ?_
    refine g_istore_n (npc := 62) (l' := [(0, .ref 40), (1, .ref k1), (2, iV (x2 + x3)), (3, iV x3), (4, iV x4), (5, iV x5)]) dX1_settle_61 rfl rfl (by decide) rfl ?_
    refine g_iinc (npc := 65) (y := (x4 + 1)) (l' := [(0, .ref 40), (1, .ref k1), (2, iV (x2 + x3)), (3, iV x3), (4, iV (x4 + 1)), (5, iV x5)]) dX1_settle_62 rfl (by decide) rfl (by omega) rfl ?_
    refine g_goto (npc := 14) dX1_settle_65 (by decide) ?_
    refine Go.lsub [0, 1, 2, 3, 4] rfl ?_
    exact hT
  · replace hT := hTf (Int.not_le.mp c11)
    refine g_iload_n (npc := 43) dX1_settle_42 rfl rfl rfl ?_
    refine g_aload_n (npc := 44) dX1_settle_43 rfl rfl rfl ?_
    refine g_aload_n (npc := 45) dX1_settle_44 rfl rfl rfl ?_
    refine g_iload (npc := 47) dX1_settle_45 rfl rfl ?_
    obtain ⟨Q12, h13, hT⟩ := hT
    refine iv_Fi_60 (npc := 50) dX1_settle_47 rfl rfl (Nat.le_of_ble_eq_true rfl) (by decide) (by decide) h13 (fun r15 s14 e16 => ?_)
    replace hT := hT r15 s14 e16
    refine g_iadd (npc := 51) dX1_settle_50 rfl ?_
    refine g_istore_n (npc := 52) (l' := [(0, .ref 40), (1, .ref k1), (2, iV x2), (3, iV (x3 + r15)), (4, iV x4), (5, iV x5)]) dX1_settle_51 rfl rfl (by decide) rfl ?_
    refine g_iinc (npc := 55) (y := (x5 + 1)) (l' := [(0, .ref 40), (1, .ref k1), (2, iV x2), (3, iV (x3 + r15)), (4, iV x4), (5, iV (x5 + 1))]) dX1_settle_52 rfl (by decide) rfl (by omega) rfl ?_
    refine g_goto (npc := 30) dX1_settle_55 (by decide) ?_
    exact hT
set_option maxRecDepth 20000 in
theorem e_Fi_settle {n : Nat} {k1 : Nat} (hk1 : ar (SL n) k1 1 8) {s : Sto} {Q : Int → Sto → Prop} (hT : ∃ Q1 : Sto → Prop, K_Cg_clearChips n 41 s Q1 ∧ ∀ s3, Q1 s3 → H_Fi_settle_14 n Q k1 0 1 0 s3) : K_Fi_settle n k1 s Q := by
  refine Sp.body (by decide +kernel) (Nat.le_of_ble_eq_true rfl) ?_
  show Go (SL n) M_Fi_settle (fI Q) 0 0 0 [(0, .ref 40), (1, .ref k1)] [] s
  refine g_aload_n (npc := 1) dX1_settle_0 rfl rfl rfl ?_
  refine gf_Fi_9 (npc := 4) dX1_settle_1 rfl rfl ?_
  obtain ⟨Q1, h2, hT⟩ := hT
  refine iv_Fi_55 (npc := 7) dX1_settle_4 rfl rfl (Nat.le_of_ble_eq_true rfl) (by decide) (by decide) h2 (fun s3 e5 => ?_)
  replace hT := hT s3 e5
  refine g_iconst (npc := 8) dX1_settle_7 rfl ?_
  refine g_istore_n (npc := 9) (l' := [(0, .ref 40), (1, .ref k1), (2, iV 0)]) dX1_settle_8 rfl rfl (by decide) rfl ?_
  refine g_iconst (npc := 10) dX1_settle_9 rfl ?_
  refine g_istore_n (npc := 11) (l' := [(0, .ref 40), (1, .ref k1), (2, iV 0), (3, iV 1)]) dX1_settle_10 rfl rfl (by decide) rfl ?_
  refine g_iconst (npc := 12) dX1_settle_11 rfl ?_
  refine g_istore (npc := 14) (l' := [(0, .ref 40), (1, .ref k1), (2, iV 0), (3, iV 1), (4, iV 0)]) dX1_settle_12 rfl (by decide) rfl ?_
  exact hT
abbrev H_Fi_fireUnburnt_2 (n : Nat) (Q : Sto → Prop) (k1 : Nat) (x2 : Int) (s : Sto) : Prop := Go (SL n) M_Fi_fireUnburnt (fV0 Q) 0 0 2 [(0, .ref 40), (1, .ref k1), (2, iV x2)] [] s
abbrev H_Fi_fireUnburnt_15 (n : Nat) (Q : Sto → Prop) (k1 : Nat) (x2 : Int) (x3 : Int) (s : Sto) : Prop := Go (SL n) M_Fi_fireUnburnt (fV0 Q) 0 0 15 [(0, .ref 40), (1, .ref k1), (2, iV x2), (3, iV x3)] [] s
set_option maxRecDepth 20000 in
theorem b_Fi_fireUnburnt_2 {n : Nat} {Q : Sto → Prop} {k1 : Nat} {x2 : Int} (hk1 : ar (SL n) k1 1 8) {s : Sto} (hT : ((-2147483648 ≤ x2 ∧ x2 < 2147483648) ∧ -2147483648 ≤ (s 1 0) ∧ (s 1 0) < 2147483648) ∧ (((s 1 0) ≤ x2) → Q s) ∧ ((x2 < (s 1 0)) → H_Fi_fireUnburnt_15 n Q k1 x2 0 s)) : H_Fi_fireUnburnt_2 n Q k1 x2 s := by
  refine g_iload_n (npc := 3) dX1_fireUnburnt_2 rfl rfl rfl ?_
  refine g_aload_n (npc := 4) dX1_fireUnburnt_3 rfl rfl rfl ?_
  refine gf_Fi_15 (npc := 7) dX1_fireUnburnt_4 rfl rfl ?_
  refine gf_Fi_33 (npc := 10) dX1_fireUnburnt_7 rfl rfl ?_
  obtain ⟨h1, hTt, hTf⟩ := hT
  refine g_icmp_ge (npc := 13) (tgt := 68) dX1_fireUnburnt_10 rfl (by decide) h1 (fun c2 => ?_) (fun c2 => ?_)
  · replace hT := hTt c2
    exact g_ret dX1_fireUnburnt_68 rfl (by decide) ⟨rfl, hT⟩
  · replace hT := hTf (Int.not_le.mp c2)
    refine g_iconst (npc := 14) dX1_fireUnburnt_13 rfl ?_
    refine g_istore_n (npc := 15) (l' := [(0, .ref 40), (1, .ref k1), (2, iV x2), (3, iV 0)]) dX1_fireUnburnt_14 rfl rfl (by decide) rfl ?_
    exact hT
set_option maxRecDepth 20000 in
theorem b_Fi_fireUnburnt_15 {n : Nat} {Q : Sto → Prop} {k1 : Nat} {x2 : Int} {x3 : Int} (hk1 : ar (SL n) k1 1 8) {s : Sto} (hT : ((-2147483648 ≤ x3 ∧ x3 < 2147483648) ∧ -2147483648 ≤ (s 1 0) ∧ (s 1 0) < 2147483648) ∧ (((s 1 0) ≤ x3) → H_Fi_fireUnburnt_2 n Q k1 (x2 + 1) s) ∧ ((x3 < (s 1 0)) → ∃ Q5 : Int → Sto → Prop, K_Bu_hasBurnt n x2 s Q5 ∧ ∀ r8 s7, Q5 r8 s7 → (-2147483648 ≤ r8 ∧ r8 < 2147483648) ∧ ((¬ r8 = 0) → H_Fi_fireUnburnt_15 n Q k1 x2 (x3 + 1) s7) ∧ ((r8 = 0) → ∃ Q12 : Int → Sto → Prop, K_Bu_hasBurnt n x3 s7 Q12 ∧ ∀ r15 s14, Q12 r15 s14 → (-2147483648 ≤ r15 ∧ r15 < 2147483648) ∧ ((r15 = 0) → H_Fi_fireUnburnt_15 n Q k1 x2 (x3 + 1) s14) ∧ ((¬ r15 = 0) → ∃ Q19 : Sto → Prop, K_Fi_giveAlong n k1 x2 x3 1 s14 Q19 ∧ ∀ s21, Q19 s21 → H_Fi_fireUnburnt_15 n Q k1 x2 (x3 + 1) s21)))) : H_Fi_fireUnburnt_15 n Q k1 x2 x3 s := by
  refine g_iload_n (npc := 16) dX1_fireUnburnt_15 rfl rfl rfl ?_
  refine g_aload_n (npc := 17) dX1_fireUnburnt_16 rfl rfl rfl ?_
  refine gf_Fi_15 (npc := 20) dX1_fireUnburnt_17 rfl rfl ?_
  refine gf_Fi_33 (npc := 23) dX1_fireUnburnt_20 rfl rfl ?_
  obtain ⟨h3, hTt, hTf⟩ := hT
  refine g_icmp_ge (npc := 26) (tgt := 62) dX1_fireUnburnt_23 rfl (by decide) h3 (fun c4 => ?_) (fun c4 => ?_)
  · replace hT := hTt c4
    refine g_iinc (npc := 65) (y := (x2 + 1)) (l' := [(0, .ref 40), (1, .ref k1), (2, iV (x2 + 1)), (3, iV x3)]) dX1_fireUnburnt_62 rfl (by decide) rfl (by omega) rfl ?_
    refine g_goto (npc := 2) dX1_fireUnburnt_65 (by decide) ?_
    refine Go.lsub [0, 1, 2] rfl ?_
    exact hT
  · replace hT := hTf (Int.not_le.mp c4)
    refine g_aload_n (npc := 27) dX1_fireUnburnt_26 rfl rfl rfl ?_
    refine gf_Fi_19 (npc := 30) dX1_fireUnburnt_27 rfl rfl ?_
    refine g_iload_n (npc := 31) dX1_fireUnburnt_30 rfl rfl rfl ?_
    obtain ⟨Q5, h6, hT⟩ := hT
    refine iv_Fi_77 (npc := 34) dX1_fireUnburnt_31 rfl rfl (Nat.le_of_ble_eq_true rfl) (by decide) (by decide) h6 (fun r8 s7 e9 => ?_)
    replace hT := hT r8 s7 e9
    obtain ⟨h10, hTt, hTf⟩ := hT
    refine g_if_ne (npc := 37) (tgt := 56) dX1_fireUnburnt_34 rfl (by decide) h10 (fun c11 => ?_) (fun c11 => ?_)
    · replace hT := hTt c11
      refine g_iinc (npc := 59) (y := (x3 + 1)) (l' := [(0, .ref 40), (1, .ref k1), (2, iV x2), (3, iV (x3 + 1))]) dX1_fireUnburnt_56 rfl (by decide) rfl (by omega) rfl ?_
      refine g_goto (npc := 15) dX1_fireUnburnt_59 (by decide) ?_
      exact hT
    · replace hT := hTf (Decidable.not_not.mp c11)
      refine g_aload_n (npc := 38) dX1_fireUnburnt_37 rfl rfl rfl ?_
      refine gf_Fi_19 (npc := 41) dX1_fireUnburnt_38 rfl rfl ?_
      refine g_iload_n (npc := 42) dX1_fireUnburnt_41 rfl rfl rfl ?_
      obtain ⟨Q12, h13, hT⟩ := hT
      refine iv_Fi_77 (npc := 45) dX1_fireUnburnt_42 rfl rfl (Nat.le_of_ble_eq_true rfl) (by decide) (by decide) h13 (fun r15 s14 e16 => ?_)
      replace hT := hT r15 s14 e16
      obtain ⟨h17, hTt, hTf⟩ := hT
      refine g_if_eq (npc := 48) (tgt := 56) dX1_fireUnburnt_45 rfl (by decide) h17 (fun c18 => ?_) (fun c18 => ?_)
      · replace hT := hTt c18
        refine g_iinc (npc := 59) (y := (x3 + 1)) (l' := [(0, .ref 40), (1, .ref k1), (2, iV x2), (3, iV (x3 + 1))]) dX1_fireUnburnt_56 rfl (by decide) rfl (by omega) rfl ?_
        refine g_goto (npc := 15) dX1_fireUnburnt_59 (by decide) ?_
        exact hT
      · replace hT := hTf c18
        refine g_aload_n (npc := 49) dX1_fireUnburnt_48 rfl rfl rfl ?_
        refine g_aload_n (npc := 50) dX1_fireUnburnt_49 rfl rfl rfl ?_
        refine g_iload_n (npc := 51) dX1_fireUnburnt_50 rfl rfl rfl ?_
        refine g_iload_n (npc := 52) dX1_fireUnburnt_51 rfl rfl rfl ?_
        refine g_iconst (npc := 53) dX1_fireUnburnt_52 rfl ?_
        obtain ⟨Q19, h20, hT⟩ := hT
        refine iv_Fi_44 (npc := 56) dX1_fireUnburnt_53 rfl rfl (Nat.le_of_ble_eq_true rfl) (by decide) (by decide) h20 (fun s21 e23 => ?_)
        replace hT := hT s21 e23
        refine g_iinc (npc := 59) (y := (x3 + 1)) (l' := [(0, .ref 40), (1, .ref k1), (2, iV x2), (3, iV (x3 + 1))]) dX1_fireUnburnt_56 rfl (by decide) rfl (by omega) rfl ?_
        refine g_goto (npc := 15) dX1_fireUnburnt_59 (by decide) ?_
        exact hT
set_option maxRecDepth 20000 in
theorem e_Fi_fireUnburnt {n : Nat} {k1 : Nat} (hk1 : ar (SL n) k1 1 8) {s : Sto} {Q : Sto → Prop} (hT : H_Fi_fireUnburnt_2 n Q k1 0 s) : K_Fi_fireUnburnt n k1 s Q := by
  refine Sp.body (by decide +kernel) (Nat.le_of_ble_eq_true rfl) ?_
  show Go (SL n) M_Fi_fireUnburnt (fV0 Q) 0 0 0 [(0, .ref 40), (1, .ref k1)] [] s
  refine g_iconst (npc := 1) dX1_fireUnburnt_0 rfl ?_
  refine g_istore_n (npc := 2) (l' := [(0, .ref 40), (1, .ref k1), (2, iV 0)]) dX1_fireUnburnt_1 rfl rfl (by decide) rfl ?_
  exact hT
abbrev H_Fi_fireSets_2 (n : Nat) (Q : Int → Sto → Prop) (k1 : Nat) (x2 : Int) (s : Sto) : Prop := Go (SL n) M_Fi_fireSets (fI Q) 0 0 2 [(0, .ref 40), (1, .ref k1), (2, iV x2)] [] s
set_option maxRecDepth 20000 in
theorem b_Fi_fireSets_2 {n : Nat} {Q : Int → Sto → Prop} {k1 : Nat} {x2 : Int} (hk1 : ar (SL n) k1 1 8) {s : Sto} (hT : (-2147483648 ≤ x2 ∧ x2 < 2147483648) ∧ ((1000000 ≤ x2) → Q x2 s) ∧ ((x2 < 1000000) → ∃ Q3 : Int → Sto → Prop, K_Bu_allBurnBySecondRule n k1 s Q3 ∧ ∀ r6 s5, Q3 r6 s5 → (-2147483648 ≤ r6 ∧ r6 < 2147483648) ∧ ((¬ r6 = 0) → Q x2 s5) ∧ ((r6 = 0) → ∃ Q10 : Sto → Prop, K_Fi_fireUnburnt n k1 s5 Q10 ∧ ∀ s12, Q10 s12 → H_Fi_fireSets_2 n Q k1 (x2 + 1) s12))) : H_Fi_fireSets_2 n Q k1 x2 s := by
  refine g_iload_n (npc := 3) dX1_fireSets_2 rfl rfl rfl ?_
  refine g_ldc (npc := 5) (x := 1000000) dX1_fireSets_3 rfl tw_506 ?_
  obtain ⟨h1, hTt, hTf⟩ := hT
  refine g_icmp_ge (npc := 8) (tgt := 30) dX1_fireSets_5 rfl (by decide) ⟨h1, by decide, by decide⟩ (fun c2 => ?_) (fun c2 => ?_)
  · replace hT := hTt c2
    refine g_iload_n (npc := 31) dX1_fireSets_30 rfl rfl rfl ?_
    exact g_iret dX1_fireSets_31 rfl rfl (by decide) ⟨_, rfl, hT⟩
  · replace hT := hTf (Int.not_le.mp c2)
    refine g_aload_n (npc := 9) dX1_fireSets_8 rfl rfl rfl ?_
    refine gf_Fi_19 (npc := 12) dX1_fireSets_9 rfl rfl ?_
    refine g_aload_n (npc := 13) dX1_fireSets_12 rfl rfl rfl ?_
    obtain ⟨Q3, h4, hT⟩ := hT
    refine iv_Fi_68 (npc := 16) dX1_fireSets_13 rfl rfl (Nat.le_of_ble_eq_true rfl) (by decide) (by decide) h4 (fun r6 s5 e7 => ?_)
    replace hT := hT r6 s5 e7
    obtain ⟨h8, hTt, hTf⟩ := hT
    refine g_if_ne (npc := 19) (tgt := 30) dX1_fireSets_16 rfl (by decide) h8 (fun c9 => ?_) (fun c9 => ?_)
    · replace hT := hTt c9
      refine g_iload_n (npc := 31) dX1_fireSets_30 rfl rfl rfl ?_
      exact g_iret dX1_fireSets_31 rfl rfl (by decide) ⟨_, rfl, hT⟩
    · replace hT := hTf (Decidable.not_not.mp c9)
      refine g_aload_n (npc := 20) dX1_fireSets_19 rfl rfl rfl ?_
      refine g_aload_n (npc := 21) dX1_fireSets_20 rfl rfl rfl ?_
      obtain ⟨Q10, h11, hT⟩ := hT
      refine iv_Fi_74 (npc := 24) dX1_fireSets_21 rfl rfl (Nat.le_of_ble_eq_true rfl) (by decide) (by decide) h11 (fun s12 e14 => ?_)
      replace hT := hT s12 e14
      refine g_iinc (npc := 27) (y := (x2 + 1)) (l' := [(0, .ref 40), (1, .ref k1), (2, iV (x2 + 1))]) dX1_fireSets_24 rfl (by decide) rfl (by omega) rfl ?_
      refine g_goto (npc := 2) dX1_fireSets_27 (by decide) ?_
      exact hT
set_option maxRecDepth 20000 in
theorem e_Fi_fireSets {n : Nat} {k1 : Nat} (hk1 : ar (SL n) k1 1 8) {s : Sto} {Q : Int → Sto → Prop} (hT : H_Fi_fireSets_2 n Q k1 0 s) : K_Fi_fireSets n k1 s Q := by
  refine Sp.body (by decide +kernel) (Nat.le_of_ble_eq_true rfl) ?_
  show Go (SL n) M_Fi_fireSets (fI Q) 0 0 0 [(0, .ref 40), (1, .ref k1)] [] s
  refine g_iconst (npc := 1) dX1_fireSets_0 rfl ?_
  refine g_istore_n (npc := 2) (l' := [(0, .ref 40), (1, .ref k1), (2, iV 0)]) dX1_fireSets_1 rfl rfl (by decide) rfl ?_
  exact hT
abbrev H_Fi_mirror_2 (n : Nat) (Q : Sto → Prop) (k1 : Nat) (x2 : Int) (s : Sto) : Prop := Go (SL n) M_Fi_mirror (fV0 Q) 0 0 2 [(0, .ref 40), (1, .ref k1), (2, iV x2)] [] s
set_option maxRecDepth 20000 in
theorem b_Fi_mirror_2 {n : Nat} {Q : Sto → Prop} {k1 : Nat} {x2 : Int} (hk1 : ar (SL n) k1 1 8) {s : Sto} (hT : ((-2147483648 ≤ x2 ∧ x2 < 2147483648) ∧ -2147483648 ≤ (s 1 0) ∧ (s 1 0) < 2147483648) ∧ (((s 1 0) ≤ x2) → Q s) ∧ ((x2 < (s 1 0)) → ((-2147483648 ≤ x2 ∧ x2 < 2147483648) ∧ -2147483648 ≤ (s 1 2) ∧ (s 1 2) < 2147483648) ∧ ((x2 = (s 1 2)) → H_Fi_mirror_2 n Q k1 (x2 + 1) s) ∧ ((¬ x2 = (s 1 2)) → ∃ Q5 : Int → Sto → Prop, K_Gr_degreeOf n x2 s Q5 ∧ ∀ r8 s7, Q5 r8 s7 → (0 ≤ x2 ∧ x2 < 8) ∧ (0 ≤ x2 ∧ x2 < 8) ∧ ∀ s12, s12 = up s7 k1 (Int.toNat x2) ((r8 - 1) - (s7 k1 (Int.toNat x2))) → H_Fi_mirror_2 n Q k1 (x2 + 1) s12))) : H_Fi_mirror_2 n Q k1 x2 s := by
  refine g_iload_n (npc := 3) dX1_mirror_2 rfl rfl rfl ?_
  refine g_aload_n (npc := 4) dX1_mirror_3 rfl rfl rfl ?_
  refine gf_Fi_15 (npc := 7) dX1_mirror_4 rfl rfl ?_
  refine gf_Fi_33 (npc := 10) dX1_mirror_7 rfl rfl ?_
  obtain ⟨h1, hTt, hTf⟩ := hT
  refine g_icmp_ge (npc := 13) (tgt := 47) dX1_mirror_10 rfl (by decide) h1 (fun c2 => ?_) (fun c2 => ?_)
  · replace hT := hTt c2
    exact g_ret dX1_mirror_47 rfl (by decide) ⟨rfl, hT⟩
  · replace hT := hTf (Int.not_le.mp c2)
    refine g_iload_n (npc := 14) dX1_mirror_13 rfl rfl rfl ?_
    refine g_aload_n (npc := 15) dX1_mirror_14 rfl rfl rfl ?_
    refine gf_Fi_15 (npc := 18) dX1_mirror_15 rfl rfl ?_
    refine gf_Fi_52 (npc := 21) dX1_mirror_18 rfl rfl ?_
    obtain ⟨h3, hTt, hTf⟩ := hT
    refine g_icmp_eq (npc := 24) (tgt := 41) dX1_mirror_21 rfl (by decide) h3 (fun c4 => ?_) (fun c4 => ?_)
    · replace hT := hTt c4
      refine g_iinc (npc := 44) (y := (x2 + 1)) (l' := [(0, .ref 40), (1, .ref k1), (2, iV (x2 + 1))]) dX1_mirror_41 rfl (by decide) rfl (by omega) rfl ?_
      refine g_goto (npc := 2) dX1_mirror_44 (by decide) ?_
      exact hT
    · replace hT := hTf c4
      refine g_aload_n (npc := 25) dX1_mirror_24 rfl rfl rfl ?_
      refine g_iload_n (npc := 26) dX1_mirror_25 rfl rfl rfl ?_
      refine g_aload_n (npc := 27) dX1_mirror_26 rfl rfl rfl ?_
      refine gf_Fi_15 (npc := 30) dX1_mirror_27 rfl rfl ?_
      refine g_iload_n (npc := 31) dX1_mirror_30 rfl rfl rfl ?_
      obtain ⟨Q5, h6, hT⟩ := hT
      refine iv_Fi_23 (npc := 34) dX1_mirror_31 rfl rfl (Nat.le_of_ble_eq_true rfl) (by decide) (by decide) h6 (fun r8 s7 e9 => ?_)
      replace hT := hT r8 s7 e9
      refine g_iconst (npc := 35) dX1_mirror_34 rfl ?_
      refine g_isub (npc := 36) dX1_mirror_35 rfl ?_
      refine g_aload_n (npc := 37) dX1_mirror_36 rfl rfl rfl ?_
      refine g_iload_n (npc := 38) dX1_mirror_37 rfl rfl rfl ?_
      obtain ⟨h10, hT⟩ := hT
      refine g_iald (npc := 39) dX1_mirror_38 rfl hk1 h10 ?_
      refine g_isub (npc := 40) dX1_mirror_39 rfl ?_
      obtain ⟨h11, hT⟩ := hT
      replace hT := hT _ rfl
      refine g_iast (npc := 41) dX1_mirror_40 rfl hk1 h11  ?_
      refine g_iinc (npc := 44) (y := (x2 + 1)) (l' := [(0, .ref 40), (1, .ref k1), (2, iV (x2 + 1))]) dX1_mirror_41 rfl (by decide) rfl (by omega) rfl ?_
      refine g_goto (npc := 2) dX1_mirror_44 (by decide) ?_
      exact hT
set_option maxRecDepth 20000 in
theorem e_Fi_mirror {n : Nat} {k1 : Nat} (hk1 : ar (SL n) k1 1 8) {s : Sto} {Q : Sto → Prop} (hT : H_Fi_mirror_2 n Q k1 0 s) : K_Fi_mirror n k1 s Q := by
  refine Sp.body (by decide +kernel) (Nat.le_of_ble_eq_true rfl) ?_
  show Go (SL n) M_Fi_mirror (fV0 Q) 0 0 0 [(0, .ref 40), (1, .ref k1)] [] s
  refine g_iconst (npc := 1) dX1_mirror_0 rfl ?_
  refine g_istore_n (npc := 2) (l' := [(0, .ref 40), (1, .ref k1), (2, iV 0)]) dX1_mirror_1 rfl rfl (by decide) rfl ?_
  exact hT
set_option maxRecDepth 20000 in
theorem e_Fi_toRecurrent {n : Nat} {k1 : Nat} (hk1 : ar (SL n) k1 1 8) {s : Sto} {Q : Sto → Prop} (hT : ∃ Q1 : Int → Sto → Prop, K_Fi_settle n k1 s Q1 ∧ ∀ r4 s3, Q1 r4 s3 → ∃ Q6 : Sto → Prop, K_Fi_mirror n k1 s3 Q6 ∧ ∀ s8, Q6 s8 → ∃ Q11 : Int → Sto → Prop, K_Fi_fireSets n k1 s8 Q11 ∧ ∀ r14 s13, Q11 r14 s13 → ∃ Q16 : Sto → Prop, K_Fi_mirror n k1 s13 Q16 ∧ ∀ s18, Q16 s18 → Q s18) : K_Fi_toRecurrent n k1 s Q := by
  refine Sp.body (by decide +kernel) (Nat.le_of_ble_eq_true rfl) ?_
  show Go (SL n) M_Fi_toRecurrent (fV0 Q) 0 0 0 [(0, .ref 40), (1, .ref k1)] [] s
  refine g_aload_n (npc := 1) dX1_toRecurrent_0 rfl rfl rfl ?_
  refine g_aload_n (npc := 2) dX1_toRecurrent_1 rfl rfl rfl ?_
  obtain ⟨Q1, h2, hT⟩ := hT
  refine iv_Fi_80 (npc := 5) dX1_toRecurrent_2 rfl rfl (Nat.le_of_ble_eq_true rfl) (by decide) (by decide) h2 (fun r4 s3 e5 => ?_)
  replace hT := hT r4 s3 e5
  refine g_pop (npc := 6) dX1_toRecurrent_5 rfl rfl ?_
  refine g_aload_n (npc := 7) dX1_toRecurrent_6 rfl rfl rfl ?_
  refine g_aload_n (npc := 8) dX1_toRecurrent_7 rfl rfl rfl ?_
  obtain ⟨Q6, h7, hT⟩ := hT
  refine iv_Fi_84 (npc := 11) dX1_toRecurrent_8 rfl rfl (Nat.le_of_ble_eq_true rfl) (by decide) (by decide) h7 (fun s8 e10 => ?_)
  replace hT := hT s8 e10
  refine g_aload_n (npc := 12) dX1_toRecurrent_11 rfl rfl rfl ?_
  refine g_aload_n (npc := 13) dX1_toRecurrent_12 rfl rfl rfl ?_
  obtain ⟨Q11, h12, hT⟩ := hT
  refine iv_Fi_87 (npc := 16) dX1_toRecurrent_13 rfl rfl (Nat.le_of_ble_eq_true rfl) (by decide) (by decide) h12 (fun r14 s13 e15 => ?_)
  replace hT := hT r14 s13 e15
  refine g_pop (npc := 17) dX1_toRecurrent_16 rfl rfl ?_
  refine g_aload_n (npc := 18) dX1_toRecurrent_17 rfl rfl rfl ?_
  refine g_aload_n (npc := 19) dX1_toRecurrent_18 rfl rfl rfl ?_
  obtain ⟨Q16, h17, hT⟩ := hT
  refine iv_Fi_84 (npc := 22) dX1_toRecurrent_19 rfl rfl (Nat.le_of_ble_eq_true rfl) (by decide) (by decide) h17 (fun s18 e20 => ?_)
  replace hT := hT s18 e20
  exact g_ret dX1_toRecurrent_22 rfl (by decide) ⟨rfl, hT⟩
